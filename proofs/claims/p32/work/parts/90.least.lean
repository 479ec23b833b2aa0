section
/-! the second one -/
variable {wq : Prop}
def FL : List Nat := List.range' 55 6 ++ (List.range' 62 9 ++ ([15, 71, 72] ++ (List.range' 79 10 ++ List.range' 103 12)))
theorem FL_not {k : Nat} (h : k ∈ FL) : k = 15 ∨ (55 ≤ k ∧ k ≤ 60) ∨ (62 ≤ k ∧ k ≤ 72) ∨ (79 ≤ k ∧ k ≤ 88) ∨ (103 ≤ k ∧ k ≤ 114) := by
  unfold FL at h
  simp only [List.mem_append, List.mem_range'_1, List.mem_cons, List.not_mem_nil, or_false] at h
  omega
theorem FL_ag {μ μ' : Mem} (h : ∀ k, k ≠ 15 → (k < 55 ∨ 60 < k) → (k < 62 ∨ 72 < k) → (k < 79 ∨ 88 < k) → (k < 103 ∨ 114 < k) → k ≠ 89 → μ' k = μ k) (hj : ∀ j, j ≠ 21 → j ≠ 22 → μ' 89 j = μ 89 j) : Ag FL [21, 22] μ μ' := by
  refine ⟨fun k h9 hk => ?_, fun j q => ?_⟩
  · unfold FL at hk
    simp only [List.mem_append, List.mem_range'_1, List.mem_cons, List.not_mem_nil, or_false, not_or, not_and] at hk
    exact h k (by omega) (by omega) (by omega) (by omega) (by omega) h9
  · simp only [List.mem_cons, List.not_mem_nil, or_false, not_or] at q
    exact hj j q.1 q.2
theorem Inv.free3 {μ μ' : Mem} (hI : Inv wq μ) (h : ∀ k, k ≠ 15 → (k < 55 ∨ 60 < k) → (k < 62 ∨ 72 < k) → (k < 79 ∨ 88 < k) → (k < 103 ∨ 114 < k) → k ≠ 89 → μ' k = μ k) (hj : ∀ j, j ≠ 21 → j ≠ 22 → μ' 89 j = μ 89 j) : Inv wq μ' := by
  have g := FL_ag h hj
  obtain ⟨i1, i2, i3, i4, i5, i6⟩ := hI
  exact ⟨i1.ag g, i2.ag g, i3.ag g ⟨fun k h1 h2 h3 => by have := FL_not h3; omega, fun h3 => by have := FL_not h3; omega⟩, i4.ag g (by rw [g.at 9]), i5.ag g, i6.ag g⟩
theorem m_all2 {N l m : Nat} {y1 : Int32} {μ0 ν κ : Mem} {b0 : Nat → Int32} (hκ : ∀ p, p < N → κ 14 p = μ0 99 p) (hy : ¬ y1 = 0) (hL : RelN wq N (CL μ0) (MT μ0 0)) (h7 : N ≤ 7) (hl : l ≤ 2) (hm : m ≤ 5) (h2 : l = 2 → 1 ≤ m) (hν : ∀ k, 94 ≤ k → k ≤ 99 → ν k = μ0 k) (hr : ∀ p, p < N → ν 105 p = nI p) : ∃ μ', fX9_second_46 FF FF (nI l) (nI m) (-1) 1 ν = some (enc (sca N (eN l m μ0 N) (Sk y1 κ N) b0).1, μ') ∧ ∀ k, k ≠ 103 → k ≠ 104 → k ≠ 105 → μ' k = ν k := by
  have hr' : ∀ p, p < N → ν 105 p = idR p := hr
  have hP : PermF (ν 105) N := idR_perm.congr hr
  have h94 : ν 94 0 = nI N := by rw [hν 94 (by omega) (by omega)]; exact hL.2.2.1
  obtain ⟨n, hn⟩ : ∃ n, FF = n + 1 := ⟨9999999, rfl⟩
  have n1 : 5040 < n := by rw [FF_e] at hn; omega
  obtain ⟨μe, g1, g2⟩ := m_row (μ0 := μ0) (μ := ν) hL hl hm h2 hP (fun k q1 q2 => hν k q1 (by omega)) rfl
  have hE : Rcd (eN l m μ0 N (ν 105)) := eN_b hL h2 hP
  have hE0 : eN l m μ0 N (ν 105) = eN l m μ0 N idR := eN_congr hr
  have cE : ∀ r s : Nat → Int32, (∀ p, p < N → r p = s p) → eN l m μ0 N r = eN l m μ0 N s := fun r s h => eN_congr h
  have start : fX9_second_46 FF FF (nI l) (nI m) (-1) 1 ν = cal (fX9_isOrder FF ν) (fun r7 m6 => if r7 = 0 then cal (fX9_endOf FF 105 (nI l) (nI m) m6) (fun r11 m10 => cal (fX9_nextRow FF m10) (fun rr mm => fX9_second_46 FF n (nI l) (nI m) r11 rr mm)) else cal (fX9_nextRow FF m6) (fun rr mm => fX9_second_46 FF n (nI l) (nI m) (-1) rr mm)) := by
    have : fX9_second_46 FF FF (nI l) (nI m) (-1) 1 ν = fX9_second_46 FF (n + 1) (nI l) (nI m) (-1) 1 ν := by rw [← hn]
    rw [this]
    show fX9_second_46_b FF _ _ _ _ _ _ = _
    unfold fX9_second_46_b
    rw [if_neg one_ne]
    simp only [if_pos (show (-1 : Int32) < 0 by decide)]
  rw [start]
  rcases m_isOrd (N := N) (μ := ν) (by omega) h94 with ⟨o1, o2⟩ | ⟨o1, o2⟩
  · have hS : Sk y1 κ N idR := ⟨hy, fun p hp => by
      have := o1 p hp
      rw [hν 99 (by omega) (by omega)] at this
      exact (hr' p hp).symm.trans (this.trans (hκ p hp).symm)⟩
    obtain ⟨μ', w1, w2⟩ := m_scan2 (y1 := y1) (μ0 := μ0) (ν := ν) hκ hy hL h7 hl hm h2 hν 5040 n (ν 105) b0 2147483647 ν hP (by omega) n1 (Or.inl rfl) (fun _ _ _ _ => rfl) rfl
    obtain ⟨z1, z2⟩ := scn_congr (S := Sk y1 κ N) cE Sk.congr 5040 (ν 105) idR 2147483647 b0 b0 hr' (fun _ _ => rfl)
    have es : sca N (eN l m μ0 N) (Sk y1 κ N) b0 = scn N (eN l m μ0 N) (Sk y1 κ N) 5040 idR 2147483647 b0 := if_pos hS
    rw [o2, cal_n, if_neg one_ne, es, ← z1]
    exact ⟨μ', w1, w2⟩
  · have hS : ¬ Sk y1 κ N idR := fun w => o1 (fun p hp => by
      rw [hν 99 (by omega) (by omega), hr' p hp]
      exact (w.2 p hp).trans (hκ p hp))
    obtain ⟨μ', w1, w2⟩ := m_scan2 (y1 := y1) (μ0 := μ0) (ν := ν) hκ hy hL h7 hl hm h2 hν 5040 n (ν 105) idR (eN l m μ0 N (ν 105)) μe hP (by omega) n1 (Or.inr hE) (fun k q1 q2 q3 => g2 k (by omega)) (g2 105 (by omega))
    obtain ⟨z1, z2⟩ := scn_congr (S := Sk y1 κ N) cE Sk.congr 5040 (ν 105) idR (eN l m μ0 N (ν 105)) idR idR hr' (fun _ _ => rfl)
    have es : sca N (eN l m μ0 N) (Sk y1 κ N) b0 = scn N (eN l m μ0 N) (Sk y1 κ N) 5040 idR (eN l m μ0 N idR) idR := if_neg hS
    rw [o2, cal_n, if_pos rfl, g1, cal_n, es, ← hE0, ← z1]
    rw [hE.enc.1] at w1
    exact ⟨μ', w1, w2⟩
theorem sca_rcd {N l m : Nat} {y1 : Int32} {μ0 κ : Mem} {b0 : Nat → Int32} (hL : RelN wq N (CL μ0) (MT μ0 0)) (hN : 2 ≤ N) (h2 : l = 2 → 1 ≤ m) : Rcd (sca N (eN l m μ0 N) (Sk y1 κ N) b0).1 := by
  have hE : ∀ r, PermF r N → Rcd (eN l m μ0 N r) := fun r h => eN_b hL h2 h
  by_cases hS : Sk y1 κ N idR
  · have es : sca N (eN l m μ0 N) (Sk y1 κ N) b0 = scn N (eN l m μ0 N) (Sk y1 κ N) (5039 + 1) idR 2147483647 b0 := if_pos hS
    rw [es]
    have hf : fd idR (N - 1) = some (N - 2) := by
      obtain ⟨k, hk⟩ : ∃ k, N = k + 2 := ⟨N - 2, by omega⟩
      subst hk
      show fd idR (k + 1) = some k
      unfold fd
      have := hL.1
      rw [if_pos (show idR k ≤ idR (k + 1) from nI_le (by omega) (by omega))]
    cases hx : nxR N idR with
    | none =>
      unfold nxR at hx
      rw [hf] at hx
      cases hx
    | some v =>
      obtain ⟨i, r'⟩ := v
      obtain ⟨s1, s2, s3, j, s4, s5, s6, s7⟩ := nxR_some hx
      have hP' := (nxR_perm idR_perm hx).1
      have nS : ¬ Sk y1 κ N r' := fun w => by
        have a := w.2 i (by omega)
        have b := hS.2 i (by omega)
        rw [s6] at a
        have c : nI j = nI i := a.trans b.symm
        have := hL.1
        have := nI_inj (by omega) (by omega) c
        omega
      rw [scn_gt hx (by
        obtain ⟨x, hx1, hx2⟩ := hE r' hP'
        rw [hx2]
        exact max_nle hx1) nS]
      exact scn_rcd hE 5039 r' r' _ hP' (hE r' hP')
  · have es : sca N (eN l m μ0 N) (Sk y1 κ N) b0 = scn N (eN l m μ0 N) (Sk y1 κ N) 5040 idR (eN l m μ0 N idR) idR := if_neg hS
    rw [es]
    exact scn_rcd hE 5040 idR idR _ idR_perm (hE idR idR_perm)
theorem op_second (a b : Int32) : OpW wq (fX8_second FF a b) (fX9_second FF a b) := by
  intro μ hI
  unfold fX8_second fX9_second
  rcases law_or a b with ⟨l, m, hl, hm, h2, -, rfl, rfl, w1, w2⟩ | ⟨w1, w2⟩
  · obtain ⟨N, hL⟩ := hI.2.1
    have h9 : μ 9 6 = nI N := hL.2.1
    have h94 : μ 94 0 = nI N := hL.2.2.1
    have hN := hL.1
    by_cases q1 : 2 ≤ N
    · by_cases q2 : N ≤ 7
      · obtain ⟨μs, f1, f2, f3, f4⟩ := follow_n (l := l) (m := m) (μ := μ)
        obtain ⟨μ1, a1, a2, a3⟩ := c_all (y1 := 1) (μs := μs) hL q2 hl hm h2 f2 f3 f4
        obtain ⟨μb, b1, b2, b3⟩ := m_begin (N := N) (μ := μ1) (by omega) (by rw [a3 94 (by omega) (by omega) (by omega) (by omega)]; exact h94)
        obtain ⟨μ2, c1, c2⟩ := m_all2 (y1 := 1) (μ0 := μ) (ν := μb) (κ := upM μ 14 (μ 99)) (b0 := μ 79) (fun p _ => rfl) one_ne hL q2 hl hm h2 (fun k z1 z2 => by rw [b3 k (by omega), a3 k (by omega) (by omega) (by omega) (by omega)]) b2
        have rc := sca_rcd (y1 := 1) (κ := upM μ 14 (μ 99)) (b0 := μ 79) hL q1 h2 (l := l) (m := m)
        rw [rc.enc.1] at c1
        have kk : ∀ k, k ≠ 103 → k ≠ 104 → k ≠ 105 → k ≠ 71 → k ≠ 72 → k ≠ 79 → (k < 55 ∨ 60 < k) → μ2 k = μ k := fun k z1 z2 z3 z4 z5 z6 z7 => by rw [c2 k z1 z2 z3, b3 k z3, a3 k z4 z5 z6 z7]
        have es : wq → Sk 1 μ N = Sk 1 (upM μ 14 (μ 99)) N := fun hq => by
          funext r
          unfold Sk
          exact propext ⟨fun w => ⟨w.1, fun p hp => (w.2 p hp).trans ((hL.eqs hp).2.2.2.2 hq)⟩, fun w => ⟨w.1, fun p hp => (w.2 p hp).trans ((hL.eqs hp).2.2.2.2 hq).symm⟩⟩
        refine ⟨(sca N (eN l m μ N) (Sk 1 μ N) (μ 79)).1, (sca N (eN l m μ N) (Sk 1 (upM μ 14 (μ 99)) N) (μ 79)).1, μ1, μ2, ?_, ?_, hI.free3 (fun k z1 z2 z3 z4 z5 z6 => kk k (by omega) (by omega) (by omega) (by omega) (by omega) (by omega) z2) (fun j _ _ => by rw [kk 89 (by omega) (by omega) (by omega) (by omega) (by omega) (by omega) (by omega)]), fun hq => by rw [es hq]⟩
        · rw [w1, cal_n, if_neg one_ne, h9, if_pos (show (2 : Int32) ≤ nI N from nI_le (a := 2) q1 (by omega)), if_pos (show nI N ≤ (7 : Int32) from nI_le (b := 7) q2 (by omega)), f1, cav_n, a1, cal_n]
        · rw [w2, cal_n, if_neg one_ne]
          have e94 : μ1 94 0 = nI N := by rw [a3 94 (by omega) (by omega) (by omega) (by omega)]; exact h94
          rw [show (0 : Int32) = nI 0 from rfl, rd_n (by decide), e94, if_pos (show (2 : Int32) ≤ nI N from nI_le (a := 2) q1 (by omega)), rd_n (by decide), e94, if_pos (show nI N ≤ (7 : Int32) from nI_le (b := 7) q2 (by omega)), b1, cav_n]
          exact c1
      · refine ⟨-4, -4, μ, μ, ?_, ?_, hI, fun _ => rfl⟩
        · rw [w1, cal_n, if_neg one_ne, h9, if_pos (show (2 : Int32) ≤ nI N from nI_le (a := 2) q1 (by omega)), if_neg (show ¬ nI N ≤ (7 : Int32) from nI_ge (a := 7) (by omega) (by omega))]
        · rw [w2, cal_n, if_neg one_ne, show (0 : Int32) = nI 0 from rfl, rd_n (by decide), h94, if_pos (show (2 : Int32) ≤ nI N from nI_le (a := 2) q1 (by omega)), rd_n (by decide), h94, if_neg (show ¬ nI N ≤ (7 : Int32) from nI_ge (a := 7) (by omega) (by omega))]
    · refine ⟨-1, -1, μ, μ, ?_, ?_, hI, fun _ => rfl⟩
      · rw [w1, cal_n, if_neg one_ne, h9, if_neg (show ¬ (2 : Int32) ≤ nI N from nI_ge (b := 2) (by omega) (by omega))]
      · rw [w2, cal_n, if_neg one_ne, show (0 : Int32) = nI 0 from rfl, rd_n (by decide), h94, if_neg (show ¬ (2 : Int32) ≤ nI N from nI_ge (b := 2) (by omega) (by omega))]
  · exact ⟨-2, -2, μ, μ, by rw [w1, cal_n, if_pos rfl], by rw [w2, cal_n, if_pos rfl], hI, fun _ => rfl⟩
end
section
/-! all rounds -/
theorem gt80 : ∀ i, i < 8 → gt 80 i = 81 + i := by decide
theorem ln81 : ∀ i, i < 8 → ln (81 + i) = 8 := by decide
theorem c_way {N a b : Nat} {μ : Mem} (hN : N ≤ 40) (ha : a < N) (hb : b < N) (hd : Dg N (μ 12) (μ 13)) : fX8_wayBetween FF (nI a) (nI b) μ = some (goC (μ 74) (μ 75) (tn (μ 13 a)) (tn (μ 12 b)), μ) := by
  unfold fX8_wayBetween
  rw [rd_n (by show a < 40; omega), rd_n (by show b < 40; omega), (hd a ha).2.2, (hd b hb).1.2, c_going (hd a ha).2.1 (hd b hb).1.1, cal_n]
  rw [← (hd a ha).2.2, ← (hd b hb).1.2]
def WG (μ : Mem) (a b : Nat) : Int32 := goC (μ 74) (μ 75) (tn (μ 13 a)) (tn (μ 12 b))
def FW (μ μ' : Mem) : Prop := ∀ k, (k < 81 ∨ 88 < k) → μ' k = μ k
theorem FW.dg {N : Nat} {μ μ' : Mem} (h : FW μ μ') (hd : Dg N (μ 12) (μ 13)) : Dg N (μ' 12) (μ' 13) := by
  rw [h 12 (by omega), h 13 (by omega)]; exact hd
theorem FW.wg {μ μ' : Mem} (h : FW μ μ') : WG μ' = WG μ := by
  funext a b
  unfold WG
  rw [h 74 (by omega), h 75 (by omega), h 12 (by omega), h 13 (by omega)]
theorem c_lay_in {N i : Nat} {μ : Mem} (hN : N ≤ 8) (hi : i < N) (h9 : μ 9 6 = nI N) (hd : Dg N (μ 12) (μ 13)) (rec2 : Int32 → Mem → Option Mem) : ∀ (d n j : Nat) (ν : Mem), j + d = N → d < n → FW μ ν → (∀ p, p < j → ν (81 + i) p = WG μ i p) → ∃ ν', fX8_layWays_15 FF rec2 n (nI i) (nI j) ν = rec2 (nI (i + 1)) ν' ∧ (∀ k, k ≠ 81 + i → ν' k = ν k) ∧ ∀ p, p < N → ν' (81 + i) p = WG μ i p := by
  intro d
  induction d with
  | zero =>
    intro n j ν hj hn hF hp
    obtain ⟨n, rfl⟩ : ∃ n', n = n' + 1 := ⟨n - 1, by omega⟩
    obtain rfl : j = N := by omega
    refine ⟨ν, ?_, fun _ _ => rfl, hp⟩
    show fX8_layWays_15_b FF _ _ _ _ ν = _
    unfold fX8_layWays_15_b
    rw [hF 9 (by omega), h9, if_pos (nI_le (by omega) (by omega)), nI_add1]
  | succ d ih =>
    intro n j ν hj hn hF hp
    obtain ⟨n, rfl⟩ : ∃ n', n = n' + 1 := ⟨n - 1, by omega⟩
    have l8 : ln (81 + i) = 8 := ln81 i (by omega)
    obtain ⟨m4, f4, a4, b4, c4⟩ := wr_x (μ := ν) (k := 81 + i) (i := j) (WG μ i j) (by rw [l8]; omega)
    obtain ⟨ν', q1, q2, q3⟩ := ih n (j + 1) m4 (by omega) (by omega) (fun k hk => by rw [c4 k (by omega)]; exact hF k hk) (fun p hp' => by
      by_cases c : p = j
      · rw [c, a4]
      · rw [b4 p c]; exact hp p (by omega))
    refine ⟨ν', ?_, fun k hk => by rw [q2 k hk, c4 k hk], q3⟩
    show fX8_layWays_15_b FF _ _ _ _ ν = _
    unfold fX8_layWays_15_b
    rw [hF 9 (by omega), h9, if_neg (nI_ge (by omega) (by omega)), rr_n (by show i < 8; omega), gt80 i (by omega), c_way (N := N) (by omega) hi (by omega) (hF.dg hd), cal_n]
    have e : goC (ν 74) (ν 75) (tn (ν 13 i)) (tn (ν 12 j)) = WG μ i j := by rw [← hF.wg]; rfl
    rw [e, f4, nI_add1]
    exact q1
theorem c_layW {N : Nat} {μ : Mem} (hN : N ≤ 8) (h9 : μ 9 6 = nI N) (hd : Dg N (μ 12) (μ 13)) : ∃ μ', fX8_layWays FF μ = some μ' ∧ FW μ μ' ∧ ∀ i, i < N → ∀ p, p < N → μ' (81 + i) p = WG μ i p := by
  have loop : ∀ (d n i : Nat) (ν : Mem), i + d = N → d < n → FW μ ν → (∀ a, a < i → ∀ p, p < N → ν (81 + a) p = WG μ a p) → ∃ μ', fX8_layWays_2 FF n (nI i) ν = some μ' ∧ FW μ μ' ∧ ∀ i, i < N → ∀ p, p < N → μ' (81 + i) p = WG μ i p := by
    intro d
    induction d with
    | zero =>
      intro n i ν hi hn hF hp
      obtain ⟨n, rfl⟩ : ∃ n', n = n' + 1 := ⟨n - 1, by omega⟩
      obtain rfl : i = N := by omega
      refine ⟨ν, ?_, hF, hp⟩
      show fX8_layWays_2_b FF _ _ ν = _
      unfold fX8_layWays_2_b
      rw [hF 9 (by omega), h9, if_pos (nI_le (by omega) (by omega))]
    | succ d ih =>
      intro n i ν hi hn hF hp
      obtain ⟨n, rfl⟩ : ∃ n', n = n' + 1 := ⟨n - 1, by omega⟩
      obtain ⟨ν', q1, q2, q3⟩ := c_lay_in (i := i) hN (by omega) h9 hd (fX8_layWays_2 FF n) N FF 0 ν (by omega) (by rw [FF_e]; omega) hF (fun p hp => by omega)
      have e : fX8_layWays_2 FF (n + 1) (nI i) ν = fX8_layWays_2 FF n (nI (i + 1)) ν' := by
        show fX8_layWays_2_b FF _ _ ν = _
        unfold fX8_layWays_2_b
        rw [hF 9 (by omega), h9, if_neg (nI_ge (by omega) (by omega))]
        exact q1
      rw [e]
      refine ih n (i + 1) ν' (by omega) (by omega) (fun k hk => by rw [q2 k (by omega)]; exact hF k hk) (fun a ha p hp' => ?_)
      by_cases c : a = i
      · rw [c]; exact q3 p hp'
      · rw [q2 _ (by omega)]; exact hp a (by omega) p hp'
  exact loop N FF 0 μ (by omega) (by rw [FF_e]; omega) (fun _ _ => rfl) (fun a ha => by omega)
def cN (μ : Mem) (N : Nat) (r : Nat → Int32) : Int32 := sumF (wy (μ 74) (μ 75) (μ 12) (μ 13) N (fun p => tn (r p))) N
theorem cN_congr {μ : Mem} {N : Nat} {r s : Nat → Int32} (h : ∀ p, p < N → r p = s p) : cN μ N r = cN μ N s := by
  unfold cN
  refine sumF_congr (fun i hi => ?_)
  have hx : nxt N i < N := by
    unfold nxt
    by_cases c : N ≤ i + 1
    · rw [if_pos c]; omega
    · rw [if_neg c]; omega
  unfold wy
  show goC _ _ (tn (μ 13 (tn (r i)))) (tn (μ 12 (tn (r (nxt N i))))) = goC _ _ (tn (μ 13 (tn (s i)))) (tn (μ 12 (tn (s (nxt N i)))))
  rw [h i hi, h _ hx]
theorem c_roundW {N : Nat} {μ0 μ : Mem} {r : Nat → Int32} (h1 : 1 ≤ N) (hN : N ≤ 8) (h9 : μ 9 6 = nI N) (h72 : μ 72 = r) (hP : PermF r N) (hw : ∀ i, i < N → ∀ p, p < N → μ (81 + i) p = WG μ0 i p) : fX8_roundOfWays FF 72 μ = some (cN μ0 N r, μ) := by
  obtain ⟨p1, p2⟩ := hP.inj (by omega)
  have p1' : ∀ i, i < N → tn (r i) < N := p1.1
  have way : ∀ (α : Type) (a b : Nat) (f : Int32 → Option α), a < N → b < N → rd μ 72 (nI a) (fun v5 => rr 80 v5 (fun t6 => rd μ 72 (nI b) (fun v7 => rd μ t6 v7 f))) = f (WG μ0 (tn (r a)) (tn (r b))) := fun α a b f ha hb => by
    rw [rd_n (by show a < 8; omega), h72, p2 a ha, rr_n (by show tn (r a) < 8; have := p1' a ha; omega), gt80 _ (by have := p1' a ha; omega), rd_n (by show b < 8; omega), h72, p2 b hb, rd_n (by rw [ln81 _ (by have := p1' a ha; omega)]; have := p1' b hb; omega), hw _ (p1' a ha) _ (p1' b hb), tn_n (by have := p1' a ha; omega), tn_n (by have := p1' b hb; omega)]
  have loop : ∀ (d n i : Nat), i + d + 1 = N → d < n → ∀ v, fX8_roundOfWays_26 FF 72 n (nI (N - 1)) (v + sumF (fun p => WG μ0 (tn (r p)) (tn (r (p + 1)))) i) (nI i) μ = some (v + sumF (fun p => WG μ0 (tn (r p)) (tn (r (p + 1)))) (N - 1), μ) := by
    intro d
    induction d with
    | zero =>
      intro n i hi hn v
      obtain ⟨n, rfl⟩ : ∃ n', n = n' + 1 := ⟨n - 1, by omega⟩
      show fX8_roundOfWays_26_b FF _ _ _ _ _ μ = _
      unfold fX8_roundOfWays_26_b
      rw [if_pos (nI_le (by omega) (by omega)), show i = N - 1 by omega]
    | succ d ih =>
      intro n i hi hn v
      obtain ⟨n, rfl⟩ : ∃ n', n = n' + 1 := ⟨n - 1, by omega⟩
      show fX8_roundOfWays_26_b FF _ _ _ _ _ μ = _
      unfold fX8_roundOfWays_26_b
      rw [if_neg (nI_ge (by omega) (by omega)), nI_add1, way _ i (i + 1) _ (by omega) (by omega), i_aa]
      exact ih n (i + 1) (by omega) (by omega) v
  unfold fX8_roundOfWays
  rw [h9, show (1 : Int32) = nI 1 from rfl, nI_sub h1, show (0 : Int32) = nI 0 from rfl, way _ (N - 1) 0 _ (by omega) (by omega)]
  have l := loop (N - 1) FF 0 (by omega) (by rw [FF_e]; omega) (WG μ0 (tn (r (N - 1))) (tn (r 0)))
  rw [show sumF (fun p => WG μ0 (tn (r p)) (tn (r (p + 1)))) 0 = 0 from rfl, i_a0] at l
  refine l.trans ?_
  obtain ⟨M, rfl⟩ : ∃ M, N = M + 1 := ⟨N - 1, by omega⟩
  have e : cN μ0 (M + 1) r = sumF (fun p => WG μ0 (tn (r p)) (tn (r (p + 1)))) M + WG μ0 (tn (r M)) (tn (r 0)) := by
    show sumF (wy _ _ _ _ (M + 1) _) M + wy _ _ _ _ (M + 1) _ M = _
    congr 1
    · refine sumF_congr (fun i hi => ?_)
      unfold wy nxt
      rw [if_neg (by omega)]
      rfl
    · unfold wy nxt
      rw [if_pos (by omega)]
      rfl
  rw [e, show M + 1 - 1 = M from rfl, i_ac]
end
section
/-! all rounds, on both sides -/
variable {wq : Prop}
noncomputable def thr (N : Nat) (C : (Nat → Int32) → Int32) : Nat → (Nat → Int32) → Int32 → Int32
  | 0, _, e => e
  | d + 1, r, e =>
    match nxR N r with
    | none => e
    | some (i, r') => if i = 0 then e else thr N C d r' (imin e (C r'))
theorem thr_n {N d : Nat} {C : (Nat → Int32) → Int32} {r : Nat → Int32} {e : Int32} (h : nxR N r = none) : thr N C (d + 1) r e = e := by
  unfold thr
  rw [h]
theorem thr_0 {N d : Nat} {C : (Nat → Int32) → Int32} {r r' : Nat → Int32} {e : Int32} (h : nxR N r = some (0, r')) : thr N C (d + 1) r e = e := by
  unfold thr
  rw [h]
  exact if_pos rfl
theorem thr_s {N d i : Nat} {C : (Nat → Int32) → Int32} {r r' : Nat → Int32} {e : Int32} (h : nxR N r = some (i, r')) (hi : i ≠ 0) : thr N C (d + 1) r e = thr N C d r' (imin e (C r')) := by
  rw [thr, h]
  exact if_neg hi
theorem thr_congr {N : Nat} {C : (Nat → Int32) → Int32} (hC : ∀ r s, (∀ p, p < N → r p = s p) → C r = C s) : ∀ (d : Nat) (r s : Nat → Int32) (e : Int32), (∀ p, p < N → r p = s p) → thr N C d r e = thr N C d s e
  | 0, _, _, _, _ => rfl
  | d + 1, r, s, e, h => by
    rcases nxR_congr h with ⟨h1, h2⟩ | ⟨i, r', s', h1, h2, h3⟩
    · rw [thr_n h1, thr_n h2]
    · by_cases hi : i = 0
      · subst hi
        rw [thr_0 h1, thr_0 h2]
      · rw [thr_s h1 hi, thr_s h2 hi, hC r' s' h3]
        exact thr_congr hC d r' s' _ h3
theorem perm0 {N i : Nat} {r r' : Nat → Int32} (hN : N ≤ 40) (hP : PermF r N) (h0 : r 0 = 0) (hx : nxR N r = some (i, r')) : (i = 0 → ¬ r' 0 = 0) ∧ (i ≠ 0 → r' 0 = 0) := by
  obtain ⟨s1, s2, s3, j, s4, s5, s6, s7⟩ := nxR_some hx
  obtain ⟨p1, p2⟩ := hP.inj hN
  refine ⟨fun hi q => ?_, fun hi => by rw [s2 0 (by omega)]; exact h0⟩
  subst hi
  have a := p1.2 0 j s4 s5
  have a : tn (r 0) ≠ tn (r j) := a
  rw [h0, ← s6, q] at a
  exact a rfl
theorem c_thr {N : Nat} {μ0 : Mem} (h1 : 1 ≤ N) (hN : N ≤ 8) (h9 : μ0 9 6 = nI N) (h71 : μ0 71 1 = nI N) (hw : ∀ i, i < N → ∀ p, p < N → μ0 (81 + i) p = WG μ0 i p) : ∀ (d n c : Nat) (r : Nat → Int32) (e : Int32) (μ : Mem), PermF r N → r 0 = 0 → 5040 ≤ rkR N r + d → c ≤ rkR N r → d < n → (∀ k, k ≠ 72 → μ k = μ0 k) → μ 72 = r → ∃ μ', cal (fX6_step FF μ) (fun r6 m5 => fX8_through_54 FF n e r6 (nI (c + 1)) m5) = some (thr N (cN μ0 N) d r e, μ') ∧ ∀ k, k ≠ 72 → μ' k = μ0 k := by
  intro d
  induction d with
  | zero =>
    intro n c r e μ hP h0 hd
    have := rkR_b hP (Or.inr ⟨hN, h0⟩)
    omega
  | succ d ih =>
    intro n c r e μ hP h0 hd hc hn hk h72
    obtain ⟨n, rfl⟩ : ∃ n', n = n' + 1 := ⟨n - 1, by omega⟩
    have eμ : μ = upM μ 72 r := by rw [← h72, upM_id]
    have st := c_step0 (N := N) (μ := μ) (r := r) hN (by rw [hk 71 (by omega)]; exact h71)
    rw [← eμ] at st
    rw [st]
    have stop : ∀ (v : Int32) (ν : Mem), v ≤ 0 → fX8_through_54 FF (n + 1) e v (nI (c + 1)) ν = some (e, ν) := fun v ν hv => by
      show fX8_through_54_b FF _ _ _ _ ν = _
      unfold fX8_through_54_b
      by_cases q : (5040 : Int32) ≤ nI (c + 1)
      · rw [if_pos q]
      · rw [if_neg q, if_pos hv]
    cases hx : nxR N r with
    | none =>
      rw [thr_n hx]
      refine ⟨μ, ?_, hk⟩
      show cal (some ((-1 : Int32), μ)) _ = _
      rw [cal_n]
      exact stop (-1) μ (by decide)
    | some v =>
      obtain ⟨i, r'⟩ := v
      have hP' := (nxR_perm hP hx).1
      have hb := (nxR_perm hP hx).2
      have k0 : ∀ k, k ≠ 72 → upM μ 72 r' k = μ0 k := fun k q1 => by rw [upM_ne q1]; exact hk k q1
      show ∃ μ', cal (some (nI i, upM μ 72 r')) _ = _ ∧ _
      rw [cal_n]
      by_cases hi : i = 0
      · subst hi
        rw [thr_0 hx]
        exact ⟨_, stop (nI 0) _ (by decide), k0⟩
      · have h0' := (perm0 (by omega) hP h0 hx).2 hi
        have rl := rkR_lt (by omega) hP hx
        have rb' := rkR_b hP' (Or.inr ⟨hN, h0'⟩)
        rw [thr_s hx hi]
        have cw := c_roundW (μ0 := μ0) (μ := upM μ 72 r') h1 hN (by rw [k0 9 (by omega)]; exact h9) upM_self hP' (fun a ha p hp => by rw [k0 _ (by omega)]; exact hw a ha p hp)
        have e1 : fX8_through_54 FF (n + 1) e (nI i) (nI (c + 1)) (upM μ 72 r') = cal (fX6_step FF (upM μ 72 r')) (fun r6 m5 => fX8_through_54 FF n (imin e (cN μ0 N r')) r6 (nI (c + 1 + 1)) m5) := by
          show fX8_through_54_b FF _ _ _ _ _ = _
          unfold fX8_through_54_b
          rw [show (5040 : Int32) = nI 5040 from rfl, if_neg (nI_ge (by omega) (by omega)), if_neg (show ¬ nI i ≤ (0 : Int32) from nI_ge (a := 0) (by omega) (by omega)), cw, cal_n, nI_add1]
        rw [e1]
        exact ih n (c + 1) r' _ _ hP' h0' (by omega) (by omega) (by omega) k0 upM_self
theorem m_cst {N : Nat} {μ0 μ : Mem} {r : Nat → Int32} (hL : RelN wq N (CL μ0) (MT μ0 0)) (hpr : PR μ0) (hk : ∀ k, 94 ≤ k → k ≤ 102 → k ≠ 100 → μ k = μ0 k) (hr : μ 105 = r) (hP : PermF r N) : fX9_roundCost FF 105 μ = some (cN μ0 N r, upM μ 89 (upd (μ 89) 22 1)) := by
  obtain ⟨p1, p2⟩ := hP.inj hL.1
  have hN := hL.1
  obtain ⟨μ2, hμ2⟩ : ∃ μ2, μ2 = upM μ 89 (upd (μ 89) 22 1) := ⟨_, rfl⟩
  have k : ∀ c, c ≠ 89 → μ2 c = μ c := fun c hc => by rw [hμ2, upM_ne hc]
  have eqs : ∀ s, s < N → μ0 12 s = μ2 97 s ∧ μ0 13 s = μ2 98 s := fun s hs => by
    rw [k 97 (by omega), k 98 (by omega), hk 97 (by omega) (by omega) (by omega), hk 98 (by omega) (by omega) (by omega)]
    exact ⟨(hL.eqs hs).2.2.1, (hL.eqs hs).2.2.2.1⟩
  have dm : Dg N (μ2 97) (μ2 98) := fun i hi => by
    rw [← (eqs i hi).1, ← (eqs i hi).2]
    exact hL.dg i hi
  have ml := m_cost_loop (k1 := 105) (σ := fun p => tn (r p)) (μ := μ2) hN (show N ≤ ln 105 from hN) (fun p hp => ⟨p1.1 p hp, by rw [k 105 (by omega), hr]; exact p2 p hp⟩) dm (by rw [hμ2, upM_self, upd_s]; decide) N FF 0 (by omega) (by rw [FF_e]; omega)
  have ew := sumF_congr (n := N) (wy_congr (U := μ0 74) (D := μ0 75) (U' := μ2 101) (D' := μ2 102) (f' := μ2 97) (t' := μ2 98) (σ := fun p => tn (r p)) (fun p hp => p1.1 p hp) hL.dg eqs (fun i hi => by
    rw [k 101 (by omega), k 102 (by omega), hk 101 (by omega) (by omega) (by omega), hk 102 (by omega) (by omega) (by omega)]
    exact ⟨(hpr i hi).1, (hpr i hi).2.1⟩))
  unfold fX9_roundCost
  rw [show (0 : Int32) = nI 0 from rfl, rd_n (by decide), hk 94 (by omega) (by omega) (by omega), show μ0 94 0 = nI N from hL.2.2.1, st_n, ← hμ2]
  refine ml.trans ?_
  rw [← ew]
  rfl
theorem m_thr {N : Nat} {μ0 ν : Mem} (hL : RelN wq N (CL μ0) (MT μ0 0)) (hpr : PR μ0) (h1 : 1 ≤ N) (hN : N ≤ 8) (hν : ∀ k, 94 ≤ k → k ≤ 102 → k ≠ 100 → ν k = μ0 k) : ∀ (d n : Nat) (r : Nat → Int32) (e : Int32) (μ : Mem), PermF r N → r 0 = 0 → 5040 ≤ rkR N r + d → d < n → (∀ k, k ≠ 89 → k ≠ 105 → μ k = ν k) → (∀ j, j ≠ 22 → μ 89 j = ν 89 j) → μ 105 = r → ∃ μ', fX9_through_39 FF n e μ = some (thr N (cN μ0 N) d r e, μ') ∧ (∀ k, k ≠ 89 → k ≠ 105 → μ' k = ν k) ∧ ∀ j, j ≠ 22 → μ' 89 j = ν 89 j := by
  intro d
  induction d with
  | zero =>
    intro n r e μ hP h0 hd
    have := rkR_b hP (Or.inr ⟨hN, h0⟩)
    omega
  | succ d ih =>
    intro n r e μ hP h0 hd hn hk hj hr
    obtain ⟨n, rfl⟩ : ∃ n', n = n' + 1 := ⟨n - 1, by omega⟩
    have eμ : μ = upM μ 105 r := by rw [← hr, upM_id]
    have st := m_step0 (N := N) (μ := μ) (r := r) hN (by rw [hk 94 (by omega) (by omega), hν 94 (by omega) (by omega) (by omega)]; exact hL.2.2.1)
    rw [← eμ] at st
    have e0 : fX9_through_39 FF (n + 1) e μ = cal (fX9_nextRow FF μ) (fun r7 m6 => (if r7 = 0 then some (e, m6) else rd m6 105 0 (fun v8 => (if v8 = 0 then cal (fX9_roundCost FF 105 m6) (fun r10 m9 => (if e ≤ r10 then fX9_through_39 FF n e m9 else fX9_through_39 FF n r10 m9)) else some (e, m6))))) := rfl
    rw [e0, st]
    cases hx : nxR N r with
    | none =>
      rw [thr_n hx]
      exact ⟨μ, rfl, hk, hj⟩
    | some v =>
      obtain ⟨i, r'⟩ := v
      have hP' := (nxR_perm hP hx).1
      have k0 : ∀ k, k ≠ 89 → k ≠ 105 → upM μ 105 r' k = ν k := fun k q1 q2 => by rw [upM_ne q2]; exact hk k q1 q2
      have j0 : ∀ j, j ≠ 22 → upM μ 105 r' 89 j = ν 89 j := fun j q => by rw [upM_ne (by omega)]; exact hj j q
      show ∃ μ', cal (some ((1 : Int32), upM μ 105 r')) _ = _ ∧ _
      rw [cal_n, if_neg one_ne, show (0 : Int32) = nI 0 from rfl, rd_n (by decide), upM_self, show nI 0 = (0 : Int32) from rfl]
      by_cases hi : i = 0
      · subst hi
        rw [thr_0 hx, if_neg ((perm0 (by omega) hP h0 hx).1 rfl)]
        exact ⟨_, rfl, k0, j0⟩
      · have h0' := (perm0 (by omega) hP h0 hx).2 hi
        have rl := rkR_lt (by omega) hP hx
        rw [thr_s hx hi, if_pos h0', m_cst (μ0 := μ0) (μ := upM μ 105 r') hL hpr (fun k q1 q2 q3 => by rw [k0 k (by omega) (by omega)]; exact hν k q1 q2 q3) upM_self hP', cal_n, ← imin_le]
        have rest := fun e2 => ih n r' e2 (upM (upM μ 105 r') 89 (upd (upM μ 105 r' 89) 22 1)) hP' h0' (by omega) (by omega) (fun k q1 q2 => by rw [upM_ne q1]; exact k0 k q1 q2) (fun j q => by rw [upM_self, upd_ne q]; exact j0 j q) (by rw [upM_ne (by omega), upM_self])
        by_cases q : e ≤ cN μ0 N r'
        · rw [if_pos q, if_pos q]
          exact rest e
        · rw [if_neg q, if_neg q]
          exact rest _
theorem imin_max {c : Int32} : imin 2147483647 c = c := by
  rw [← imin_le]
  by_cases q : (2147483647 : Int32) ≤ c
  · rw [if_pos q]
    rw [Int32.le_iff_toInt_le, show (2147483647 : Int32).toInt = 2147483647 from rfl] at q
    have b := Int32.toInt_lt c
    exact (of_toInt (n := 2147483647) (by omega) (by omega)).symm
  · rw [if_neg q]
theorem op_through : Op wq (fX8_through FF) (fX9_through FF) := by
  intro μ hI
  obtain ⟨N, hL⟩ := hI.2.1
  have h9 : μ 9 6 = nI N := hL.2.1
  have h94 : μ 94 0 = nI N := hL.2.2.1
  have hN := hL.1
  unfold fX8_through fX9_through
  by_cases h0 : N = 0
  · subst h0
    exact ⟨-5, μ, μ, by rw [h9, if_pos (show nI 0 = 0 from rfl)], by rw [show (0 : Int32) = nI 0 from rfl, rd_n (by decide), h94, if_pos rfl], hI⟩
  have n0 : ¬ nI N = 0 := fun q => h0 (nI_inj (b := 0) (by omega) (by omega) q)
  by_cases h8 : N ≤ 8
  · obtain ⟨μw, a1, a2, a3⟩ := c_layW (N := N) (μ := μ) h8 h9 hL.dg
    obtain ⟨μb, b1, b2, b3, b4⟩ := c_begin (N := N) (μ := μw) h8
    have bk : ∀ k, k ≠ 71 → k ≠ 72 → (k < 81 ∨ 88 < k) → μb k = μ k := fun k q1 q2 q3 => by rw [b4 k q1 q2, a2 k q3]
    have hW : WG μb = WG μ := by
      funext a b
      unfold WG
      rw [bk 74 (by omega) (by omega) (by omega), bk 75 (by omega) (by omega) (by omega), bk 12 (by omega) (by omega) (by omega), bk 13 (by omega) (by omega) (by omega)]
    have hC : cN μb N = cN μ N := by
      funext r
      unfold cN
      rw [bk 74 (by omega) (by omega) (by omega), bk 75 (by omega) (by omega) (by omega), bk 12 (by omega) (by omega) (by omega), bk 13 (by omega) (by omega) (by omega)]
    have q9 : μb 9 6 = nI N := by rw [bk 9 (by omega) (by omega) (by omega)]; exact h9
    have hw : ∀ i, i < N → ∀ p, p < N → μb (81 + i) p = WG μb i p := fun i hi p hp => by
      rw [hW, b4 _ (by omega) (by omega)]
      exact a3 i hi p hp
    have hr : ∀ p, p < N → μb 72 p = idR p := fun p hp => b3 p hp
    have hP : PermF (μb 72) N := idR_perm.congr hr
    have z0 : μb 72 0 = 0 := b3 0 (by omega)
    obtain ⟨n, hn⟩ : ∃ n, FF = n + 1 := ⟨9999999, rfl⟩
    have n1 : 5040 < n := by rw [FF_e] at hn; omega
    obtain ⟨μ1, c1, c2⟩ := c_thr (μ0 := μb) (by omega) h8 q9 b2 hw 5040 n 0 (μb 72) (cN μb N (μb 72)) μb hP z0 (by omega) (by omega) n1 (fun _ _ => rfl) rfl
    have cw := c_roundW (μ0 := μb) (μ := μb) (by omega) h8 q9 rfl hP hw
    have start : fX8_through_54 FF FF 2147483647 1 0 μb = some (thr N (cN μ N) 5040 idR (cN μ N idR), μ1) := by
      have e1 : fX8_through_54 FF FF 2147483647 1 0 μb = fX8_through_54 FF (n + 1) 2147483647 1 (nI 0) μb := by rw [← hn]; rfl
      rw [e1]
      show fX8_through_54_b FF _ _ _ _ _ = _
      unfold fX8_through_54_b
      rw [show (5040 : Int32) = nI 5040 from rfl, if_neg (nI_ge (by omega) (by omega)), if_neg (show ¬ (1 : Int32) ≤ 0 by decide), cw, cal_n, imin_max, nI_add1]
      refine c1.trans ?_
      rw [hC, cN_congr hr, thr_congr (fun r s h => cN_congr h) 5040 (μb 72) idR _ hr]
    have k1 : ∀ k, k ≠ 71 → k ≠ 72 → (k < 81 ∨ 88 < k) → μ1 k = μ k := fun k q1 q2 q3 => by rw [c2 k q2, bk k q1 q2 q3]
    have e94 : μ1 94 0 = nI N := by rw [k1 94 (by omega) (by omega) (by omega)]; exact h94
    obtain ⟨μf, f1, f2, f3⟩ := m_begin (N := N) (μ := μ1) hN e94
    have hr2 : ∀ p, p < N → μf 105 p = idR p := fun p hp => f2 p hp
    have hP2 : PermF (μf 105) N := idR_perm.congr hr2
    have fk : ∀ k, k ≠ 105 → k ≠ 71 → k ≠ 72 → (k < 81 ∨ 88 < k) → μf k = μ k := fun k q0 q1 q2 q3 => by rw [f3 k q0, k1 k q1 q2 q3]
    have mc := m_cst (μ0 := μ) (μ := μf) hL hI.2.2.2.2.2 (fun k q1 q2 q3 => fk k (by omega) (by omega) (by omega) (by omega)) rfl hP2
    obtain ⟨μ2, g1, g2, g3⟩ := m_thr (μ0 := μ) (ν := μf) hL hI.2.2.2.2.2 (by omega) h8 (fun k q1 q2 q3 => fk k (by omega) (by omega) (by omega) (by omega)) 5040 FF (μf 105) (cN μ N (μf 105)) (upM μf 89 (upd (μf 89) 22 1)) hP2 (f2 0 (by omega)) (by omega) (by rw [FF_e]; omega) (fun k q1 q2 => upM_ne q1) (fun j q => by rw [upM_self, upd_ne q]) (upM_ne (by omega))
    rw [cN_congr hr2, thr_congr (fun r s h => cN_congr h) 5040 (μf 105) idR _ hr2] at g1
    refine ⟨thr N (cN μ N) 5040 idR (cN μ N idR), μ1, μ2, ?_, ?_, hI.free3 (fun k z1 z2 z3 z4 z5 z6 => by rw [g2 k z6 (by omega), fk k (by omega) (by omega) (by omega) (by omega)]) (fun j q1 q2 => by rw [g3 j q2, fk 89 (by omega) (by omega) (by omega) (by omega)])⟩
    · rw [h9, if_neg n0, if_pos (show nI N ≤ (8 : Int32) from nI_le (b := 8) h8 (by omega)), a1, cav_n, show μw 9 6 = nI N from by rw [a2 9 (by omega)]; exact h9, b1, cav_n]
      exact start
    · rw [show (0 : Int32) = nI 0 from rfl, rd_n (by decide), e94, if_neg (show ¬ nI N = nI 0 from n0), rd_n (by decide), e94, if_pos (show nI N ≤ (8 : Int32) from nI_le (b := 8) h8 (by omega)), f1, cav_n, mc, cal_n, cN_congr hr2]
      exact g1
  · refine ⟨-4, μ, μ, ?_, ?_, hI⟩
    · rw [h9, if_neg n0, if_neg (show ¬ nI N ≤ (8 : Int32) from nI_ge (a := 8) (by omega) (by omega))]
    · rw [show (0 : Int32) = nI 0 from rfl, rd_n (by decide), h94, if_neg (show ¬ nI N = nI 0 from n0), rd_n (by decide), h94, if_neg (show ¬ nI N ≤ (8 : Int32) from nI_ge (a := 8) (by omega) (by omega))]
end
section
/-! what is found: by the rule, and among all rows -/
variable {wq : Prop}
theorem Inv.fnd {μ μ' : Mem} (hI : Inv wq μ) (h : ∀ k, k ≠ 15 → (k < 53 ∨ 72 < k) → (k < 79 ∨ 88 < k) → k ≠ 100 → (k < 103 ∨ 115 < k) → k ≠ 89 → μ' k = μ k) (hj : ∀ j, j ≠ 12 → j ≠ 14 → j ≠ 15 → j ≠ 21 → j ≠ 22 → j ≠ 33 → μ' 89 j = μ 89 j) (hB : BT μ') (hR : RI μ') : Inv wq μ' := by
  have g : Ag (List.range' 53 20 ++ ([15, 100] ++ (List.range' 79 10 ++ List.range' 103 13))) [12, 14, 15, 21, 22, 33] μ μ' := by
    refine ⟨fun k h9 hk => ?_, fun j q => ?_⟩
    · simp only [List.mem_append, List.mem_range'_1, List.mem_cons, List.not_mem_nil, or_false, not_or, not_and] at hk
      exact h k (by omega) (by omega) (by omega) (by omega) (by omega) h9
    · simp only [List.mem_cons, List.not_mem_nil, or_false, not_or] at q
      exact hj j q.1 q.2.1 q.2.2.1 q.2.2.2.1 q.2.2.2.2.1 q.2.2.2.2.2
  have nm : ∀ k, k ∈ (List.range' 53 20 ++ ([15, 100] ++ (List.range' 79 10 ++ List.range' 103 13))) → k = 15 ∨ 53 ≤ k := fun k hk => by
    simp only [List.mem_append, List.mem_range'_1, List.mem_cons, List.not_mem_nil, or_false] at hk
    omega
  obtain ⟨i1, i2, i3, i4, i5, i6⟩ := hI
  exact ⟨i1.ag g, i2.ag g, i3.ag g ⟨fun k h1 h2 h3 => by have := nm k h3; omega, fun h3 => by have := nm 16 h3; omega⟩, hB, hR, i6.ag g⟩
theorem BT.mk {N : Nat} {μ : Mem} (hN : N ≤ 40) (h1 : μ 53 1 = nI N) (h2 : μ 53 2 = 1) (h12 : μ 89 12 = nI N) (h14 : μ 89 14 = 1) (h15 : μ 89 15 = 1) (he : ∀ i, i < N → μ 54 i = μ 100 i) (h9 : μ 9 6 = nI N) (hP : PermF (μ 54) N) : BT μ :=
  ⟨N, hN, h1, h12, he, Or.inr h14, Or.inr h15, fun q => absurd (h14.symm.trans q) one_ne, by rw [h14, h2, if_neg one_ne, h15], fun _ => ⟨h9, hP⟩⟩
theorem c_become0 {N : Nat} {μ : Mem} (hN : N ≤ 40) : ∃ μ', fX0_become FF 79 (nI N) μ = some μ' ∧ μ' 53 1 = nI N ∧ μ' 53 2 = 1 ∧ (∀ p, p < N → μ' 54 p = μ 79 p) ∧ ∀ k, k ≠ 53 → k ≠ 54 → μ' k = μ k := by
  obtain ⟨m1, f1, a1, b1, c1⟩ := cp_x (μ := μ) (a := 79) (b := 54) (n := N) (by show N ≤ 40; omega) (by show N ≤ 40; omega)
  refine ⟨upM m1 53 (upd (upd (m1 53) 1 (nI N)) 2 1), ?_, ?_, ?_, fun p hp => ?_, fun k h1 h2 => ?_⟩
  · unfold fX0_become
    rw [f1, st_n, st_n, upM_upM, upM_self]
  · rw [upM_self, upd_ne (by decide), upd_s]
  · rw [upM_self, upd_s]
  · rw [upM_ne (by omega)]; exact a1 p hp
  · rw [upM_ne h1, c1 k h2]
theorem scn_perm {N : Nat} {E : (Nat → Int32) → Int32} {S : (Nat → Int32) → Prop} : ∀ (d : Nat) (r b : Nat → Int32) (e : Int32), PermF r N → PermF b N → PermF (scn N E S d r e b).2 N
  | 0, _, _, _, _, h => h
  | d + 1, r, b, e, hP, h => by
    cases hx : nxR N r with
    | none => rw [scn_n hx]; exact h
    | some v =>
      obtain ⟨i, r'⟩ := v
      have hP' := (nxR_perm hP hx).1
      by_cases q : e ≤ E r'
      · rw [scn_le hx q]; exact scn_perm d r' b e hP' h
      · by_cases t : S r'
        · rw [scn_sk hx t]; exact scn_perm d r' b e hP' h
        · rw [scn_gt hx q t]; exact scn_perm d r' r' _ hP' hP'
theorem two_ne : ¬ nI 2 = (0 : Int32) := by decide
theorem least_places {N m : Nat} {μ : Mem} (hI : Inv wq μ) (hL : RelN wq N (CL μ) (MT μ 0)) (h7 : N ≤ 7) (hm : m ≤ 5) (h2 : 1 ≤ m) : ∃ r μ1 μ2, fX8_least_31 FF (nI 2) (nI m) μ = some (r, μ1) ∧ cav (fX9_firstRow FF μ1) (fun m4 => cal (fX9_endOf FF 105 (nI 2) (nI m) m4) (fun r6 m5 => cav (fX9_finds FF 105 m5) (fun m7 => fX9_least_89 FF FF (nI 2) (nI m) r6 m7))) = some (r, μ2) ∧ Inv wq μ2 := by
  have h9 : μ 9 6 = nI N := hL.2.1
  have h94 : μ 94 0 = nI N := hL.2.2.1
  obtain ⟨μs, f1, f2, f3, f4⟩ := follow_n (l := 2) (m := m) (μ := μ)
  obtain ⟨μa, a1, a2, a3⟩ := c_all (l := 2) (m := m) (y1 := 0) (μs := μs) hL h7 (by omega) hm (fun _ => h2) f2 f3 f4
  obtain ⟨μ1, b1, b2, b3, b4, b5⟩ := c_become0 (N := N) (μ := μa) (by omega)
  have nS : ¬ Sk 0 μ N idR := fun w => w.1 rfl
  have es : sca N (eN 2 m μ N) (Sk 0 μ N) (μ 79) = scn N (eN 2 m μ N) (Sk 0 μ N) 5040 idR (eN 2 m μ N idR) idR := if_neg nS
  rw [es] at a1 a2
  have k1 : ∀ k, k ≠ 53 → k ≠ 54 → k ≠ 71 → k ≠ 72 → k ≠ 79 → (k < 55 ∨ 60 < k) → μ1 k = μ k := fun k q1 q2 q3 q4 q5 q6 => by rw [b5 k q1 q2, a3 k q3 q4 q5 q6]
  have e94 : μ1 94 0 = nI N := by rw [k1 94 (by omega) (by omega) (by omega) (by omega) (by omega) (by omega)]; exact h94
  obtain ⟨μb, g1, g2, g3⟩ := m_begin (N := N) (μ := μ1) (by omega) e94
  have hr : ∀ p, p < N → μb 105 p = idR p := fun p hp => g2 p hp
  have hP : PermF (μb 105) N := idR_perm.congr hr
  have kb : ∀ k, 89 ≤ k → k ≠ 105 → μb k = μ k := fun k q1 q2 => by rw [g3 k q2, k1 k (by omega) (by omega) (by omega) (by omega) (by omega) (by omega)]
  obtain ⟨μe, d1, d2⟩ := m_row (l := 2) (m := m) (μ0 := μ) (μ := μb) hL (by omega) hm (fun _ => h2) hP (fun k q1 q2 => kb k (by omega) (by omega)) rfl
  have cE : ∀ r s : Nat → Int32, (∀ p, p < N → r p = s p) → eN 2 m μ N r = eN 2 m μ N s := fun r s h => eN_congr h
  rw [eN_congr hr] at d1
  obtain ⟨μf, j1, j2, j3, j4, j5, j6, j7⟩ := m_finds (N := N) (μ := μe) (by omega) (by rw [d2 94 (by omega), kb 94 (by omega) (by omega)]; exact h94)
  obtain ⟨μ2, n1, n2, n3, n4, n5, n6, n7⟩ := m_scan (l := 2) (m := m) (y1 := 0) (μ0 := μ) (ν := μe) rfl hL h7 (by omega) hm (fun _ => h2) (fun k q1 q2 => by rw [d2 k (by omega)]; exact kb k (by omega) (by omega)) 5040 FF (μb 105) (μb 105) (eN 2 m μ N idR) μf hP (by omega) (by rw [FF_e]; omega) (fun k q1 q2 q3 q4 q5 => j7 k q1 q2) j6 j3 j4 j5 (by rw [j7 105 (by omega) (by omega)]; exact d2 105 (by omega)) (fun p hp => by rw [j2 p hp, d2 105 (by omega)])
  obtain ⟨z1, z2⟩ := scn_congr (S := Sk 0 μ N) cE Sk.congr 5040 (μb 105) idR (eN 2 m μ N idR) (μb 105) idR hr hr
  rw [z1] at n1
  have kk : ∀ k, k ≠ 53 → k ≠ 54 → k ≠ 71 → k ≠ 72 → k ≠ 79 → (k < 55 ∨ 60 < k) → k ≠ 89 → k ≠ 100 → k ≠ 103 → k ≠ 104 → k ≠ 105 → μ2 k = μ k := fun k q1 q2 q3 q4 q5 q6 q7 q8 q9 qa qb => by rw [n3 k q7 q8 q9 qa qb, d2 k (by omega), g3 k qb, k1 k q1 q2 q3 q4 q5 q6]
  have c53 : ∀ k, k = 53 ∨ k = 54 → μ2 k = μ1 k := fun k q => by rw [n3 k (by omega) (by omega) (by omega) (by omega) (by omega), d2 k (by omega), g3 k (by omega)]
  have k89 : ∀ j, j ≠ 12 → j ≠ 14 → j ≠ 15 → μ2 89 j = μ 89 j := fun j q1 q2 q3 => by rw [n4 j q1 q2 q3, d2 89 (by omega), kb 89 (by omega) (by omega)]
  have q9 : μ2 9 6 = nI N := by rw [kk 9 (by omega) (by omega) (by omega) (by omega) (by omega) (by omega) (by omega) (by omega) (by omega) (by omega) (by omega)]; exact h9
  have hRI : RI μ2 := by
    have hR := hI.2.2.2.2.1
    unfold RI at hR ⊢
    rw [kk 61 (by omega) (by omega) (by omega) (by omega) (by omega) (by omega) (by omega) (by omega) (by omega) (by omega) (by omega), kk 115 (by omega) (by omega) (by omega) (by omega) (by omega) (by omega) (by omega) (by omega) (by omega) (by omega) (by omega), k89 33 (by decide) (by decide) (by decide)]
    exact hR
  have t54 : ∀ p, p < N → μ2 54 p = (scn N (eN 2 m μ N) (Sk 0 μ N) 5040 idR (eN 2 m μ N idR) idR).2 p := fun p hp => by rw [c53 54 (Or.inr rfl), b4 p hp]; exact a2 p hp
  refine ⟨(scn N (eN 2 m μ N) (Sk 0 μ N) 5040 idR (eN 2 m μ N idR) idR).1, μ1, μ2, ?_, ?_, hI.fnd (fun k q1 q2 q3 q4 q5 q6 => kk k (by omega) (by omega) (by omega) (by omega) (by omega) (by omega) q6 q4 (by omega) (by omega) (by omega)) (fun j q1 q2 q3 q4 q5 q6 => k89 j q1 q2 q3) (BT.mk (N := N) (by omega) (by rw [c53 53 (Or.inl rfl)]; exact b2) (by rw [c53 53 (Or.inl rfl)]; exact b3) n5 n6 n7 (fun i hi => by rw [t54 i hi, n2 i hi, z2 i hi]) q9 ((scn_perm 5040 idR idR _ idR_perm idR_perm).congr t54)) hRI⟩
  · unfold fX8_least_31 fX8_least_91
    rw [if_neg two_ne, f1, cav_n, if_neg (show ¬ nI 2 = 1 by decide), a1, cal_n, show μa 9 6 = nI N from by rw [a3 9 (by omega) (by omega) (by omega) (by omega)]; exact h9, b1, cav_n]
  · rw [g1, cav_n, d1, cal_n, j1, cav_n]
    exact n1
theorem least_shelf {N : Nat} {μ : Mem} (hI : Inv wq μ) (hL : RelN wq N (CL μ) (MT μ 0)) : ∃ r μ1 μ2, fX8_least_31 FF (nI 1) (nI 0) μ = some (r, μ1) ∧ cav (fX9_byRule FF 105 μ1) (fun m8 => cav (fX9_finds FF 105 m8) (fun m9 => cal (fX9_endOf FF 105 1 0 m9) (fun r11 m10 => some (r11, m10)))) = some (r, μ2) ∧ Inv wq μ2 := by
  have h9 : μ 9 6 = nI N := hL.2.1
  have h94 : μ 94 0 = nI N := hL.2.2.1
  have hN := hL.1
  obtain ⟨μs, f1, f2, f3, f4⟩ := follow_n (l := 1) (m := 0) (μ := μ)
  obtain ⟨μa, a1, a2, a3⟩ := c_byRule (k1 := 79) (μ := μs) hN (show N ≤ 40 from hN) (by omega) (by rw [f2 9 (by omega)]; exact h9)
  rw [f2 10 (by omega), f2 11 (by omega)] at a3
  have hPa : PermF (μa 79) N := by rw [a3]; exact srI_perm N
  obtain ⟨p1, p2⟩ := hPa.inj hN
  have p1' : ∀ i, i < N → tn (μa 79 i) < N := p1.1
  have ak : ∀ k, k ≠ 15 → k ≠ 79 → k ≠ 55 → μa k = μ k := fun k q1 q2 q3 => by rw [a2 k q1 q2, f2 k q3]
  obtain ⟨μe, e1, e2, e3⟩ := c_end_loop (l := 1) (m := 0) (k2 := 79) (X := fun p => μ 10 (tn (μa 79 p))) (B := fun p => μ 11 (tn (μa 79 p))) hN (show N ≤ 40 from hN) (by omega) (by omega) (by omega) (by omega) N FF 0 μa (by omega) (by rw [FF_e]; omega) ⟨by rw [ak 9 (by omega) (by omega) (by omega)]; exact h9, fun p hp => ⟨tn (μa 79 p), by have := p1' p hp; omega, p2 p hp, by rw [ak 10 (by omega) (by omega) (by omega)], by rw [ak 11 (by omega) (by omega) (by omega)]⟩⟩ (by rw [a2 55 (by omega) (by omega)]; exact f3) (by rw [a2 55 (by omega) (by omega)]; exact f4) (fun p hp => by omega)
  obtain ⟨μ1, b1, b2, b3, b4, b5⟩ := c_become0 (N := N) (μ := μe) hN
  have k1 : ∀ k, k ≠ 53 → k ≠ 54 → k ≠ 15 → k ≠ 79 → (k < 55 ∨ 60 < k) → μ1 k = μ k := fun k q1 q2 q3 q4 q5 => by rw [b5 k q1 q2, e2 k (by omega), ak k q3 q4 (by omega)]
  have km : ∀ k, 89 ≤ k → μ1 k = μ k := fun k q => k1 k (by omega) (by omega) (by omega) (by omega) (by omega)
  have q95 : ∀ i, i < N → μ1 95 i = μ 10 i ∧ μ1 96 i = μ 11 i := fun i hi => by
    rw [km 95 (by omega), km 96 (by omega)]
    exact ⟨(hL.eqs hi).1.symm, (hL.eqs hi).2.1.symm⟩
  have d1 := m_byRule (k1 := 105) (μ := μ1) (by omega) hN (show N ≤ 40 from hN) (by rw [km 94 (by omega)]; exact h94) (hL.ld.congr q95)
  obtain ⟨μr, hμr⟩ : ∃ μr, μr = upM μ1 105 (srI (ahd (μ1 95) (μ1 96)) (μ1 105) N) := ⟨_, rfl⟩
  rw [← hμr] at d1
  have rk : ∀ k, k ≠ 105 → μr k = μ1 k := fun k q => by rw [hμr, upM_ne q]
  have r105 : ∀ p, p < N → μr 105 p = μa 79 p := fun p hp => by
    rw [hμr, upM_self, a3]
    exact (rules_eq hN (fun i hi => ⟨(q95 i hi).1.symm, (q95 i hi).2.symm⟩) p hp).symm
  obtain ⟨μf, j1, j2, j3, j4, j5, j6, j7⟩ := m_finds (N := N) (μ := μr) hN (by rw [rk 94 (by omega), km 94 (by omega)]; exact h94)
  have fk : ∀ k, 94 ≤ k → k ≠ 100 → k ≠ 105 → μf k = μ k := fun k q1 q2 q3 => by rw [j7 k (by omega) q2, rk k q3, km k (by omega)]
  obtain ⟨μ2, n1, n2, n3⟩ := m_day (l := 1) (m := 0) (k1 := 105) (X := fun p => μ 10 (tn (μa 79 p))) (B := fun p => μ 11 (tn (μa 79 p))) (μ := μf) hN (show N ≤ 40 from hN) (by omega) (by omega) (by omega) (by omega) ⟨by rw [fk 94 (by omega) (by omega) (by omega)]; exact h94, fun p hp => ⟨tn (μa 79 p), by have := p1' p hp; omega, by rw [j7 105 (by omega) (by omega), r105 p hp]; exact p2 p hp, by rw [fk 95 (by omega) (by omega) (by omega)]; exact (hL.eqs (p1' p hp)).1.symm, by rw [fk 96 (by omega) (by omega) (by omega)]; exact (hL.eqs (p1' p hp)).2.1.symm⟩⟩
  have kk : ∀ k, k ≠ 53 → k ≠ 54 → k ≠ 15 → k ≠ 79 → (k < 55 ∨ 60 < k) → k ≠ 89 → k ≠ 100 → k ≠ 103 → k ≠ 104 → k ≠ 105 → μ2 k = μ k := fun k q1 q2 q3 q4 q5 q6 q7 q8 q9 qa => by rw [n2 k (by omega), j7 k q6 q7, rk k qa, k1 k q1 q2 q3 q4 q5]
  have c53 : ∀ k, k = 53 ∨ k = 54 → μ2 k = μ1 k := fun k q => by rw [n2 k (by omega), j7 k (by omega) (by omega), rk k (by omega)]
  have k89 : ∀ j, j ≠ 12 → j ≠ 14 → j ≠ 15 → μ2 89 j = μ 89 j := fun j q1 q2 q3 => by rw [n2 89 (by omega), j6 j q1 q2 q3, rk 89 (by omega), km 89 (by omega)]
  have hRI : RI μ2 := by
    have hR := hI.2.2.2.2.1
    unfold RI at hR ⊢
    rw [kk 61 (by omega) (by omega) (by omega) (by omega) (by omega) (by omega) (by omega) (by omega) (by omega) (by omega), kk 115 (by omega) (by omega) (by omega) (by omega) (by omega) (by omega) (by omega) (by omega) (by omega) (by omega), k89 33 (by decide) (by decide) (by decide)]
    exact hR
  have t54 : ∀ p, p < N → μ2 54 p = μa 79 p := fun p hp => by rw [c53 54 (Or.inr rfl), b4 p hp, e2 79 (by omega)]
  refine ⟨(dy 1 0 (fun p => μ 10 (tn (μa 79 p))) (fun p => μ 11 (tn (μa 79 p))) N).2.1, μ1, μ2, ?_, ?_, hI.fnd (fun k q1 q2 q3 q4 q5 q6 => kk k (by omega) (by omega) (by omega) (by omega) (by omega) q6 q4 (by omega) (by omega) (by omega)) (fun j q1 q2 q3 q4 q5 q6 => k89 j q1 q2 q3) (BT.mk (N := N) hN (by rw [c53 53 (Or.inl rfl)]; exact b2) (by rw [c53 53 (Or.inl rfl)]; exact b3) (by rw [n2 89 (by omega)]; exact j3) (by rw [n2 89 (by omega)]; exact j4) (by rw [n2 89 (by omega)]; exact j5) (fun i hi => by rw [t54 i hi, n2 100 (by omega), j2 i hi, r105 i hi]) (by rw [kk 9 (by omega) (by omega) (by omega) (by omega) (by omega) (by omega) (by omega) (by omega) (by omega) (by omega)]; exact h9) (hPa.congr t54)) hRI⟩
  · unfold fX8_least_31 fX8_least_91
    rw [if_neg (show ¬ nI 1 = 0 by decide), f1, cav_n, if_pos (show nI 1 = 1 from rfl), a1, cav_n]
    unfold fX1_endOf
    rw [show (0 : Int32) = nI 0 from rfl, e1, cal_n, e2 9 (by omega), ak 9 (by omega) (by omega) (by omega), h9, b1, cav_n]
  · rw [d1, cav_n, j1, cav_n, show (1 : Int32) = nI 1 from rfl, show (0 : Int32) = nI 0 from rfl, n1, cal_n]
end
section
/-! rings as what is reached -/
def itr (π : Nat → Nat) : Nat → Nat → Nat
  | 0, x => x
  | j + 1, x => π (itr π j x)
theorem itr_add {π : Nat → Nat} {b x : Nat} : ∀ a, itr π (a + b) x = itr π a (itr π b x)
  | 0 => by rw [Nat.zero_add]; rfl
  | a + 1 => by
    rw [show a + 1 + b = (a + b) + 1 by omega]
    show π (itr π (a + b) x) = π (itr π a (itr π b x))
    rw [itr_add a]
def Rch (π : Nat → Nat) (x y : Nat) : Prop := ∃ j, itr π j x = y
theorem Rch.rf {π : Nat → Nat} {x : Nat} : Rch π x x := ⟨0, rfl⟩
theorem Rch.tr {π : Nat → Nat} {x y z : Nat} (h1 : Rch π x y) (h2 : Rch π y z) : Rch π x z := by
  obtain ⟨a, rfl⟩ := h1
  obtain ⟨b, rfl⟩ := h2
  exact ⟨b + a, itr_add b⟩
theorem Rch.one {π : Nat → Nat} {x : Nat} : Rch π x (π x) := ⟨1, rfl⟩
def PB (P : Nat) (π : Nat → Nat) : Prop := (∀ x, x < P → π x < P) ∧ ∀ x y, x < P → y < P → π x = π y → x = y
theorem itr_lt {P : Nat} {π : Nat → Nat} (h : PB P π) {x : Nat} (hx : x < P) : ∀ j, itr π j x < P
  | 0 => hx
  | j + 1 => h.1 _ (itr_lt h hx j)
theorem itr_cancel {P : Nat} {π : Nat → Nat} (h : PB P π) {x y : Nat} (hx : x < P) (hy : y < P) : ∀ j, itr π j x = itr π j y → x = y
  | 0, e => e
  | j + 1, e => itr_cancel h hx hy j (h.2 _ _ (itr_lt h hx j) (itr_lt h hy j) e)
/-- so many different numbers below P are at most P -/
theorem pig {P : Nat} {ρ : Nat → Nat} : ∀ k, (∀ i, i < k → ρ i < P) → (∀ i j, i < j → j < k → ρ i ≠ ρ j) → nin ρ k P + k = P
  | 0, _, _ => nin_0 P
  | k + 1, h1, h2 => by
    have ih := pig k (fun i hi => h1 i (by omega)) (fun i j hi hj => h2 i j hi (by omega))
    have s := nin_s (ρ := ρ) (k := k) (fun j hj => h2 j k hj (by omega)) P
    rw [if_pos (h1 k (by omega))] at s
    omega
theorem itr_per {P : Nat} {π : Nat → Nat} (h : PB P π) {x : Nat} (hx : x < P) : ∃ m, 0 < m ∧ m ≤ P ∧ itr π m x = x := by
  by_cases c : ∃ i j, i < j ∧ j < P + 1 ∧ itr π i x = itr π j x
  · obtain ⟨i, j, h1, h2, e⟩ := c
    refine ⟨j - i, by omega, by omega, ?_⟩
    have e2 : itr π i (itr π (j - i) x) = itr π i x := by
      rw [← itr_add, show i + (j - i) = j by omega, e]
    exact itr_cancel h (itr_lt h hx _) hx i e2
  · have := pig (P := P) (ρ := fun i => itr π i x) (P + 1) (fun i _ => itr_lt h hx i) (fun i j h1 h2 e => c ⟨i, j, h1, h2, e⟩)
    omega
theorem itr_mul {π : Nat → Nat} {x m : Nat} (h : itr π m x = x) : ∀ k, itr π (m * k) x = x
  | 0 => rfl
  | k + 1 => by rw [Nat.mul_succ, itr_add, h, itr_mul h k]
theorem Rch.sy {P : Nat} {π : Nat → Nat} (h : PB P π) {x y : Nat} (hx : x < P) (r : Rch π x y) : Rch π y x := by
  obtain ⟨k, rfl⟩ := r
  obtain ⟨m, m0, -, e⟩ := itr_per h hx
  have le : k ≤ m * k := Nat.le_mul_of_pos_left k m0
  refine ⟨m * k - k, ?_⟩
  rw [← itr_add, show m * k - k + k = m * k by omega]
  exact itr_mul e k
theorem Rch.lt {P : Nat} {π : Nat → Nat} (h : PB P π) {x y : Nat} (hx : x < P) (r : Rch π x y) : y < P := by
  obtain ⟨k, rfl⟩ := r
  exact itr_lt h hx k
/-- the first time that something is reached -/
theorem first {π : Nat → Nat} {x y : Nat} : ∀ n j, j < n → itr π j x = y → ∃ k, k ≤ j ∧ itr π k x = y ∧ ∀ i, i < k → itr π i x ≠ y
  | 0, j, h, _ => by omega
  | n + 1, j, h, e => by
    by_cases c : ∃ i, i < j ∧ itr π i x = y
    · obtain ⟨i, hi, ei⟩ := c
      obtain ⟨k, k1, k2, k3⟩ := first n i (by omega) ei
      exact ⟨k, by omega, k2, k3⟩
    · exact ⟨j, Nat.le_refl _, e, fun i hi ei => c ⟨i, hi, ei⟩⟩
/-- along the same way, as long as nothing is met that has changed -/
theorem itr_same {π π' : Nat → Nat} {x : Nat} : ∀ k, (∀ i, i < k → π' (itr π i x) = π (itr π i x)) → itr π' k x = itr π k x
  | 0, _ => rfl
  | k + 1, h => by
    show π' (itr π' k x) = π (itr π k x)
    rw [itr_same k (fun i hi => h i (by omega)), h k (by omega)]
/-- two rings become one -/
theorem merge {P a b : Nat} {π π' h h' : Nat → Nat} (hp : PB P π) (ha : a < P) (hb : b < P) (hab : h a ≠ h b) (e1 : π' a = π b) (e2 : π' b = π a) (e3 : ∀ x, x ≠ a → x ≠ b → π' x = π x) (i1 : ∀ x, x < P → h (π x) = h x) (i2 : ∀ x y, x < P → y < P → h x = h y → Rch π x y) (hh : ∀ x, x < P → h' x = if h x = h b then h a else h x) :
    (∀ x, x < P → h' (π' x) = h' x) ∧ ∀ x y, x < P → y < P → h' x = h' y → Rch π' x y := by
  have nab : a ≠ b := fun q => hab (by rw [q])
  have lab : ∀ x, x < P → ∀ j, h (itr π j x) = h x := fun x hx j => by
    induction j with
    | zero => rfl
    | succ j ih => exact (i1 _ (itr_lt hp hx j)).trans ih
  -- from x to c, whose label it has, on the new way
  have toC : ∀ x c d, x < P → c < P → h x = h c → h c ≠ h d → (∀ z, z ≠ c → z ≠ d → π' z = π z) → Rch π' x c := fun x c d hx hc e ne hz => by
    obtain ⟨j, ej⟩ := i2 x c hx hc e
    obtain ⟨k, -, k2, k3⟩ := first (j + 1) j (by omega) ej
    refine ⟨k, ?_⟩
    rw [itr_same k (fun i hi => hz _ (k3 i hi) (fun q => ne (by rw [← q, lab x hx i, e])))]
    exact k2
  -- from what stands behind d to y, which has d's label
  have fromD : ∀ y c d, y < P → d < P → h y = h d → h c ≠ h d → (∀ z, z ≠ c → z ≠ d → π' z = π z) → Rch π' (π d) y := fun y c d hy hd e ne hz => by
    have hpd := hp.1 d hd
    obtain ⟨j, ej⟩ := i2 (π d) y hpd hy (by rw [i1 d hd, e])
    obtain ⟨k, -, k2, k3⟩ := first (j + 1) j (by omega) ej
    refine ⟨k, ?_⟩
    rw [itr_same k (fun i hi => hz _ (fun q => ne (by rw [← q, lab (π d) hpd i, i1 d hd])) (fun q => ?_))]
    · exact k2
    · have e4 : itr π (i + 1) (π d) = π d := by
        show π (itr π i (π d)) = π d
        rw [q]
      have e5 : itr π (k - (i + 1)) (π d) = y := by
        rw [← k2]
        rw [show itr π k (π d) = itr π (k - (i + 1)) (itr π (i + 1) (π d)) from by rw [← itr_add, show k - (i + 1) + (i + 1) = k by omega], e4]
      exact k3 _ (by omega) e5
  have e3' : ∀ z, z ≠ b → z ≠ a → π' z = π z := fun z q1 q2 => e3 z q2 q1
  have AB : ∀ y, y < P → h y = h b → Rch π' a y := fun y hy e => (Rch.one (π := π') (x := a)).tr (by rw [e1]; exact fromD y a b hy hb e hab e3)
  have BA : ∀ y, y < P → h y = h a → Rch π' b y := fun y hy e => (Rch.one (π := π') (x := b)).tr (by rw [e2]; exact fromD y b a hy ha e (Ne.symm hab) e3')
  have aAll : ∀ y, y < P → (h y = h a ∨ h y = h b) → Rch π' a y := fun y hy e => by
    rcases e with e | e
    · exact (AB b hb rfl).tr (BA y hy e)
    · exact AB y hy e
  have bAll : ∀ y, y < P → (h y = h a ∨ h y = h b) → Rch π' b y := fun y hy e => by
    rcases e with e | e
    · exact BA y hy e
    · exact (BA a ha rfl).tr (AB y hy e)
  refine ⟨fun x hx => ?_, fun x y hx hy e => ?_⟩
  · have hl : π' x < P := by
      by_cases ca : x = a
      · rw [ca, e1]; exact hp.1 b hb
      · by_cases cb : x = b
        · rw [cb, e2]; exact hp.1 a ha
        · rw [e3 x ca cb]; exact hp.1 x hx
    rw [hh _ hl, hh x hx]
    by_cases ca : x = a
    · rw [ca, e1, i1 b hb, if_pos rfl, if_neg hab]
    · by_cases cb : x = b
      · rw [cb, e2, i1 a ha, if_neg hab, if_pos rfl]
      · rw [e3 x ca cb, i1 x hx]
  · rw [hh x hx, hh y hy] at e
    have xo : h x = h a ∨ h x = h b ∨ (h x ≠ h a ∧ h x ≠ h b) := by
      by_cases c1 : h x = h a
      · exact Or.inl c1
      · by_cases c2 : h x = h b
        · exact Or.inr (Or.inl c2)
        · exact Or.inr (Or.inr ⟨c1, c2⟩)
    have yo : (h x = h a ∨ h x = h b) → (h y = h a ∨ h y = h b) := fun q => by
      have e6 : (if h x = h b then h a else h x) = h a := by
        rcases q with q | q
        · rw [q]
          by_cases w : h a = h b
          · rw [if_pos w]
          · rw [if_neg w]
        · rw [if_pos q]
      rw [e6] at e
      by_cases w : h y = h b
      · exact Or.inr w
      · rw [if_neg w] at e
        exact Or.inl e.symm
    rcases xo with q | q | ⟨q1, q2⟩
    · exact (toC x a b hx ha q hab e3).tr (aAll y hy (yo (Or.inl q)))
    · exact (toC x b a hx hb q (Ne.symm hab) e3').tr (bAll y hy (yo (Or.inr q)))
    · rw [if_neg q2] at e
      have q3 : h x = h y := by
        by_cases w : h y = h b
        · rw [if_pos w] at e
          exact absurd e q1
        · rw [if_neg w] at e
          exact e
      obtain ⟨j, ej⟩ := i2 x y hx hy q3
      refine ⟨j, ?_⟩
      rw [itr_same j (fun i hi => e3 _ (fun w => q1 (by rw [← w, lab x hx i])) (fun w => q2 (by rw [← w, lab x hx i])))]
      exact ej
/-- one ring: from each point on all are met, once -/
theorem ring_row {P s : Nat} {π : Nat → Nat} (hp : PB P π) (hs : s < P) (all : ∀ y, y < P → Rch π s y) : ∀ i j, i < j → j < P → itr π i s ≠ itr π j s := by
  intro i j hij hj e
  have e2 : itr π (j - i) s = s := by
    have : itr π i (itr π (j - i) s) = itr π i s := by rw [← itr_add, show i + (j - i) = j by omega, e]
    exact itr_cancel hp (itr_lt hp hs _) hs i this
  have m0 : 0 < j - i := by omega
  -- all are met within the first j - i
  have cov : ∀ y, y < P → ∃ k, k < j - i ∧ itr π k s = y := fun y hy => by
    obtain ⟨t, ht⟩ := all y hy
    obtain ⟨k, k1, k2, k3⟩ := first (t + 1) t (by omega) ht
    by_cases c : k < j - i
    · exact ⟨k, c, k2⟩
    · exfalso
      have : itr π (k - (j - i)) s = y := by
        rw [← k2]
        rw [show itr π k s = itr π (k - (j - i)) (itr π (j - i) s) from by rw [← itr_add, show k - (j - i) + (j - i) = k by omega], e2]
      exact k3 _ (by omega) this
  -- too few for all
  have few : ∀ m, m < P → ∃ v, v < P ∧ ∀ k, k < m → itr π k s ≠ v := fun m hm => by
    by_cases c : ∃ v, v < P ∧ ∀ k, k < m → itr π k s ≠ v
    · exact c
    · exfalso
      have all2 : ∀ v, v < P → ∃ k, k < m ∧ itr π k s = v := fun v hv => by
        by_cases d : ∃ k, k < m ∧ itr π k s = v
        · exact d
        · exact absurd ⟨v, hv, fun k hk q => d ⟨k, hk, q⟩⟩ c
      have ρ : ∃ ρ : Nat → Nat, ∀ v, v < P → ρ v < m ∧ itr π (ρ v) s = v := by
        refine ⟨fun v => if hv : v < P then Classical.choose (all2 v hv) else 0, fun v hv => ?_⟩
        have := Classical.choose_spec (all2 v hv)
        simp only [dif_pos hv]
        exact this
      obtain ⟨ρ, hρ⟩ := ρ
      have := pig (P := m) (ρ := ρ) P (fun i hi => (hρ i hi).1) (fun i j h1 h2 e => by
        have a := (hρ i (by omega)).2
        rw [e, (hρ j h2).2] at a
        omega)
      omega
  obtain ⟨v, hv, hv2⟩ := few (j - i) (by omega)
  obtain ⟨k, hk, hk2⟩ := cov v hv
  exact hv2 k hk hk2
end
section
/-! joins that are taken leave one ring, in whatever order they are done -/
noncomputable def cnQ (Q : Nat → Prop) : Nat → Nat
  | 0 => 0
  | n + 1 => cnQ Q n + @ite _ (Q n) (Classical.propDecidable _) 1 0
theorem cnQ_y {Q : Nat → Prop} {n : Nat} (h : Q n) : cnQ Q (n + 1) = cnQ Q n + 1 := by
  show cnQ Q n + @ite _ (Q n) (Classical.propDecidable _) 1 0 = _
  rw [if_pos h]
theorem cnQ_n {Q : Nat → Prop} {n : Nat} (h : ¬ Q n) : cnQ Q (n + 1) = cnQ Q n := by
  show cnQ Q n + @ite _ (Q n) (Classical.propDecidable _) 1 0 = _
  rw [if_neg h, Nat.add_zero]
theorem cnQ_congr {Q Q' : Nat → Prop} : ∀ n, (∀ v, v < n → (Q v ↔ Q' v)) → cnQ Q n = cnQ Q' n
  | 0, _ => rfl
  | n + 1, h => by
    have ih := cnQ_congr n (fun v hv => h v (by omega))
    by_cases c : Q n
    · rw [cnQ_y c, cnQ_y ((h n (by omega)).mp c), ih]
    · rw [cnQ_n c, cnQ_n (fun q => c ((h n (by omega)).mpr q)), ih]
theorem cnQ_drop {Q Q' : Nat → Prop} {B : Nat} (h1 : Q B) (h2 : ¬ Q' B) (h3 : ∀ v, v ≠ B → (Q' v ↔ Q v)) : ∀ n, B < n → cnQ Q' n + 1 = cnQ Q n
  | 0, h => by omega
  | n + 1, h => by
    by_cases e : B = n
    · subst e
      rw [cnQ_n h2, cnQ_y h1, cnQ_congr B (fun v hv => h3 v (by omega))]
    · have ih := cnQ_drop h1 h2 h3 n (by omega)
      by_cases c : Q n
      · rw [cnQ_y c, cnQ_y ((h3 n (Ne.symm e)).mpr c), ← ih]
      · rw [cnQ_n c, cnQ_n (fun q => c ((h3 n (Ne.symm e)).mp q)), ih]
theorem cnQ_0 {Q : Nat → Prop} : ∀ n, (∀ v, v < n → ¬ Q v) → cnQ Q n = 0
  | 0, _ => rfl
  | n + 1, h => by rw [cnQ_n (h n (by omega)), cnQ_0 n (fun v hv => h v (by omega))]
/-- the labels that there are -/
def prs (P : Nat) (h : Nat → Nat) (v : Nat) : Prop := ∃ x, x < P ∧ h x = v
def swN (π : Nat → Nat) (a b : Nat) : Nat → Nat := fun x => if x = a then π b else if x = b then π a else π x
def rn (h : Nat → Nat) (a b : Nat) : Nat → Nat := fun x => if h x = h b then h a else h x
theorem rn_same {h : Nat → Nat} {a b : Nat} (e : h a = h b) : rn h a b = h := by
  funext x
  unfold rn
  by_cases c : h x = h b
  · rw [if_pos c, c, e]
  · rw [if_neg c]
theorem rn_drop {P L a b : Nat} {h : Nat → Nat} (ha : a < P) (hb : b < P) (hL : ∀ x, x < P → h x < L) (ne : h a ≠ h b) : cnQ (prs P (rn h a b)) L + 1 = cnQ (prs P h) L := by
  refine cnQ_drop (B := h b) ⟨b, hb, rfl⟩ ?_ ?_ L (hL b hb)
  · rintro ⟨x, hx, e⟩
    unfold rn at e
    by_cases c : h x = h b
    · rw [if_pos c] at e; exact ne e
    · rw [if_neg c] at e; exact c e
  · intro v hv
    constructor
    · rintro ⟨x, hx, e⟩
      unfold rn at e
      by_cases c : h x = h b
      · rw [if_pos c] at e; exact ⟨a, ha, e⟩
      · rw [if_neg c] at e; exact ⟨x, hx, e⟩
    · rintro ⟨x, hx, e⟩
      refine ⟨x, hx, ?_⟩
      unfold rn
      rw [if_neg (fun q => hv (e.symm.trans q)), e]
theorem rn_lt {P L a b : Nat} {h : Nat → Nat} (ha : a < P) (hL : ∀ x, x < P → h x < L) : ∀ x, x < P → rn h a b x < L := fun x hx => by
  unfold rn
  by_cases c : h x = h b
  · rw [if_pos c]; exact hL a ha
  · rw [if_neg c]; exact hL x hx
theorem rn_resp {h : Nat → Nat} {a b x y : Nat} (e : h x = h y) : rn h a b x = rn h a b y := by
  unfold rn
  rw [e]
theorem rn_ab {h : Nat → Nat} {a b : Nat} : rn h a b a = rn h a b b := by
  unfold rn
  rw [if_pos (show h b = h b from rfl)]
  by_cases c : h a = h b
  · rw [if_pos c]
  · rw [if_neg c]
theorem swN_pb {P a b : Nat} {π : Nat → Nat} (h : PB P π) (ha : a < P) (hb : b < P) : PB P (swN π a b) := by
  have key : ∀ x, x < P → ∃ y, y < P ∧ swN π a b x = π y ∧ ((x = a ∧ y = b) ∨ (x ≠ a ∧ x = b ∧ y = a) ∨ (x ≠ a ∧ x ≠ b ∧ y = x)) := fun x hx => by
    unfold swN
    by_cases c1 : x = a
    · exact ⟨b, hb, if_pos c1, Or.inl ⟨c1, rfl⟩⟩
    · by_cases c2 : x = b
      · exact ⟨a, ha, by rw [if_neg c1, if_pos c2], Or.inr (Or.inl ⟨c1, c2, rfl⟩)⟩
      · exact ⟨x, hx, by rw [if_neg c1, if_neg c2], Or.inr (Or.inr ⟨c1, c2, rfl⟩)⟩
  refine ⟨fun x hx => ?_, fun x y hx hy e => ?_⟩
  · obtain ⟨z, hz, e, -⟩ := key x hx
    rw [e]
    exact h.1 z hz
  · obtain ⟨z, hz, ez, cz⟩ := key x hx
    obtain ⟨t, ht, et, ct⟩ := key y hy
    rw [ez, et] at e
    have := h.2 z t hz ht e
    omega
def exL (u : Nat → Nat) : List Nat → (Nat → Nat) → Nat → Nat
  | [], π => π
  | k :: ks, π => exL u ks (swN π (u k) (u (k + 1)))
def lbL (u : Nat → Nat) : List Nat → (Nat → Nat) → Nat → Nat
  | [], h => h
  | k :: ks, h => lbL u ks (rn h (u k) (u (k + 1)))
theorem exL_app {u : Nat → Nat} : ∀ (l l' : List Nat) (π : Nat → Nat), exL u (l ++ l') π = exL u l' (exL u l π)
  | [], _, _ => rfl
  | _ :: ks, l', _ => exL_app ks l' _
theorem lbL_resp {u : Nat → Nat} : ∀ (l : List Nat) (h : Nat → Nat) (x y : Nat), h x = h y → lbL u l h x = lbL u l h y
  | [], _, _, _, e => e
  | k :: ks, h, x, y, e => lbL_resp ks _ x y (rn_resp e)
theorem lbL_edge {u : Nat → Nat} : ∀ (l : List Nat) (h : Nat → Nat) (k : Nat), k ∈ l → lbL u l h (u k) = lbL u l h (u (k + 1))
  | [], _, _, e => absurd e (List.not_mem_nil)
  | j :: ks, h, k, e => by
    rcases List.mem_cons.mp e with e | e
    · subst e
      exact lbL_resp ks _ _ _ rn_ab
    · exact lbL_edge ks _ k e
theorem lbL_ge {P L : Nat} {u : Nat → Nat} (hu : ∀ i, i < P → u i < P) : ∀ (l : List Nat) (h : Nat → Nat), (∀ k, k ∈ l → k + 1 < P) → (∀ x, x < P → h x < L) → cnQ (prs P h) L ≤ cnQ (prs P (lbL u l h)) L + l.length
  | [], _, _, _ => Nat.le_refl _
  | k :: ks, h, hk, hL => by
    have k1 := hk k List.mem_cons_self
    have ih := lbL_ge hu ks (rn h (u k) (u (k + 1))) (fun j hj => hk j (List.mem_cons_of_mem _ hj)) (rn_lt (hu k (by omega)) hL)
    show _ ≤ cnQ (prs P (lbL u ks (rn h (u k) (u (k + 1))))) L + (ks.length + 1)
    by_cases c : h (u k) = h (u (k + 1))
    · rw [rn_same c] at ih ⊢
      omega
    · have := rn_drop (hu k (by omega)) (hu (k + 1) k1) hL c
      omega
/-- done in any order, if each is needed -/
theorem forest {P L : Nat} {u : Nat → Nat} (hu : ∀ i, i < P → u i < P) : ∀ (l : List Nat) (π h : Nat → Nat), (∀ k, k ∈ l → k + 1 < P) → (∀ x, x < P → h x < L) → PB P π → (∀ x, x < P → h (π x) = h x) → (∀ x y, x < P → y < P → h x = h y → Rch π x y) → cnQ (prs P h) L = cnQ (prs P (lbL u l h)) L + l.length → PB P (exL u l π) ∧ ∀ x y, x < P → y < P → lbL u l h x = lbL u l h y → Rch (exL u l π) x y
  | [], π, h, _, _, hp, i1, i2, _ => ⟨hp, i2⟩
  | k :: ks, π, h, hk, hL, hp, i1, i2, hc => by
    have k1 := hk k List.mem_cons_self
    have ha := hu k (by omega)
    have hb := hu (k + 1) k1
    have hk' : ∀ j, j ∈ ks → j + 1 < P := fun j hj => hk j (List.mem_cons_of_mem _ hj)
    have hL' := rn_lt (b := u (k + 1)) ha hL
    have ge := lbL_ge hu ks (rn h (u k) (u (k + 1))) hk' hL'
    have hc' : cnQ (prs P h) L = cnQ (prs P (lbL u ks (rn h (u k) (u (k + 1))))) L + (ks.length + 1) := hc
    have ne : h (u k) ≠ h (u (k + 1)) := fun c => by
      rw [rn_same c] at ge hc'
      omega
    have dr := rn_drop ha hb hL ne
    have nab : u k ≠ u (k + 1) := fun q => ne (by rw [q])
    obtain ⟨j1, j2⟩ := merge (π' := swN π (u k) (u (k + 1))) (h' := rn h (u k) (u (k + 1))) hp ha hb ne (if_pos rfl) (by
      unfold swN
      rw [if_neg (Ne.symm nab), if_pos rfl]) (fun x q1 q2 => by
      unfold swN
      rw [if_neg q1, if_neg q2]) i1 i2 (fun x _ => rfl)
    exact forest hu ks _ _ hk' hL' (swN_pb hp ha hb) j1 j2 (by omega)
/-- which joins are taken -/
def kr (u : Nat → Nat) (w : Nat → Int32) (b : Nat → Nat) (f0 : Nat → Nat) : Nat → (Nat → Nat) × (Nat → Nat) × Nat × Int32
  | 0 => (f0, fun _ => 0, 0, 0)
  | t + 1 => if (kr u w b f0 t).1 (u (b t)) = (kr u w b f0 t).1 (u (b t + 1)) then kr u w b f0 t else (rn (kr u w b f0 t).1 (u (b t)) (u (b t + 1)), fun k => if k = b t then 1 else (kr u w b f0 t).2.1 k, (kr u w b f0 t).2.2.1 + 1, (kr u w b f0 t).2.2.2 + w (b t))
theorem kr_n {u b f0 : Nat → Nat} {w : Nat → Int32} {t : Nat} (h : (kr u w b f0 t).1 (u (b t)) = (kr u w b f0 t).1 (u (b t + 1))) : kr u w b f0 (t + 1) = kr u w b f0 t := if_pos h
theorem kr_y {u b f0 : Nat → Nat} {w : Nat → Int32} {t : Nat} (h : ¬ (kr u w b f0 t).1 (u (b t)) = (kr u w b f0 t).1 (u (b t + 1))) : kr u w b f0 (t + 1) = (rn (kr u w b f0 t).1 (u (b t)) (u (b t + 1)), fun k => if k = b t then 1 else (kr u w b f0 t).2.1 k, (kr u w b f0 t).2.2.1 + 1, (kr u w b f0 t).2.2.2 + w (b t)) := if_neg h
def smN (f : Nat → Nat) : Nat → Nat
  | 0 => 0
  | n + 1 => smN f n + f n
theorem smN_congr {f g : Nat → Nat} : ∀ n, (∀ i, i < n → f i = g i) → smN f n = smN g n
  | 0, _ => rfl
  | n + 1, h => by
    show smN f n + f n = smN g n + g n
    rw [smN_congr n (fun i hi => h i (by omega)), h n (by omega)]
theorem smN_up {f : Nat → Nat} {j : Nat} (hj : f j = 0) : ∀ n, j < n → smN (fun k => if k = j then 1 else f k) n = smN f n + 1
  | 0, h => by omega
  | n + 1, h => by
    show smN (fun k => if k = j then 1 else f k) n + (if n = j then 1 else f n) = smN f n + f n + 1
    by_cases e : n = j
    · subst e
      rw [if_pos rfl, hj, smN_congr n (fun i hi => by show (if i = n then 1 else f i) = f i; rw [if_neg (by omega)])]
    · rw [if_neg e, smN_up hj n (by omega)]
      omega
theorem kr_inv {P M L : Nat} {u b f0 : Nat → Nat} {w : Nat → Int32} (hM : M + 1 = P) (hu : ∀ i, i < P → u i < P) (hb : ∀ t, t < M → b t < M) (hbi : ∀ s t, s < t → t < M → b s ≠ b t) (hL : ∀ x, x < P → f0 x < L) : ∀ t, t ≤ M →
    (∀ x, x < P → (kr u w b f0 t).1 x < L) ∧ cnQ (prs P (kr u w b f0 t).1) L + (kr u w b f0 t).2.2.1 = cnQ (prs P f0) L ∧ smN (kr u w b f0 t).2.1 M = (kr u w b f0 t).2.2.1 ∧ (∀ k, k < M → (∀ s, s < t → b s ≠ k) → (kr u w b f0 t).2.1 k = 0) ∧ (∀ k, (kr u w b f0 t).2.1 k ≤ 1) ∧ (∀ s, s < t → (kr u w b f0 t).1 (u (b s)) = (kr u w b f0 t).1 (u (b s + 1))) ∧
    (∀ h : Nat → Nat, (∀ x y, x < P → y < P → f0 x = f0 y → h x = h y) → (∀ k, k < M → (kr u w b f0 t).2.1 k = 1 → h (u k) = h (u (k + 1))) → ∀ x y, x < P → y < P → (kr u w b f0 t).1 x = (kr u w b f0 t).1 y → h x = h y) ∧ (kr u w b f0 t).2.2.1 ≤ t
  | 0, _ => ⟨hL, Nat.add_zero _, by
      show smN (fun _ => 0) M = 0
      have : ∀ n, smN (fun _ => 0) n = 0 := fun n => by
        induction n with
        | zero => rfl
        | succ n ih => exact ih
      exact this M, fun _ _ _ => rfl, fun _ => by show 0 ≤ 1; omega, fun s hs => by omega, fun h h1 _ x y hx hy e => h1 x y hx hy e, Nat.le_refl _⟩
  | t + 1, ht => by
    obtain ⟨a1, a2, a3, a4, a5, a6, a7, a8⟩ := kr_inv (w := w) hM hu hb hbi hL t (by omega)
    have bt := hb t (by omega)
    have ua := hu (b t) (by omega)
    have ub := hu (b t + 1) (by omega)
    by_cases c : (kr u w b f0 t).1 (u (b t)) = (kr u w b f0 t).1 (u (b t + 1))
    · rw [kr_n c]
      refine ⟨a1, a2, a3, fun k hk hs => a4 k hk (fun s q => hs s (by omega)), a5, fun s hs => ?_, a7, by omega⟩
      by_cases e : s = t
      · rw [e]; exact c
      · exact a6 s (by omega)
    · rw [kr_y c]
      have z : (kr u w b f0 t).2.1 (b t) = 0 := a4 (b t) bt (fun s hs => hbi s t hs (by omega))
      have dr := rn_drop ua ub a1 c
      refine ⟨rn_lt ua a1, ?_, ?_, fun k hk hs => ?_, fun k => ?_, fun s hs => ?_, fun h h1 h2 x y hx hy e => ?_, ?_⟩
      · show cnQ (prs P (rn (kr u w b f0 t).1 (u (b t)) (u (b t + 1)))) L + ((kr u w b f0 t).2.2.1 + 1) = _
        omega
      · show smN (fun k => if k = b t then 1 else (kr u w b f0 t).2.1 k) M = (kr u w b f0 t).2.2.1 + 1
        rw [smN_up z M bt, a3]
      · show (if k = b t then 1 else (kr u w b f0 t).2.1 k) = 0
        rw [if_neg (fun q => hs t (by omega) q.symm)]
        exact a4 k hk (fun s q => hs s (by omega))
      · show (if k = b t then 1 else (kr u w b f0 t).2.1 k) ≤ 1
        by_cases q : k = b t
        · rw [if_pos q]; exact Nat.le_refl _
        · rw [if_neg q]; exact a5 k
      · show rn (kr u w b f0 t).1 (u (b t)) (u (b t + 1)) (u (b s)) = rn (kr u w b f0 t).1 (u (b t)) (u (b t + 1)) (u (b s + 1))
        by_cases q : s = t
        · rw [q]; exact rn_ab
        · exact rn_resp (a6 s (by omega))
      · have h2' : ∀ k, k < M → (kr u w b f0 t).2.1 k = 1 → h (u k) = h (u (k + 1)) := fun k hk q => h2 k hk (by
          show (if k = b t then 1 else (kr u w b f0 t).2.1 k) = 1
          by_cases w' : k = b t
          · rw [if_pos w']
          · rw [if_neg w']; exact q)
        have hab : h (u (b t)) = h (u (b t + 1)) := h2 (b t) bt (if_pos rfl)
        have old := a7 h h1 h2'
        have e' : rn (kr u w b f0 t).1 (u (b t)) (u (b t + 1)) x = rn (kr u w b f0 t).1 (u (b t)) (u (b t + 1)) y := e
        unfold rn at e'
        by_cases cx : (kr u w b f0 t).1 x = (kr u w b f0 t).1 (u (b t + 1))
        · have hx2 := old x _ hx ub cx
          rw [if_pos cx] at e'
          by_cases cy : (kr u w b f0 t).1 y = (kr u w b f0 t).1 (u (b t + 1))
          · exact hx2.trans (old y _ hy ub cy).symm
          · rw [if_neg cy] at e'
            exact hx2.trans (hab.symm.trans (old _ y ua hy e'))
        · rw [if_neg cx] at e'
          by_cases cy : (kr u w b f0 t).1 y = (kr u w b f0 t).1 (u (b t + 1))
          · rw [if_pos cy] at e'
            exact (old x _ hx ua e').trans (hab.trans (old y _ hy ub cy).symm)
          · rw [if_neg cy] at e'
            exact old x y hx hy e'
      · show (kr u w b f0 t).2.2.1 + 1 ≤ t + 1
        omega
end
section
/-! one ring is left -/
def Ldn (s : Nat → Bool) : Nat → List Nat
  | 0 => []
  | n + 1 => if s n = true then n :: Ldn s n else Ldn s n
def Lup (s : Nat → Bool) : Nat → Nat → List Nat
  | 0, _ => []
  | d + 1, i => if s i = true then i :: Lup s d (i + 1) else Lup s d (i + 1)
theorem Ldn_mem {s : Nat → Bool} {k : Nat} : ∀ {n : Nat}, k ∈ Ldn s n ↔ k < n ∧ s k = true
  | 0 => ⟨fun h => absurd h (List.not_mem_nil), fun h => by omega⟩
  | n + 1 => by
    unfold Ldn
    by_cases c : s n = true
    · rw [if_pos c, List.mem_cons, Ldn_mem]
      constructor
      · rintro (h | ⟨h1, h2⟩)
        · rw [h]; exact ⟨by omega, c⟩
        · exact ⟨by omega, h2⟩
      · rintro ⟨h1, h2⟩
        by_cases e : k = n
        · exact Or.inl e
        · exact Or.inr ⟨by omega, h2⟩
    · rw [if_neg c, Ldn_mem]
      constructor
      · rintro ⟨h1, h2⟩
        exact ⟨by omega, h2⟩
      · rintro ⟨h1, h2⟩
        refine ⟨?_, h2⟩
        by_cases e : k = n
        · rw [e] at h2; exact absurd h2 c
        · omega
theorem Lup_mem {s : Nat → Bool} {k : Nat} : ∀ {d i : Nat}, k ∈ Lup s d i ↔ (i ≤ k ∧ k < i + d) ∧ s k = true
  | 0, i => ⟨fun h => absurd h (List.not_mem_nil), fun h => by omega⟩
  | d + 1, i => by
    unfold Lup
    by_cases c : s i = true
    · rw [if_pos c, List.mem_cons, Lup_mem]
      constructor
      · rintro (h | ⟨h1, h2⟩)
        · rw [h]; exact ⟨by omega, c⟩
        · exact ⟨by omega, h2⟩
      · rintro ⟨h1, h2⟩
        by_cases e : k = i
        · exact Or.inl e
        · exact Or.inr ⟨by omega, h2⟩
    · rw [if_neg c, Lup_mem]
      constructor
      · rintro ⟨h1, h2⟩
        exact ⟨by omega, h2⟩
      · rintro ⟨h1, h2⟩
        refine ⟨?_, h2⟩
        by_cases e : k = i
        · rw [e] at h2; exact absurd h2 c
        · omega
theorem smN_front {f : Nat → Nat} : ∀ n, smN f (n + 1) = f 0 + smN (fun k => f (k + 1)) n
  | 0 => by
    show 0 + f 0 = f 0 + 0
    omega
  | n + 1 => by
    have ih := smN_front (f := f) n
    show smN f (n + 1) + f (n + 1) = f 0 + (smN (fun k => f (k + 1)) n + f (n + 1))
    omega
theorem Ldn_len {s : Nat → Bool} : ∀ n, (Ldn s n).length = smN (fun k => if s k = true then 1 else 0) n
  | 0 => rfl
  | n + 1 => by
    have ih := Ldn_len (s := s) n
    show (Ldn s (n + 1)).length = smN (fun k => if s k = true then 1 else 0) n + (if s n = true then 1 else 0)
    unfold Ldn
    by_cases c : s n = true
    · rw [if_pos c, if_pos c, List.length_cons, ih]
    · rw [if_neg c, if_neg c, ih, Nat.add_zero]
theorem Lup_len {s : Nat → Bool} : ∀ d i, (Lup s d i).length = smN (fun k => if s (i + k) = true then 1 else 0) d
  | 0, _ => rfl
  | d + 1, i => by
    have ih := Lup_len (s := s) d (i + 1)
    rw [smN_front]
    have e : smN (fun k => if s (i + (k + 1)) = true then 1 else 0) d = smN (fun k => if s (i + 1 + k) = true then 1 else 0) d := smN_congr d (fun k _ => by rw [show i + (k + 1) = i + 1 + k by omega])
    show (Lup s (d + 1) i).length = (if s (i + 0) = true then 1 else 0) + smN (fun k => if s (i + (k + 1)) = true then 1 else 0) d
    rw [e, ← ih, show i + 0 = i from rfl, show Lup s (d + 1) i = if s i = true then i :: Lup s d (i + 1) else Lup s d (i + 1) from rfl]
    by_cases c : s i = true
    · rw [if_pos c, if_pos c, List.length_cons]; omega
    · rw [if_neg c, if_neg c]; omega
theorem smN_add {f g : Nat → Nat} : ∀ n, smN f n + smN g n = smN (fun k => f k + g k) n
  | 0 => rfl
  | n + 1 => by
    have ih := smN_add (f := f) (g := g) n
    show smN f n + f n + (smN g n + g n) = smN (fun k => f k + g k) n + (f n + g n)
    omega
def sD (tk : Nat → Nat) (ea : Nat → Bool) (k : Nat) : Bool := decide (tk k = 1) && !ea k
def sU (tk : Nat → Nat) (ea : Nat → Bool) (k : Nat) : Bool := decide (tk k = 1) && ea k
def jL (tk : Nat → Nat) (ea : Nat → Bool) (M : Nat) : List Nat := Ldn (sD tk ea) M ++ Lup (sU tk ea) M 0
theorem jL_mem {tk : Nat → Nat} {ea : Nat → Bool} {M k : Nat} : k ∈ jL tk ea M ↔ k < M ∧ tk k = 1 := by
  unfold jL
  rw [List.mem_append, Ldn_mem, Lup_mem]
  unfold sD sU
  rw [Bool.and_eq_true, Bool.and_eq_true, decide_eq_true_iff]
  constructor
  · rintro (⟨h1, h2, h3⟩ | ⟨⟨h1, h2⟩, h3, h4⟩)
    · exact ⟨h1, h2⟩
    · exact ⟨by omega, h3⟩
  · rintro ⟨h1, h2⟩
    cases e : ea k with
    | false => exact Or.inl ⟨h1, h2, rfl⟩
    | true => exact Or.inr ⟨⟨by omega, by omega⟩, h2, rfl⟩
theorem jL_len {tk : Nat → Nat} {ea : Nat → Bool} {M : Nat} (h : ∀ k, tk k ≤ 1) : (jL tk ea M).length = smN tk M := by
  unfold jL
  rw [List.length_append, Ldn_len, Lup_len, smN_add]
  refine smN_congr M (fun k _ => ?_)
  have := h k
  rw [show 0 + k = k by omega]
  unfold sD sU
  have t : tk k = 0 ∨ tk k = 1 := by omega
  rcases t with t | t <;> cases e : ea k <;> rw [t] <;> rfl
theorem cnQ_1 {P L : Nat} {h : Nat → Nat} (hP : 1 ≤ P) (hL : ∀ x, x < P → h x < L) (hc : ∀ x, x < P → h x = h 0) : cnQ (prs P h) L = 1 := by
  have := cnQ_drop (Q := prs P h) (Q' := fun _ => False) (B := h 0) ⟨0, by omega, rfl⟩ (fun q => q) (fun v hv => ⟨fun q => q.elim, fun ⟨x, hx, e⟩ => hv (e.symm.trans (hc x hx))⟩) L (hL 0 (by omega))
  rw [cnQ_0 L (fun v _ q => q)] at this
  omega
theorem one_ring {P M L : Nat} {u b f0 π : Nat → Nat} {w : Nat → Int32} {ea : Nat → Bool} (hM : M + 1 = P) (hu : ∀ i, i < P → u i < P) (hus : ∀ x, x < P → ∃ i, i < P ∧ u i = x) (hb : ∀ t, t < M → b t < M) (hbi : ∀ s t, s < t → t < M → b s ≠ b t) (hbs : ∀ k, k < M → ∃ t, t < M ∧ b t = k) (hL : ∀ x, x < P → f0 x < L) (hp : PB P π) (i1 : ∀ x, x < P → f0 (π x) = f0 x) (i2 : ∀ x y, x < P → y < P → f0 x = f0 y → Rch π x y) :
    PB P (exL u (jL (kr u w b f0 M).2.1 ea M) π) ∧ ∀ x y, x < P → y < P → Rch (exL u (jL (kr u w b f0 M).2.1 ea M) π) x y := by
  obtain ⟨a1, a2, a3, a4, a5, a6, a7, a8⟩ := kr_inv (w := w) hM hu hb hbi hL M (Nat.le_refl _)
  obtain ⟨l, hl⟩ : ∃ l, l = jL (kr u w b f0 M).2.1 ea M := ⟨_, rfl⟩
  rw [← hl]
  have mem : ∀ k, k ∈ l ↔ k < M ∧ (kr u w b f0 M).2.1 k = 1 := fun k => by rw [hl]; exact jL_mem
  have len : l.length = (kr u w b f0 M).2.2.1 := by rw [hl, jL_len a5, a3]
  -- all have one label
  have step : ∀ k, k < M → (kr u w b f0 M).1 (u k) = (kr u w b f0 M).1 (u (k + 1)) := fun k hk => by
    obtain ⟨t, ht, e⟩ := hbs k hk
    rw [← e]
    exact a6 t ht
  have chain : ∀ i, i < P → (kr u w b f0 M).1 (u i) = (kr u w b f0 M).1 (u 0) := fun i => by
    induction i with
    | zero => intro _; rfl
    | succ i ih => intro hi; rw [← step i (by omega)]; exact ih (by omega)
  have one : ∀ x, x < P → (kr u w b f0 M).1 x = (kr u w b f0 M).1 (u 0) := fun x hx => by
    obtain ⟨i, hi, e⟩ := hus x hx
    rw [← e]
    exact chain i hi
  have c1 := cnQ_1 (by omega) a1 (fun x hx => (one x hx).trans (one 0 (by omega)).symm)
  have same : ∀ x y, x < P → y < P → lbL u l f0 x = lbL u l f0 y := fun x y hx hy => a7 (lbL u l f0) (fun x y _ _ e => lbL_resp l f0 x y e) (fun k hk e => lbL_edge l f0 k ((mem k).mpr ⟨hk, e⟩)) x y hx hy ((one x hx).trans (one y hy).symm)
  have hlk : ∀ k, k ∈ l → k + 1 < P := fun k hk => by have := (mem k).mp hk; omega
  have lt : ∀ (l : List Nat) (h : Nat → Nat), (∀ k, k ∈ l → k + 1 < P) → (∀ x, x < P → h x < L) → ∀ x, x < P → lbL u l h x < L := fun l => by
    induction l with
    | nil => intro h _ q; exact q
    | cons k ks ih =>
      intro h q1 q2
      exact ih _ (fun j hj => q1 j (List.mem_cons_of_mem _ hj)) (rn_lt (hu k (by have := q1 k List.mem_cons_self; omega)) q2)
  have c2 := cnQ_1 (by omega) (lt l f0 hlk hL) (fun x hx => same x 0 hx (by omega))
  obtain ⟨r1, r2⟩ := forest hu l π f0 hlk hL hp i1 i2 (by omega)
  exact ⟨r1, fun x y hx hy => r2 x y hx hy (same x y hx hy)⟩
end
section
/-! rings are named -/
def walk (π : Nat → Nat) (nm : Int32) : Nat → Nat → (Nat → Int32) → Nat → Int32
  | 0, _, f => f
  | d + 1, p, f => if f p = -1 then walk π nm d (π p) (upd f p nm) else f
noncomputable def cvr (Q : Nat → Prop) (nm : Int32) (f : Nat → Int32) : Nat → Int32 := fun a => @ite _ (Q a) (Classical.propDecidable _) nm (f a)
theorem cvr_y {Q : Nat → Prop} {nm : Int32} {f : Nat → Int32} {a : Nat} (h : Q a) : cvr Q nm f a = nm := if_pos h
theorem cvr_n {Q : Nat → Prop} {nm : Int32} {f : Nat → Int32} {a : Nat} (h : ¬ Q a) : cvr Q nm f a = f a := if_neg h
theorem walk_orbit {P D i : Nat} {π : Nat → Nat} {nm : Int32} {f : Nat → Int32} (hp : PB P π) (hi : i < P) (hD : P ≤ D) (hn : ¬ nm = -1) (hf : ∀ a, Rch π i a → f a = -1) : walk π nm D i f = cvr (Rch π i) nm f := by
  obtain ⟨m0, q1, q2, q3⟩ := itr_per hp hi
  obtain ⟨m, mp, mP, me, mm⟩ : ∃ m, 0 < m ∧ m ≤ P ∧ itr π m i = i ∧ ∀ k, 0 < k → k < m → itr π k i ≠ i := by
    have e : itr π (m0 - 1) (π i) = i := by
      have : itr π (m0 - 1 + 1) i = itr π (m0 - 1) (itr π 1 i) := itr_add (m0 - 1)
      rw [show m0 - 1 + 1 = m0 by omega, q3] at this
      exact this.symm
    obtain ⟨k, k1, k2, k3⟩ := first (m0 - 1 + 1) (m0 - 1) (by omega) e
    have sh : ∀ k, itr π (k + 1) i = itr π k (π i) := fun k => itr_add k
    refine ⟨k + 1, by omega, by omega, by rw [sh]; exact k2, fun j j1 j2 e2 => ?_⟩
    have := sh (j - 1)
    rw [show j - 1 + 1 = j by omega, e2] at this
    exact k3 (j - 1) (by omega) this.symm
  have cov : ∀ a, Rch π i a ↔ ∃ t, t < m ∧ itr π t i = a := fun a => by
    constructor
    · rintro ⟨n, e⟩
      refine ⟨n % m, Nat.mod_lt _ mp, ?_⟩
      rw [← e]
      have : n = n % m + m * (n / m) := (Nat.mod_add_div n m).symm
      rw [show itr π n i = itr π (n % m + m * (n / m)) i from by rw [← this], itr_add, itr_mul me]
    · rintro ⟨t, _, e⟩
      exact ⟨t, e⟩
  have loop : ∀ (d j e : Nat), j + d = m → walk π nm (d + e) (itr π j i) (cvr (fun a => ∃ t, t < j ∧ itr π t i = a) nm f) = cvr (Rch π i) nm f := by
    intro d
    induction d with
    | zero =>
      intro j e hj
      obtain rfl : j = m := by omega
      have eq : cvr (fun a => ∃ t, t < j ∧ itr π t i = a) nm f = cvr (Rch π i) nm f := by
        funext a
        by_cases c : Rch π i a
        · rw [cvr_y c, cvr_y ((cov a).mp c)]
        · rw [cvr_n c, cvr_n (fun q => c ((cov a).mpr q))]
      rw [eq, Nat.zero_add]
      cases e with
      | zero => rfl
      | succ e =>
        show (if cvr (Rch π i) nm f (itr π j i) = -1 then _ else _) = _
        rw [if_neg]
        rw [cvr_y (show Rch π i (itr π j i) from ⟨j, rfl⟩)]
        exact hn
    | succ d ih =>
      intro j e hj
      have nin : ¬ ∃ t, t < j ∧ itr π t i = itr π j i := by
        rintro ⟨t, ht, e2⟩
        have e3 : itr π t (itr π (j - t) i) = itr π t i := by rw [← itr_add, show t + (j - t) = j by omega, e2]
        exact mm (j - t) (by omega) (by omega) (itr_cancel hp (itr_lt hp hi _) hi t e3)
      have e4 : upd (cvr (fun a => ∃ t, t < j ∧ itr π t i = a) nm f) (itr π j i) nm = cvr (fun a => ∃ t, t < j + 1 ∧ itr π t i = a) nm f := by
        funext a
        by_cases c : a = itr π j i
        · rw [c, upd_s, cvr_y (Q := fun a => ∃ t, t < j + 1 ∧ itr π t i = a) ⟨j, by omega, rfl⟩]
        · rw [upd_ne c]
          by_cases c2 : ∃ t, t < j ∧ itr π t i = a
          · obtain ⟨t, t1, t2⟩ := c2
            rw [cvr_y (Q := fun a => ∃ t, t < j ∧ itr π t i = a) ⟨t, t1, t2⟩, cvr_y (Q := fun a => ∃ t, t < j + 1 ∧ itr π t i = a) ⟨t, by omega, t2⟩]
          · rw [cvr_n c2, cvr_n]
            rintro ⟨t, t1, t2⟩
            by_cases c3 : t = j
            · rw [c3] at t2; exact c t2.symm
            · exact c2 ⟨t, by omega, t2⟩
      rw [show d + 1 + e = (d + e) + 1 by omega]
      show (if cvr (fun a => ∃ t, t < j ∧ itr π t i = a) nm f (itr π j i) = -1 then walk π nm (d + e) (π (itr π j i)) (upd (cvr (fun a => ∃ t, t < j ∧ itr π t i = a) nm f) (itr π j i) nm) else _) = _
      rw [if_pos (by rw [cvr_n nin]; exact hf _ ⟨j, rfl⟩), e4]
      exact ih (j + 1) e (by omega)
  have l := loop m 0 (D - m) (by omega)
  rw [show m + (D - m) = D by omega] at l
  have e0 : cvr (fun a => ∃ t, t < 0 ∧ itr π t i = a) nm f = f := funext fun a => cvr_n (fun ⟨t, h, _⟩ => by omega)
  rw [e0] at l
  exact l
/-- where a ring begins -/
def Sta (π : Nat → Nat) (s : Nat) : Prop := ∀ a, a < s → ¬ Rch π a s
noncomputable def Kn (π : Nat → Nat) (i : Nat) : Nat := cnQ (Sta π) i
/-- ahead of point i: all that is reached from less is named -/
def Nmd (P : Nat) (π nf : Nat → Nat) (i : Nat) (f : Nat → Int32) : Prop := ∀ a, a < P → (f a = -1 ∧ ∀ s, s < i → ¬ Rch π s a) ∨ ∃ s, s < i ∧ Sta π s ∧ Rch π s a ∧ f a = nI (nf s)
theorem Nmd.st {P i : Nat} {π nf : Nat → Nat} {f : Nat → Int32} (hp : PB P π) (hi : i < P) (hn : ∀ s, s < P → nf s ≤ 41) (h : Nmd P π nf i f) : (f i = -1 ∧ Sta π i ∧ (∀ a, Rch π i a → f a = -1) ∧ Nmd P π nf (i + 1) (cvr (Rch π i) (nI (nf i)) f)) ∨ (¬ f i = -1 ∧ ¬ Sta π i ∧ Nmd P π nf (i + 1) f) := by
  rcases h i hi with ⟨e, q⟩ | ⟨s, s1, s2, s3, s4⟩
  · have un : ∀ a, Rch π i a → f a = -1 := fun a r => by
      have ha := r.lt hp hi
      rcases h a ha with ⟨e2, _⟩ | ⟨s, t1, t2, t3, t4⟩
      · exact e2
      · exact absurd (t3.tr (r.sy hp hi)) (q s t1)
    refine Or.inl ⟨e, q, un, fun a ha => ?_⟩
    by_cases c : Rch π i a
    · exact Or.inr ⟨i, by omega, q, c, cvr_y c⟩
    · rw [cvr_n c]
      rcases h a ha with ⟨e2, q2⟩ | ⟨s, t1, t2, t3, t4⟩
      · refine Or.inl ⟨e2, fun s hs => ?_⟩
        by_cases c2 : s = i
        · rw [c2]; exact c
        · exact q2 s (by omega)
      · exact Or.inr ⟨s, by omega, t2, t3, t4⟩
  · have ns := hn s (by omega)
    refine Or.inr ⟨fun e => ?_, fun w => w s s1 s3, fun a ha => ?_⟩
    · rw [s4] at e
      exact absurd e (fun e => by
        have : (nI (nf s)).toInt = (nf s : Int) := nI_toInt (by omega)
        rw [e] at this
        have e1 : (-1 : Int32).toInt = -1 := rfl
        omega)
    · rcases h a ha with ⟨e2, q2⟩ | ⟨s', t1, t2, t3, t4⟩
      · refine Or.inl ⟨e2, fun s' hs => ?_⟩
        by_cases c2 : s' = i
        · rw [c2]
          exact fun r => q2 s s1 (s3.tr r)
        · exact q2 s' (by omega)
      · exact Or.inr ⟨s', by omega, t2, t3, t4⟩
theorem Kn_s {π : Nat → Nat} {i : Nat} (h : Sta π i) : Kn π (i + 1) = Kn π i + 1 := cnQ_y h
theorem Kn_n {π : Nat → Nat} {i : Nat} (h : ¬ Sta π i) : Kn π (i + 1) = Kn π i := cnQ_n h
theorem Kn_le {π : Nat → Nat} : ∀ i, Kn π i ≤ i
  | 0 => Nat.le_refl _
  | i + 1 => by
    have ih := Kn_le (π := π) i
    by_cases c : Sta π i
    · rw [Kn_s c]; omega
    · rw [Kn_n c]; omega
theorem Kn_mono {π : Nat → Nat} {a : Nat} : ∀ d, Kn π a ≤ Kn π (a + d)
  | 0 => Nat.le_refl _
  | d + 1 => by
    have ih := Kn_mono (π := π) (a := a) d
    by_cases c : Sta π (a + d)
    · rw [← Nat.add_assoc, Kn_s c]; omega
    · rw [← Nat.add_assoc, Kn_n c]; exact ih
theorem Kn_inj {π : Nat → Nat} {a b : Nat} (ha : Sta π a) (hb : Sta π b) (e : Kn π a = Kn π b) : a = b := by
  by_cases c : a < b
  · have := Kn_mono (π := π) (a := a + 1) (b - (a + 1))
    rw [show a + 1 + (b - (a + 1)) = b by omega, Kn_s ha] at this
    omega
  · by_cases c2 : b < a
    · have := Kn_mono (π := π) (a := b + 1) (a - (b + 1))
      rw [show b + 1 + (a - (b + 1)) = a by omega, Kn_s hb] at this
      omega
    · omega
/-- all are named: who has the same name -/
theorem Nmd.fin {P : Nat} {π nf : Nat → Nat} {f : Nat → Int32} (hp : PB P π) (hn : ∀ s, s < P → nf s ≤ 41) (hi : ∀ a b, Sta π a → Sta π b → nf a = nf b → a = b) (h : Nmd P π nf P f) : ∀ x, x < P → (f x = nI (tn (f x)) ∧ tn (f x) < 42) ∧ tn (f (π x)) = tn (f x) ∧ ∀ y, y < P → (f x = f y ↔ Rch π x y) ∧ (tn (f x) = tn (f y) ↔ Rch π x y) := by
  have nm : ∀ x, x < P → ∃ s, s < P ∧ Sta π s ∧ Rch π s x ∧ f x = nI (nf s) ∧ nf s ≤ 41 := fun x hx => by
    rcases h x hx with ⟨_, q⟩ | ⟨s, s1, s2, s3, s4⟩
    · exact absurd Rch.rf (q x hx)
    · exact ⟨s, s1, s2, s3, s4, hn s s1⟩
  have uniq : ∀ s t x, s < P → t < P → Sta π s → Sta π t → Rch π s x → Rch π t x → s = t := fun s t x hs ht a b r1 r2 => by
    have st : Rch π s t := r1.tr (r2.sy hp ht)
    have ts : Rch π t s := r2.tr (r1.sy hp hs)
    by_cases c : s < t
    · exact absurd st (b s c)
    · by_cases c2 : t < s
      · exact absurd ts (a t c2)
      · omega
  intro x hx
  obtain ⟨s, s1, s2, s3, s4, s5⟩ := nm x hx
  have ex : tn (f x) = nf s := by rw [s4, tn_n (by omega)]
  have both : ∀ y, y < P → (f x = f y ↔ Rch π x y) ∧ (tn (f x) = tn (f y) ↔ Rch π x y) := fun y hy => by
    obtain ⟨t, t1, t2, t3, t4, t5⟩ := nm y hy
    have ey : tn (f y) = nf t := by rw [t4, tn_n (by omega)]
    have k : nf s = nf t ↔ Rch π x y := by
      constructor
      · intro e
        have := hi s t s2 t2 e
        subst this
        exact (s3.sy hp s1).tr t3
      · intro r
        rw [uniq s t y s1 t1 s2 t2 (s3.tr r) t3]
    refine ⟨?_, by rw [ex, ey]; exact k⟩
    rw [s4, t4]
    constructor
    · intro e
      exact k.mp (nI_inj (by omega) (by omega) e)
    · intro r
      rw [k.mpr r]
  refine ⟨⟨by rw [ex]; exact s4, by omega⟩, ?_, both⟩
  exact ((both (π x) (hp.1 x hx)).2.mpr Rch.one).symm
end
section
/-! the class's rings: from sorting to names -/
theorem srI_lex {w g : Nat → Int32} : ∀ n, n < 2 ^ 31 → ∃ σ : Nat → Nat, (∀ p, p < n → σ p < n ∧ srI (gtK w) g n p = nI (σ p)) ∧ ∀ p q, p < q → q < n → (w (σ p)).toInt < (w (σ q)).toInt ∨ ((w (σ p)).toInt = (w (σ q)).toInt ∧ σ p < σ q)
  | 0, _ => ⟨fun p => p, fun p hp => by omega, fun p q _ hq => by omega⟩
  | n + 1, hn => by
    obtain ⟨σ, s1, s2⟩ := srI_lex (w := w) (g := g) n (by omega)
    obtain ⟨q, q1, q2, q3, q4⟩ := shI_ins2 (gt := fun v => gtK w v n) (x := nI n) n (srI (gtK w) g n)
    have up : ∀ p, q ≤ p → p < n → (w n).toInt < (w (σ p)).toInt := fun p p1 p2 => by
      have := q3 p p1 p2
      obtain ⟨z1, z2⟩ := s1 p p2
      rw [z2, tn_n (by omega)] at this
      unfold gtK at this
      rw [decide_eq_true_iff, Int32.le_iff_toInt_le] at this
      omega
    have lo1 : ∀ p, p + 1 = q → (w (σ p)).toInt ≤ (w n).toInt := fun p p1 => by
      have := q4 p p1
      obtain ⟨z1, z2⟩ := s1 p (by omega)
      rw [z2, tn_n (by omega)] at this
      unfold gtK at this
      rw [decide_eq_true_iff, Int32.le_iff_toInt_le] at this
      omega
    have lo : ∀ p, p < q → (w (σ p)).toInt ≤ (w n).toInt := fun p p1 => by
      by_cases c : p + 1 = q
      · exact lo1 p c
      · have a := lo1 (q - 1) (by omega)
        have b := s2 p (q - 1) (by omega) (by omega)
        omega
    have e : ∀ p, srI (gtK w) g (n + 1) p = insF q n (nI n) (srI (gtK w) g n) p := fun p => congrFun q2 p
    refine ⟨fun p => if p < q then σ p else if p = q then n else σ (p - 1), fun p hp => ?_, fun p p' h1 h2 => ?_⟩
    · rw [e]
      unfold insF
      by_cases c1 : p < q
      · simp only [if_pos c1]
        have := s1 p (by omega)
        exact ⟨by omega, this.2⟩
      · by_cases c2 : p = q
        · simp only [if_neg c1, if_pos c2]
          exact ⟨by omega, trivial⟩
        · simp only [if_neg c1, if_neg c2]
          rw [if_pos (by omega)]
          have := s1 (p - 1) (by omega)
          exact ⟨by omega, this.2⟩
    · by_cases c1 : p < q
      · simp only [if_pos c1]
        by_cases d1 : p' < q
        · simp only [if_pos d1]
          exact s2 p p' h1 (by omega)
        · by_cases d2 : p' = q
          · simp only [if_neg d1, if_pos d2]
            have := lo p c1
            have := (s1 p (by omega)).1
            omega
          · simp only [if_neg d1, if_neg d2]
            exact s2 p (p' - 1) (by omega) (by omega)
      · by_cases c2 : p = q
        · simp only [if_neg c1, if_pos c2]
          rw [if_neg (by omega), if_neg (by omega)]
          exact Or.inl (up (p' - 1) (by omega) (by omega))
        · simp only [if_neg c1, if_neg c2]
          rw [if_neg (by omega), if_neg (by omega)]
          exact s2 (p - 1) (p' - 1) (by omega) (by omega)
def so (w : Nat → Int32) (N : Nat) (p : Nat) : Nat := tn (srI (gtK w) zz N p)
theorem so_eq {w w' g : Nat → Int32} {N : Nat} (hN : N < 2 ^ 31) (h : ∀ s, s < N → w s = w' s) : ∀ p, p < N → srI (gtK w) g N p = nI (so w' N p) := fun p hp => by
  have e := srI_congr (gt := gtK w) (gt' := gtK w') (g := g) (g' := zz) hN (fun s x h1 h2 => by
    unfold gtK
    rw [h s (by omega), h x h2]) p hp
  obtain ⟨σ, τ, h1, h2⟩ := srI_perm (gt := gtK w') (g := zz) N
  obtain ⟨a, b, c⟩ := h1 p hp
  unfold so
  rw [e, b, tn_n (by omega)]
theorem so_perm {w : Nat → Int32} {N : Nat} (hN : N < 2 ^ 31) : (∀ p, p < N → so w N p < N) ∧ (∀ p q, p < N → q < N → so w N p = so w N q → p = q) ∧ ∀ x, x < N → ∃ p, p < N ∧ so w N p = x := by
  obtain ⟨σ, τ, h1, h2⟩ := srI_perm (gt := gtK w) (g := zz) N
  have e : ∀ p, p < N → so w N p = σ p := fun p hp => by
    obtain ⟨a, b, c⟩ := h1 p hp
    unfold so
    rw [b, tn_n (by omega)]
  refine ⟨fun p hp => by rw [e p hp]; exact (h1 p hp).1, fun p q hp hq h => ?_, fun x hx => ⟨τ x, (h2 x hx).1, by rw [e _ (h2 x hx).1]; exact (h2 x hx).2⟩⟩
  rw [e p hp, e q hq] at h
  rw [← (h1 p hp).2.2, ← (h1 q hq).2.2, h]
theorem so_lex {w : Nat → Int32} {N : Nat} (hN : N < 2 ^ 31) : ∀ p q, p < q → q < N → (w (so w N p)).toInt < (w (so w N q)).toInt ∨ ((w (so w N p)).toInt = (w (so w N q)).toInt ∧ so w N p < so w N q) := by
  obtain ⟨σ, h1, h2⟩ := srI_lex (w := w) (g := zz) N hN
  have e : ∀ p, p < N → so w N p = σ p := fun p hp => by
    obtain ⟨a, b⟩ := h1 p hp
    unfold so
    rw [b, tn_n (by omega)]
  intro p q hpq hq
  rw [e p (by omega), e q hq]
  exact h2 p q hpq hq
def bhN (u v : Nat → Nat) : Nat → Nat → Nat
  | 0, x => x
  | i + 1, x => if x = u i then v i else bhN u v i x
theorem bhN_u {u v : Nat → Nat} {P : Nat} (hu : ∀ p q, p < P → q < P → u p = u q → p = q) : ∀ i, i ≤ P → ∀ j, j < i → bhN u v i (u j) = v j
  | 0, _, j, hj => by omega
  | i + 1, hi, j, hj => by
    show (if u j = u i then v i else bhN u v i (u j)) = v j
    by_cases c : u j = u i
    · rw [if_pos c, hu j i (by omega) (by omega) c]
    · rw [if_neg c]
      refine bhN_u hu i (by omega) j ?_
      by_cases d : j = i
      · rw [d] at c; exact absurd rfl c
      · omega
theorem bhN_pb {P : Nat} {wu wv : Nat → Int32} (hP : P < 2 ^ 31) : PB P (bhN (so wu P) (so wv P) P) := by
  obtain ⟨a1, a2, a3⟩ := so_perm (w := wu) hP
  obtain ⟨b1, b2, b3⟩ := so_perm (w := wv) hP
  refine ⟨fun x hx => ?_, fun x y hx hy e => ?_⟩
  · obtain ⟨i, hi, e⟩ := a3 x hx
    rw [← e, bhN_u a2 P (Nat.le_refl _) i hi]
    exact b1 i hi
  · obtain ⟨i, hi, ei⟩ := a3 x hx
    obtain ⟨j, hj, ej⟩ := a3 y hy
    rw [← ei, ← ej, bhN_u a2 P (Nat.le_refl _) i hi, bhN_u a2 P (Nat.le_refl _) j hj] at e
    rw [← ei, ← ej, b2 i j hi hj e]
/-- the class's cells of rings -/
def RC (μ0 : Mem) (P : Nat) (p q : Nat → Nat) (μ : Mem) : Prop := (∀ c, (c < 61 ∨ 70 < c) → μ c = μ0 c) ∧ μ 61 9 = nI P ∧ ∀ i, i < P → μ 63 i = nI (p i) ∧ μ 62 i = nI (q i)
theorem RC.ch {μ0 μ μ' : Mem} {P : Nat} {p q : Nat → Nat} (h : RC μ0 P p q μ) (e : ∀ c, c ≠ 61 → (c < 64 ∨ 70 < c) → μ' c = μ c) (e9 : μ' 61 9 = μ 61 9) : RC μ0 P p q μ' :=
  ⟨fun c hc => by rw [e c (by omega) (by omega)]; exact h.1 c hc, e9.trans h.2.1, fun i hi => by rw [e 63 (by omega) (by omega), e 62 (by omega) (by omega)]; exact h.2.2 i hi⟩
/-- what going costs -/
def GO (k T : Nat) (G : Nat → Nat → Int32) (μ0 : Mem) : Prop := ∀ μ : Mem, (∀ c, (c < 61 ∨ 70 < c) → μ c = μ0 c) → ∀ a b, a ≤ T → b ≤ T → fX4_going FF k (nI a) (nI b) μ = some (G a b, μ)
def cst (P : Nat) (p q : Nat → Nat) (G : Nat → Nat → Int32) (π : Nat → Nat) : Int32 := sumF (fun x => G (p x) (q (π x))) P
theorem c_costAll {k T P : Nat} {p q π : Nat → Nat} {G : Nat → Nat → Int32} {μ0 μ : Mem} (hP : P ≤ 41) (hT : ∀ i, i < P → p i ≤ T ∧ q i ≤ T) (hG : GO k T G μ0) (h : RC μ0 P p q μ) (hπ : ∀ x, x < P → π x < P) (h66 : ∀ x, x < P → μ 66 x = nI (π x)) : fX5_costOfAll FF k μ = some (cst P p q G π, μ) := by
  have loop : ∀ (d n i : Nat), i + d = P → d < n → fX5_costOfAll_4 FF k n (sumF (fun x => G (p x) (q (π x))) i) (nI i) μ = some (cst P p q G π, μ) := by
    intro d
    induction d with
    | zero =>
      intro n i hi hn
      obtain ⟨n, rfl⟩ : ∃ n', n = n' + 1 := ⟨n - 1, by omega⟩
      show fX5_costOfAll_4_b FF _ _ _ _ μ = _
      unfold fX5_costOfAll_4_b
      rw [h.2.1, if_pos (nI_le (by omega) (by omega)), show i = P by omega]
      rfl
    | succ d ih =>
      intro n i hi hn
      obtain ⟨n, rfl⟩ : ∃ n', n = n' + 1 := ⟨n - 1, by omega⟩
      show fX5_costOfAll_4_b FF _ _ _ _ μ = _
      unfold fX5_costOfAll_4_b
      have hp := hπ i (by omega)
      rw [h.2.1, if_neg (nI_ge (by omega) (by omega)), rd_n (by show i < 41; omega), (h.2.2 i (by omega)).1, rd_n (by show i < 41; omega), h66 i (by omega), rd_n (by show π i < 41; omega), (h.2.2 _ hp).2, hG μ h.1 _ _ (hT i (by omega)).1 (hT _ hp).2, cal_n, nI_add1]
      exact ih n (i + 1) (by omega) (by omega)
  exact loop P FF 0 (by omega) (by rw [FF_e]; omega)
theorem c_walk {P nm : Nat} {π : Nat → Nat} {μ : Mem} (hP : P ≤ 41) (h9 : μ 61 9 = nI P) (hπ : ∀ x, x < P → π x < P) (h66 : ∀ x, x < P → μ 66 x = nI (π x)) : ∀ (d n p j : Nat) (f : Nat → Int32), j + d = P → d < n → p < P → fX5_nameRing_5 FF n (nI nm) (nI p) (nI j) (upM μ 67 f) = some (upM μ 67 (walk π (nI nm) d p f)) := by
  intro d
  induction d with
  | zero =>
    intro n p j f hj hn hp
    obtain ⟨n, rfl⟩ : ∃ n', n = n' + 1 := ⟨n - 1, by omega⟩
    show fX5_nameRing_5_b FF _ _ _ _ _ = _
    unfold fX5_nameRing_5_b
    rw [upM_ne (by omega), h9, if_pos (nI_le (by omega) (by omega))]
    rfl
  | succ d ih =>
    intro n p j f hj hn hp
    obtain ⟨n, rfl⟩ : ∃ n', n = n' + 1 := ⟨n - 1, by omega⟩
    show fX5_nameRing_5_b FF _ _ _ _ _ = _
    unfold fX5_nameRing_5_b
    rw [upM_ne (by omega), h9, if_neg (nI_ge (by omega) (by omega)), rd_n (by show p < 41; omega), upM_self]
    have ew : walk π (nI nm) (d + 1) p f = if f p = -1 then walk π (nI nm) d (π p) (upd f p (nI nm)) else f := rfl
    rw [ew]
    by_cases c : f p = -1
    · rw [if_pos c, if_pos c, wr_n (by show p < 41; omega), upM_upM, upM_self, rd_n (by show p < 41; omega), upM_ne (by omega), h66 p hp, nI_add1]
      exact ih n (π p) (j + 1) _ (by omega) (by omega) (hπ p hp)
    · rw [if_neg c, if_neg c]
theorem m1_ne {a : Nat} (h : a ≤ 100) : ¬ nI a = -1 := fun e => by
  have : (nI a).toInt = (a : Int) := nI_toInt (by omega)
  rw [e] at this
  have e1 : (-1 : Int32).toInt = -1 := rfl
  omega
theorem c_names {P : Nat} {p q π : Nat → Nat} {μ0 μ : Mem} (hP : P ≤ 41) (h : RC μ0 P p q μ) (hp : PB P π) (h66 : ∀ x, x < P → μ 66 x = nI (π x)) : ∃ μ' f, fX5_nameRings FF μ = some μ' ∧ (∀ c, c ≠ 61 → c ≠ 67 → μ' c = μ c) ∧ (∀ j, j ≠ 11 → μ' 61 j = μ 61 j) ∧ μ' 61 11 = nI (Kn π P) ∧ μ' 67 = f ∧ Nmd P π (Kn π) P f := by
  have loop : ∀ (d n i : Nat) (ν : Mem) (f : Nat → Int32), i + d = P → d < n → (∀ c, c ≠ 61 → c ≠ 67 → ν c = μ c) → (∀ j, j ≠ 11 → ν 61 j = μ 61 j) → ν 61 11 = nI (Kn π i) → ν 67 = f → Nmd P π (Kn π) i f → ∃ μ' f, fX5_nameRings_15 FF n (nI i) ν = some μ' ∧ (∀ c, c ≠ 61 → c ≠ 67 → μ' c = μ c) ∧ (∀ j, j ≠ 11 → μ' 61 j = μ 61 j) ∧ μ' 61 11 = nI (Kn π P) ∧ μ' 67 = f ∧ Nmd P π (Kn π) P f := by
    intro d
    induction d with
    | zero =>
      intro n i ν f hi hn h1 h2 h3 h4 h5
      obtain ⟨n, rfl⟩ : ∃ n', n = n' + 1 := ⟨n - 1, by omega⟩
      obtain rfl : i = P := by omega
      refine ⟨ν, f, ?_, h1, h2, h3, h4, h5⟩
      show fX5_nameRings_15_b FF _ _ ν = _
      unfold fX5_nameRings_15_b
      rw [h2 9 (by decide), h.2.1, if_pos (nI_le (by omega) (by omega))]
    | succ d ih =>
      intro n i ν f hi hn h1 h2 h3 h4 h5
      obtain ⟨n, rfl⟩ : ∃ n', n = n' + 1 := ⟨n - 1, by omega⟩
      have k1 := Kn_le (π := π) i
      have ev : ν = upM ν 67 f := by rw [← h4, upM_id]
      have q9 : ν 61 9 = nI P := by rw [h2 9 (by decide)]; exact h.2.1
      have hnf : ∀ s, s < P → Kn π s ≤ 41 := fun s hs => by have := Kn_le (π := π) s; omega
      have wk := c_walk (nm := Kn π i) (π := π) (μ := ν) hP q9 hp.1 (fun x hx => by rw [h1 66 (by omega) (by omega)]; exact h66 x hx) P FF i 0 f (by omega) (by rw [FF_e]; omega) (by omega)
      rw [← ev] at wk
      rcases h5.st hp (by omega) hnf with ⟨e1, e2, e3, e4⟩ | ⟨e1, e2, e4⟩
      · rw [walk_orbit hp (by omega) (Nat.le_refl _) (m1_ne (by omega)) e3] at wk
        obtain ⟨ν', hν'⟩ : ∃ ν', ν' = upM (upM ν 67 (cvr (Rch π i) (nI (Kn π i)) f)) 61 (upd (ν 61) 11 (nI (Kn π (i + 1)))) := ⟨_, rfl⟩
        have step : fX5_nameRings_15 FF (n + 1) (nI i) ν = fX5_nameRings_15 FF n (nI (i + 1)) ν' := by
          show fX5_nameRings_15_b FF _ _ ν = _
          unfold fX5_nameRings_15_b fX5_nameRing
          rw [q9, if_neg (nI_ge (by omega) (by omega)), rd_n (by show i < 41; omega), h4, if_pos e1, h3, show (0 : Int32) = nI 0 from rfl, wk, cav_n, st_n, upM_ne (by omega), h3, nI_add1, nI_add1, ← Kn_s e2, ← hν']
        rw [step]
        refine ih n (i + 1) ν' _ (by omega) (by omega) (fun c q1 q2 => by rw [hν', upM_ne q1, upM_ne q2]; exact h1 c q1 q2) (fun j hj => by rw [hν', upM_self, upd_ne hj]; exact h2 j hj) (by rw [hν', upM_self, upd_s]) (by rw [hν', upM_ne (by omega), upM_self]) e4
      · have step : fX5_nameRings_15 FF (n + 1) (nI i) ν = fX5_nameRings_15 FF n (nI (i + 1)) ν := by
          show fX5_nameRings_15_b FF _ _ ν = _
          unfold fX5_nameRings_15_b
          rw [q9, if_neg (nI_ge (by omega) (by omega)), rd_n (by show i < 41; omega), h4, if_neg e1, nI_add1]
        rw [step]
        exact ih n (i + 1) ν f (by omega) (by omega) h1 h2 (by rw [h3, Kn_n e2]) h4 e4
  obtain ⟨ν, hν⟩ : ∃ ν, ν = upM (upM μ 67 (fun j => if j < ln 67 then -1 else μ 67 j)) 61 (upd (μ 61) 11 0) := ⟨_, rfl⟩
  obtain ⟨μ', f, z⟩ := loop P FF 0 ν (fun j => if j < ln 67 then -1 else μ 67 j) (by omega) (by rw [FF_e]; omega) (fun c q1 q2 => by rw [hν, upM_ne q1, upM_ne q2]) (fun j hj => by rw [hν, upM_self, upd_ne hj]) (by rw [hν, upM_self, upd_s]; rfl) (by rw [hν, upM_ne (by omega), upM_self]) (fun a ha => Or.inl ⟨if_pos (show a < 41 by omega), fun s hs => by omega⟩)
  refine ⟨μ', f, ?_, z.2⟩
  unfold fX5_nameRings
  rw [fill_n, cav_n, st_n, upM_ne (by omega), ← hν]
  exact z.1
end
section
/-! the class's rings: weights, joins, exchanges -/
def wgt (p q u v : Nat → Nat) (G : Nat → Nat → Int32) (k : Nat) : Int32 :=
  if max (p (u k)) (q (v k)) < min (p (u (k + 1))) (q (v (k + 1))) then G (max (p (u k)) (q (v k))) (min (p (u (k + 1))) (q (v (k + 1)))) + G (min (p (u (k + 1))) (q (v (k + 1)))) (max (p (u k)) (q (v k))) else 0
/-- rows u and v of the class -/
def UV (P : Nat) (u v : Nat → Nat) (μ : Mem) : Prop := ∀ i, i < P → (u i < P ∧ μ 64 i = nI (u i)) ∧ v i < P ∧ μ 65 i = nI (v i)
theorem UV.ch {P : Nat} {u v : Nat → Nat} {μ μ' : Mem} (h : UV P u v μ) (e4 : μ' 64 = μ 64) (e5 : μ' 65 = μ 65) : UV P u v μ' := fun i hi => by
  rw [e4, e5]; exact h i hi
theorem c_weight {k T P i : Nat} {p q u v : Nat → Nat} {G : Nat → Nat → Int32} {μ0 μ : Mem} (hP : P ≤ 41) (hT4 : T ≤ 100000) (hT : ∀ i, i < P → p i ≤ T ∧ q i ≤ T) (hG : GO k T G μ0) (h : RC μ0 P p q μ) (huv : UV P u v μ) (hi : i + 1 < P) : fX5_weightOf FF (nI i) k μ = some (wgt p q u v G i, μ) := by
  obtain ⟨⟨a1, a2⟩, a3, a4⟩ := huv i (by omega)
  obtain ⟨⟨b1, b2⟩, b3, b4⟩ := huv (i + 1) hi
  have t1 := (hT _ a1).1
  have t2 := (hT _ a3).2
  have t3 := (hT _ b1).1
  have t4 := (hT _ b3).2
  unfold fX5_weightOf
  rw [rd_n (by show i < 41; omega), a2, rd_n (by show u i < 41; omega), (h.2.2 _ a1).1, rd_n (by show i < 41; omega), a4, rd_n (by show v i < 41; omega), (h.2.2 _ a3).2, nI_add1, rd_n (by show i + 1 < 41; omega), b2, rd_n (by show u (i + 1) < 41; omega), (h.2.2 _ b1).1, rd_n (by show i + 1 < 41; omega), b4, rd_n (by show v (i + 1) < 41; omega), (h.2.2 _ b3).2, imax_n (by omega) (by omega), imin_n (by omega) (by omega), ifle (by omega) (by omega)]
  unfold wgt
  by_cases c : min (p (u (i + 1))) (q (v (i + 1))) ≤ max (p (u i)) (q (v i))
  · rw [if_pos c, if_neg (by omega)]
  · rw [if_neg c, if_pos (by omega), hG μ h.1 _ _ (by omega) (by omega), cal_n, hG μ h.1 _ _ (by omega) (by omega), cal_n]
theorem c_rename {P l1 l2 : Nat} {h : Nat → Nat} {μ : Mem} (hP : P ≤ 41) (h9 : μ 61 9 = nI P) (h1 : l1 < 42) (h2 : l2 < 42) (hl : ∀ x, x < P → h x < 42 ∧ μ 67 x = nI (h x)) : ∃ μ', fX5_rename FF (nI l2) (nI l1) μ = some μ' ∧ (∀ c, c ≠ 67 → μ' c = μ c) ∧ ∀ x, x < P → μ' 67 x = nI (if h x = l2 then l1 else h x) := by
  have loop : ∀ (d n i : Nat) (ν : Mem), i + d = P → d < n → (∀ c, c ≠ 67 → ν c = μ c) → (∀ x, x < i → ν 67 x = nI (if h x = l2 then l1 else h x)) → (∀ x, i ≤ x → ν 67 x = μ 67 x) → ∃ μ', fX5_rename_2 FF n (nI l2) (nI l1) (nI i) ν = some μ' ∧ (∀ c, c ≠ 67 → μ' c = μ c) ∧ ∀ x, x < P → μ' 67 x = nI (if h x = l2 then l1 else h x) := by
    intro d
    induction d with
    | zero =>
      intro n i ν hi hn q1 q2 q3
      obtain ⟨n, rfl⟩ : ∃ n', n = n' + 1 := ⟨n - 1, by omega⟩
      obtain rfl : i = P := by omega
      refine ⟨ν, ?_, q1, q2⟩
      show fX5_rename_2_b FF _ _ _ _ ν = _
      unfold fX5_rename_2_b
      rw [q1 61 (by omega), h9, if_pos (nI_le (by omega) (by omega))]
    | succ d ih =>
      intro n i ν hi hn q1 q2 q3
      obtain ⟨n, rfl⟩ : ∃ n', n = n' + 1 := ⟨n - 1, by omega⟩
      obtain ⟨li, ei⟩ := hl i (by omega)
      obtain ⟨m2, f2, a2, b2, g2⟩ := wr_x (μ := ν) (k := 67) (i := i) (nI l1) (by show i < 41; omega)
      by_cases c : h i = l2
      · obtain ⟨μ', w1, w2⟩ := ih n (i + 1) m2 (by omega) (by omega) (fun c' hc => by rw [g2 c' hc]; exact q1 c' hc) (fun x hx => by
          by_cases e : x = i
          · rw [e, a2, if_pos c]
          · rw [b2 x e]; exact q2 x (by omega)) (fun x hx => by rw [b2 x (by omega)]; exact q3 x (by omega))
        refine ⟨μ', ?_, w2⟩
        show fX5_rename_2_b FF _ _ _ _ ν = _
        unfold fX5_rename_2_b
        rw [q1 61 (by omega), h9, if_neg (nI_ge (by omega) (by omega)), rd_n (by show i < 41; omega), q3 i (by omega), ei, ifeq (by omega) (by omega), if_pos c, f2, nI_add1]
        exact w1
      · obtain ⟨μ', w1, w2⟩ := ih n (i + 1) ν (by omega) (by omega) q1 (fun x hx => by
          by_cases e : x = i
          · rw [e, q3 i (by omega), ei, if_neg c]
          · exact q2 x (by omega)) (fun x hx => q3 x (by omega))
        refine ⟨μ', ?_, w2⟩
        show fX5_rename_2_b FF _ _ _ _ ν = _
        unfold fX5_rename_2_b
        rw [q1 61 (by omega), h9, if_neg (nI_ge (by omega) (by omega)), rd_n (by show i < 41; omega), q3 i (by omega), ei, ifeq (by omega) (by omega), if_neg c, nI_add1]
        exact w1
  exact loop P FF 0 μ (by omega) (by rw [FF_e]; omega) (fun _ _ => rfl) (fun x hx => by omega) (fun _ _ => rfl)
theorem c_take {P M : Nat} {p q u v b f0 : Nat → Nat} {w : Nat → Int32} {μ0 μ : Mem} (hM : M + 1 = P) (hP : P ≤ 41) (h : RC μ0 P p q μ) (huv : UV P u v μ) (hu : ∀ i, i < P → u i < P) (hb : ∀ t, t < M → b t < M) (hbi : ∀ s t, s < t → t < M → b s ≠ b t) (hbs : ∀ k, k < M → ∃ t, t < M ∧ b t = k) (h69 : ∀ t, t < M → μ 69 t = nI (b t)) (h68 : ∀ k, k < M → μ 68 k = w k) (hf : ∀ x, x < P → f0 x < 42 ∧ μ 67 x = nI (f0 x)) :
    ∃ μ', fX5_takeJoins FF μ = some μ' ∧ (∀ c, c ≠ 61 → c ≠ 67 → c ≠ 70 → μ' c = μ c) ∧ (∀ j, j ≠ 13 → j ≠ 14 → μ' 61 j = μ 61 j) ∧ μ' 61 13 = nI (kr u w b f0 M).2.2.1 ∧ μ' 61 14 = (kr u w b f0 M).2.2.2 ∧ ∀ k, k < M → μ' 70 k = nI ((kr u w b f0 M).2.1 k) := by
  have inv := kr_inv (w := w) hM hu hb hbi (fun x hx => (hf x hx).1)
  have loop : ∀ (d n t : Nat) (ν : Mem), t + d = M → d < n → (∀ c, c ≠ 61 → c ≠ 67 → c ≠ 70 → ν c = μ c) → (∀ j, j ≠ 13 → j ≠ 14 → ν 61 j = μ 61 j) → ν 61 13 = nI (kr u w b f0 t).2.2.1 → ν 61 14 = (kr u w b f0 t).2.2.2 → (∀ x, x < P → ν 67 x = nI ((kr u w b f0 t).1 x)) → (∀ s, s < t → ν 70 (b s) = nI ((kr u w b f0 t).2.1 (b s))) →
      ∃ μ', fX5_takeJoins_12 FF n (nI t) ν = some μ' ∧ (∀ c, c ≠ 61 → c ≠ 67 → c ≠ 70 → μ' c = μ c) ∧ (∀ j, j ≠ 13 → j ≠ 14 → μ' 61 j = μ 61 j) ∧ μ' 61 13 = nI (kr u w b f0 M).2.2.1 ∧ μ' 61 14 = (kr u w b f0 M).2.2.2 ∧ ∀ k, k < M → μ' 70 k = nI ((kr u w b f0 M).2.1 k) := by
    intro d
    induction d with
    | zero =>
      intro n t ν ht hn q1 q2 q3 q4 q5 q6
      obtain ⟨n, rfl⟩ : ∃ n', n = n' + 1 := ⟨n - 1, by omega⟩
      obtain rfl : t = M := by omega
      refine ⟨ν, ?_, q1, q2, q3, q4, fun k hk => ?_⟩
      · show fX5_takeJoins_12_b FF _ _ ν = _
        unfold fX5_takeJoins_12_b
        rw [q2 9 (by decide) (by decide), h.2.1, nI_add1, if_pos (nI_le (by omega) (by omega))]
      · obtain ⟨s, hs, e⟩ := hbs k hk
        rw [← e]
        exact q6 s hs
    | succ d ih =>
      intro n t ν ht hn q1 q2 q3 q4 q5 q6
      obtain ⟨n, rfl⟩ : ∃ n', n = n' + 1 := ⟨n - 1, by omega⟩
      obtain ⟨a1, a2, a3, a4, a5, a6, a7, a8⟩ := inv t (by omega)
      have bt := hb t (by omega)
      have bt40 : b t < 40 := by omega
      obtain ⟨⟨u1, u2⟩, -⟩ := huv (b t) (by omega)
      obtain ⟨⟨u3, u4⟩, -⟩ := huv (b t + 1) (by omega)
      have l1 := a1 _ u1
      have l2 := a1 _ u3
      have q9 : ν 61 9 = nI P := by rw [q2 9 (by decide) (by decide)]; exact h.2.1
      have q64 : ν 64 = μ 64 := q1 64 (by omega) (by omega) (by omega)
      have head : fX5_takeJoins_12 FF (n + 1) (nI t) ν = if (kr u w b f0 t).1 (u (b t)) = (kr u w b f0 t).1 (u (b t + 1)) then fX5_takeJoins_72 FF (fX5_takeJoins_12 FF n) (nI t) (nI (b t)) (nI ((kr u w b f0 t).1 (u (b t)))) (nI ((kr u w b f0 t).1 (u (b t + 1)))) 0 (nI (b t)) ν else fX5_takeJoins_72 FF (fX5_takeJoins_12 FF n) (nI t) (nI (b t)) (nI ((kr u w b f0 t).1 (u (b t)))) (nI ((kr u w b f0 t).1 (u (b t + 1)))) 1 (nI (b t)) ν := by
        show fX5_takeJoins_12_b FF _ _ ν = _
        unfold fX5_takeJoins_12_b
        rw [q9, nI_add1, if_neg (nI_ge (by omega) (by omega)), rd_n (by show t < 40; omega), q1 69 (by omega) (by omega) (by omega), h69 t (by omega), rd_n (by show b t < 41; omega), q64, u2, rd_n (by show u (b t) < 41; omega), q5 _ u1, nI_add1, rd_n (by show b t + 1 < 41; omega), q64, u4, rd_n (by show u (b t + 1) < 41; omega), q5 _ u3, ifeq (by omega) (by omega)]
      rw [head]
      by_cases c : (kr u w b f0 t).1 (u (b t)) = (kr u w b f0 t).1 (u (b t + 1))
      · have e := kr_n (w := w) c
        rw [if_pos c]
        have step : fX5_takeJoins_72 FF (fX5_takeJoins_12 FF n) (nI t) (nI (b t)) (nI ((kr u w b f0 t).1 (u (b t)))) (nI ((kr u w b f0 t).1 (u (b t + 1)))) 0 (nI (b t)) ν = fX5_takeJoins_12 FF n (nI (t + 1)) (upM ν 70 (upd (ν 70) (b t) 0)) := by
          unfold fX5_takeJoins_72
          rw [wz_n (Or.inl rfl) (by exact bt40), rd_n (by exact bt40), upM_self, upd_s, if_pos rfl, nI_add1]
        rw [step]
        refine ih n (t + 1) _ (by omega) (by omega) (fun c' w1 w2 w3 => by rw [upM_ne w3]; exact q1 c' w1 w2 w3) (fun j w1 w2 => by rw [upM_ne (by omega)]; exact q2 j w1 w2) (by rw [upM_ne (by omega), e]; exact q3) (by rw [upM_ne (by omega), e]; exact q4) (fun x hx => by rw [upM_ne (by omega), e]; exact q5 x hx) (fun s hs => ?_)
        rw [upM_self, e]
        by_cases es : s = t
        · rw [es, upd_s, a4 (b t) bt (fun s' hs' => hbi s' t hs' (by omega))]
          rfl
        · rw [upd_ne (hbi s t (by omega) (by omega))]
          exact q6 s (by omega)
      · have e := kr_y (w := w) c
        rw [if_neg c]
        obtain ⟨νa, hνa⟩ : ∃ νa, νa = upM (upM ν 70 (upd (ν 70) (b t) 1)) 61 (upd (upd (ν 61) 13 (nI ((kr u w b f0 t).2.2.1 + 1))) 14 ((kr u w b f0 t).2.2.2 + w (b t))) := ⟨_, rfl⟩
        have k67 : νa 67 = ν 67 := by rw [hνa, upM_ne (by omega), upM_ne (by omega)]
        obtain ⟨νr, r1, r2, r3⟩ := c_rename (P := P) (l1 := (kr u w b f0 t).1 (u (b t))) (l2 := (kr u w b f0 t).1 (u (b t + 1))) (h := (kr u w b f0 t).1) (μ := νa) hP (by rw [hνa, upM_self, upd_ne (by decide), upd_ne (by decide)]; exact q9) l1 l2 (fun x hx => ⟨a1 x hx, by rw [k67]; exact q5 x hx⟩)
        have step : fX5_takeJoins_72 FF (fX5_takeJoins_12 FF n) (nI t) (nI (b t)) (nI ((kr u w b f0 t).1 (u (b t)))) (nI ((kr u w b f0 t).1 (u (b t + 1)))) 1 (nI (b t)) ν = fX5_takeJoins_12 FF n (nI (t + 1)) νr := by
          have g1 : upM ν 70 (upd (ν 70) (b t) 1) 61 = ν 61 := upM_ne (by omega)
          have g2 : ∀ Y, upM (upM ν 70 (upd (ν 70) (b t) 1)) 61 Y 68 = μ 68 := fun Y => by rw [upM_ne (by omega), upM_ne (by omega), q1 68 (by omega) (by omega) (by omega)]
          unfold fX5_takeJoins_72
          rw [wz_n (Or.inr rfl) (by exact bt40), rd_n (by exact bt40), upM_self, upd_s, if_neg one_ne, st_n, g1, rd_n (by exact bt40), g2, h68 _ bt, st_n, upM_upM, upM_self, upd_ne (show (14 : Nat) ≠ 13 by decide), q3, q4, nI_add1, ← hνa, r1, cav_n, nI_add1]
        rw [step]
        have ka : ∀ c', c' ≠ 61 → c' ≠ 67 → c' ≠ 70 → νr c' = μ c' := fun c' w1 w2 w3 => by rw [r2 c' w2, hνa, upM_ne w1, upM_ne w3]; exact q1 c' w1 w2 w3
        have k61 : νr 61 = νa 61 := r2 61 (by omega)
        have k70 : νr 70 = upd (ν 70) (b t) 1 := by rw [r2 70 (by omega), hνa, upM_ne (by omega), upM_self]
        refine ih n (t + 1) νr (by omega) (by omega) ka (fun j w1 w2 => by rw [k61, hνa, upM_self, upd_ne w2, upd_ne w1]; exact q2 j w1 w2) ?_ ?_ (fun x hx => ?_) (fun s hs => ?_)
        · rw [k61, hνa, upM_self, upd_ne (by decide), upd_s, e]
        · rw [k61, hνa, upM_self, upd_s, e]
        · rw [r3 x hx, e]
          rfl
        · rw [k70, e]
          show _ = nI (if b s = b t then 1 else (kr u w b f0 t).2.1 (b s))
          by_cases es : s = t
          · rw [es, upd_s, if_pos rfl]
            rfl
          · have nb := hbi s t (by omega) (by omega)
            rw [upd_ne nb, if_neg nb]
            exact q6 s (by omega)
  obtain ⟨ν, hν⟩ : ∃ ν, ν = upM μ 61 (upd (upd (μ 61) 13 0) 14 0) := ⟨_, rfl⟩
  have l := loop M FF 0 ν (by omega) (by rw [FF_e]; omega) (fun c w1 _ _ => by rw [hν, upM_ne w1]) (fun j w1 w2 => by rw [hν, upM_self, upd_ne w2, upd_ne w1]) (by rw [hν, upM_self, upd_ne (by decide), upd_s]; rfl) (by rw [hν, upM_self, upd_s]; rfl) (fun x hx => by rw [hν, upM_ne (by omega)]; exact (hf x hx).2) (fun s hs => by omega)
  have e : fX5_takeJoins FF μ = fX5_takeJoins_12 FF FF (nI 0) ν := by
    unfold fX5_takeJoins
    rw [st_n, st_n, upM_upM, upM_self, ← hν]
    rfl
  rw [e]
  exact l
end
section
/-! the class's rings: what is exchanged, and all together -/
theorem swp_swN {f : Nat → Int32} {π : Nat → Nat} {P a b : Nat} (ha : a < P) (hb : b < P) (h : ∀ x, x < P → f x = nI (π x)) : ∀ x, x < P → swp f a b x = nI (swN π a b x) := fun x hx => by
  rw [swp_e]
  unfold swN
  by_cases c1 : x = b
  · rw [if_pos c1, h a ha]
    by_cases c2 : x = a
    · rw [if_pos c2, ← c1, c2]
    · rw [if_neg c2, if_pos c1]
  · rw [if_neg c1]
    by_cases c2 : x = a
    · rw [if_pos c2, if_pos c2, h b hb]
    · rw [if_neg c2, if_neg c2, if_neg c1, h x hx]
def eaF (p q u v : Nat → Nat) (k : Nat) : Bool := decide (q (v k) < p (u k))
theorem c_above {T P k : Nat} {p q u v : Nat → Nat} {μ0 μ : Mem} (hP : P ≤ 41) (hT4 : T ≤ 100000) (hT : ∀ i, i < P → p i ≤ T ∧ q i ≤ T) (h : RC μ0 P p q μ) (huv : UV P u v μ) (hk : k < P) : fX5_endsAbove FF (nI k) μ = some (if eaF p q u v k = true then 1 else 0, μ) := by
  obtain ⟨⟨a1, a2⟩, a3, a4⟩ := huv k hk
  have t1 := (hT _ a1).1
  have t2 := (hT _ a3).2
  unfold fX5_endsAbove
  rw [rd_n (by show k < 41; omega), a2, rd_n (by show u k < 41; omega), (h.2.2 _ a1).1, rd_n (by show k < 41; omega), a4, rd_n (by show v k < 41; omega), (h.2.2 _ a3).2, ifle (by omega) (by omega)]
  unfold eaF
  by_cases c : p (u k) ≤ q (v k)
  · rw [if_pos c, if_neg (by rw [decide_eq_true_iff]; omega), zr_0]
  · rw [if_neg c, if_pos (by rw [decide_eq_true_iff]; omega), zr_1]
theorem c_exU {T P M : Nat} {p q u v tk : Nat → Nat} {μ0 μ : Mem} (hM : M + 1 = P) (hP : P ≤ 41) (hT4 : T ≤ 100000) (hT : ∀ i, i < P → p i ≤ T ∧ q i ≤ T) (h : RC μ0 P p q μ) (huv : UV P u v μ) (ht : ∀ k, k < M → tk k ≤ 1 ∧ μ 70 k = nI (tk k)) : ∀ (d n i : Nat) (ν : Mem) (π : Nat → Nat), i + d = M → d < n → (∀ c, c ≠ 66 → ν c = μ c) → (∀ x, x < P → ν 66 x = nI (π x)) → ∃ μ', fX5_exchangeTaken_57 FF n (nI i) ν = some μ' ∧ (∀ c, c ≠ 66 → μ' c = μ c) ∧ ∀ x, x < P → μ' 66 x = nI (exL u (Lup (sU tk (eaF p q u v)) d i) π x) := by
  intro d
  induction d with
  | zero =>
    intro n i ν π hi hn q1 q2
    obtain ⟨n, rfl⟩ : ∃ n', n = n' + 1 := ⟨n - 1, by omega⟩
    refine ⟨ν, ?_, q1, q2⟩
    show fX5_exchangeTaken_57_b FF _ _ ν = _
    unfold fX5_exchangeTaken_57_b
    rw [q1 61 (by omega), h.2.1, nI_add1, if_pos (nI_le (by omega) (by omega))]
  | succ d ih =>
    intro n i ν π hi hn q1 q2
    obtain ⟨n, rfl⟩ : ∃ n', n = n' + 1 := ⟨n - 1, by omega⟩
    obtain ⟨t1, t2⟩ := ht i (by omega)
    have hR : RC μ0 P p q ν := h.ch (fun c c1 c2 => q1 c (by omega)) (by rw [q1 61 (by omega)])
    have hU : UV P u v ν := huv.ch (q1 64 (by omega)) (q1 65 (by omega))
    obtain ⟨⟨u1, u2⟩, -⟩ := hU i (by omega)
    obtain ⟨⟨u3, u4⟩, -⟩ := hU (i + 1) (by omega)
    have el : Lup (sU tk (eaF p q u v)) (d + 1) i = if sU tk (eaF p q u v) i = true then i :: Lup (sU tk (eaF p q u v)) d (i + 1) else Lup (sU tk (eaF p q u v)) d (i + 1) := rfl
    have head : fX5_exchangeTaken_57 FF (n + 1) (nI i) ν = if sU tk (eaF p q u v) i = true then fX5_exchangeTaken_57 FF n (nI (i + 1)) (upM ν 66 (swp (ν 66) (u i) (u (i + 1)))) else fX5_exchangeTaken_57 FF n (nI (i + 1)) ν := by
      show fX5_exchangeTaken_57_b FF _ _ ν = _
      unfold fX5_exchangeTaken_57_b
      rw [hR.2.1, nI_add1, if_neg (nI_ge (by omega) (by omega)), rd_n (by show i < 40; omega), q1 70 (by omega), t2, show (0 : Int32) = nI 0 from rfl, ifeq (by omega) (by omega)]
      unfold sU
      by_cases c : tk i = 0
      · rw [if_pos c, if_neg]
        rw [Bool.and_eq_true, decide_eq_true_iff]
        omega
      · rw [if_neg c, c_above hP hT4 hT hR hU (by omega), cal_n]
        by_cases e : eaF p q u v i = true
        · rw [if_pos e, if_neg (show ¬ (1 : Int32) = nI 0 by decide), if_pos (by rw [Bool.and_eq_true, decide_eq_true_iff]; exact ⟨by omega, e⟩), rd_n (by show i < 41; omega), u2, rd_n (by show i + 1 < 41; omega), u4, c_exch (by show u i < 41; omega) (by show u (i + 1) < 41; omega), cav_n]
        · rw [if_neg e, if_pos (show (0 : Int32) = nI 0 from rfl), if_neg]
          rw [Bool.and_eq_true]
          exact fun w => e w.2
    rw [head, el]
    by_cases c : sU tk (eaF p q u v) i = true
    · rw [if_pos c, if_pos c]
      exact ih n (i + 1) _ (swN π (u i) (u (i + 1))) (by omega) (by omega) (fun c' hc => by rw [upM_ne hc]; exact q1 c' hc) (fun x hx => by rw [upM_self]; exact swp_swN u1 u3 q2 x hx)
    · rw [if_neg c, if_neg c]
      exact ih n (i + 1) ν π (by omega) (by omega) q1 q2
theorem c_exD {T P M : Nat} {p q u v tk : Nat → Nat} {μ0 μ : Mem} (hM : M + 1 = P) (hP : P ≤ 41) (hT4 : T ≤ 100000) (hT : ∀ i, i < P → p i ≤ T ∧ q i ≤ T) (h : RC μ0 P p q μ) (huv : UV P u v μ) (ht : ∀ k, k < M → tk k ≤ 1 ∧ μ 70 k = nI (tk k)) : ∀ (i n : Nat) (ν : Mem) (π : Nat → Nat), i ≤ M → i < n → (∀ c, c ≠ 66 → ν c = μ c) → (∀ x, x < P → ν 66 x = nI (π x)) → ∃ μ', fX5_exchangeTaken_7 FF n (nI i + (-1)) ν = some μ' ∧ (∀ c, c ≠ 66 → μ' c = μ c) ∧ ∀ x, x < P → μ' 66 x = nI (exL u (Ldn (sD tk (eaF p q u v)) i ++ Lup (sU tk (eaF p q u v)) M 0) π x) := by
  intro i
  induction i with
  | zero =>
    intro n ν π hi hn q1 q2
    obtain ⟨n, rfl⟩ : ∃ n', n = n' + 1 := ⟨n - 1, by omega⟩
    obtain ⟨μ', w1, w2, w3⟩ := c_exU hM hP hT4 hT h huv ht M FF 0 ν π (by omega) (by rw [FF_e]; omega) q1 q2
    refine ⟨μ', ?_, w2, w3⟩
    show fX5_exchangeTaken_7_b FF _ _ ν = _
    unfold fX5_exchangeTaken_7_b
    rw [if_pos idx_neg]
    exact w1
  | succ i ih =>
    intro n ν π hi hn q1 q2
    obtain ⟨n, rfl⟩ : ∃ n', n = n' + 1 := ⟨n - 1, by omega⟩
    obtain ⟨t1, t2⟩ := ht i (by omega)
    have hR : RC μ0 P p q ν := h.ch (fun c c1 c2 => q1 c (by omega)) (by rw [q1 61 (by omega)])
    have hU : UV P u v ν := huv.ch (q1 64 (by omega)) (q1 65 (by omega))
    obtain ⟨⟨u1, u2⟩, -⟩ := hU i (by omega)
    obtain ⟨⟨u3, u4⟩, -⟩ := hU (i + 1) (by omega)
    have el : Ldn (sD tk (eaF p q u v)) (i + 1) = if sD tk (eaF p q u v) i = true then i :: Ldn (sD tk (eaF p q u v)) i else Ldn (sD tk (eaF p q u v)) i := rfl
    have head : fX5_exchangeTaken_7 FF (n + 1) (nI (i + 1) + (-1)) ν = if sD tk (eaF p q u v) i = true then fX5_exchangeTaken_7 FF n (nI i + (-1)) (upM ν 66 (swp (ν 66) (u i) (u (i + 1)))) else fX5_exchangeTaken_7 FF n (nI i + (-1)) ν := by
      show fX5_exchangeTaken_7_b FF _ _ ν = _
      unfold fX5_exchangeTaken_7_b
      rw [nI_addm1, if_neg (nI_pos (by omega)), rd_n (by show i < 40; omega), q1 70 (by omega), t2, show (0 : Int32) = nI 0 from rfl, ifeq (by omega) (by omega)]
      unfold sD
      by_cases c : tk i = 0
      · rw [if_pos c, if_neg]
        rw [Bool.and_eq_true, decide_eq_true_iff]
        omega
      · rw [if_neg c, c_above hP hT4 hT hR hU (by omega), cal_n]
        by_cases e : eaF p q u v i = true
        · rw [if_pos e, if_neg (show ¬ (1 : Int32) = nI 0 by decide), if_neg]
          rw [Bool.and_eq_true, e]
          exact fun w => by cases w.2
        · rw [if_neg e, if_pos (show (0 : Int32) = nI 0 from rfl), if_pos (by
            rw [Bool.and_eq_true, decide_eq_true_iff]
            refine ⟨by omega, ?_⟩
            cases hE : eaF p q u v i with
            | false => rfl
            | true => exact absurd hE e), rd_n (by show i < 41; omega), u2, nI_add1, rd_n (by show i + 1 < 41; omega), u4, c_exch (by show u i < 41; omega) (by show u (i + 1) < 41; omega), cav_n]
    rw [head, el]
    by_cases c : sD tk (eaF p q u v) i = true
    · rw [if_pos c, if_pos c]
      exact ih n _ (swN π (u i) (u (i + 1))) (by omega) (by omega) (fun c' hc => by rw [upM_ne hc]; exact q1 c' hc) (fun x hx => by rw [upM_self]; exact swp_swN u1 u3 q2 x hx)
    · rw [if_neg c, if_neg c]
      exact ih n ν π (by omega) (by omega) q1 q2
/-- the rings' rows and numbers, of what lies in q and p -/
def rU (P : Nat) (p : Nat → Nat) : Nat → Nat := so (fun i => nI (p i)) P
def rB (P : Nat) (p q : Nat → Nat) : Nat → Nat := bhN (rU P p) (rU P q) P
def rW (P : Nat) (p q : Nat → Nat) (G : Nat → Nat → Int32) : Nat → Int32 := wgt p q (rU P p) (rU P q) G
def rJ (P M : Nat) (p q : Nat → Nat) (G : Nat → Nat → Int32) : Nat → Nat := so (rW P p q G) M
def rK (P M : Nat) (p q : Nat → Nat) (G : Nat → Nat → Int32) (f0 : Nat → Nat) : (Nat → Nat) × (Nat → Nat) × Nat × Int32 := kr (rU P p) (rW P p q G) (rJ P M p q G) f0 M
def rF (P M : Nat) (p q : Nat → Nat) (G : Nat → Nat → Int32) (f0 : Nat → Nat) : Nat → Nat := exL (rU P p) (jL (rK P M p q G f0).2.1 (eaF p q (rU P p) (rU P q)) M) (rB P p q)
def lbO (P : Nat) (p q : Nat → Nat) (f0 : Nat → Nat) : Prop := (∀ x, x < P → f0 x < 42) ∧ ∀ x, x < P → f0 (rB P p q x) = f0 x ∧ ∀ y, y < P → (f0 x = f0 y ↔ Rch (rB P p q) x y)
theorem c_joinAll {k T P M : Nat} {p q : Nat → Nat} {G : Nat → Nat → Int32} {μ0 μ : Mem} (hM : M + 1 = P) (hP : P ≤ 41) (hT4 : T ≤ 100000) (hT : ∀ i, i < P → p i ≤ T ∧ q i ≤ T) (hG : GO k T G μ0) (h : RC μ0 P p q μ) : ∃ μ' f0, fX5_joinAll FF k μ = some (cst P p q G (rF P M p q G f0), μ') ∧ lbO P p q f0 ∧ RC μ0 P p q μ' ∧ μ' 61 10 = 1 ∧ μ' 61 11 = nI (Kn (rB P p q) P) ∧ μ' 61 12 = cst P p q G (rB P p q) ∧ μ' 61 13 = nI (rK P M p q G f0).2.2.1 ∧ μ' 61 14 = (rK P M p q G f0).2.2.2 ∧ ∀ x, x < P → μ' 66 x = nI (rF P M p q G f0 x) := by
  obtain ⟨p1, p2, p3⟩ := so_perm (w := fun i => nI (p i)) (N := P) (by omega)
  obtain ⟨v1, v2, v3⟩ := so_perm (w := fun i => nI (q i)) (N := P) (by omega)
  -- sorted
  obtain ⟨μa, hμa⟩ : ∃ μa, μa = upM (upM μ 64 (srI (gtK (μ 63)) (μ 64) P)) 65 (srI (gtK (μ 62)) (μ 65) P) := ⟨_, rfl⟩
  have ka : ∀ c, c ≠ 64 → c ≠ 65 → μa c = μ c := fun c c1 c2 => by rw [hμa, upM_ne c2, upM_ne c1]
  have ra : RC μ0 P p q μa := h.ch (fun c c1 c2 => ka c (by omega) (by omega)) (by rw [ka 61 (by omega) (by omega)])
  have ua : UV P (rU P p) (rU P q) μa := fun i hi => by
    refine ⟨⟨p1 i hi, ?_⟩, v1 i hi, ?_⟩
    · rw [hμa, upM_ne (by omega), upM_self]
      exact so_eq (by omega) (fun s hs => (h.2.2 s hs).1) i hi
    · rw [hμa, upM_self]
      exact so_eq (by omega) (fun s hs => (h.2.2 s hs).2) i hi
  have e1 : fX5_joinAll FF k μ = fX5_joinAll_32 FF k FF (nI 0) μa := by
    unfold fX5_joinAll
    have z1 : upM μ 64 (srI (gtK (μ 63)) (μ 64) P) 62 = μ 62 := upM_ne (by omega)
    have z2 : upM μ 64 (srI (gtK (μ 63)) (μ 64) P) 65 = μ 65 := upM_ne (by omega)
    have z3 : upM μ 64 (srI (gtK (μ 63)) (μ 64) P) 61 = μ 61 := upM_ne (by omega)
    rw [h.2.1, c_rank (by omega) (by show P ≤ 41; omega) (by show P ≤ 41; omega), cav_n, z3, h.2.1, c_rank (by omega) (by show P ≤ 41; omega) (by show P ≤ 41; omega), cav_n, z1, z2, ← hμa]
    rfl
  -- what comes behind
  have bloop : ∀ (d n i : Nat) (ν : Mem), i + d = P → d < n → (∀ c, c ≠ 66 → ν c = μa c) → (∀ j, j < i → ν 66 (rU P p j) = nI (rU P q j)) → ∃ μ', fX5_joinAll_32 FF k n (nI i) ν = st μ' 61 10 1 (fun m3 => cal (fX5_costOfAll FF k m3) (fun r5 m4 => st m4 61 12 r5 (fun m6 => cav (fX5_nameRings FF m6) (fun m7 => fX5_joinAll_83 FF k FF 0 m7)))) ∧ (∀ c, c ≠ 66 → μ' c = μa c) ∧ ∀ j, j < P → μ' 66 (rU P p j) = nI (rU P q j) := by
    intro d
    induction d with
    | zero =>
      intro n i ν hi hn q1 q2
      obtain ⟨n, rfl⟩ : ∃ n', n = n' + 1 := ⟨n - 1, by omega⟩
      obtain rfl : i = P := by omega
      refine ⟨ν, ?_, q1, q2⟩
      show fX5_joinAll_32_b FF _ _ _ ν = _
      unfold fX5_joinAll_32_b
      rw [q1 61 (by omega), ra.2.1, if_pos (nI_le (by omega) (by omega))]
    | succ d ih =>
      intro n i ν hi hn q1 q2
      obtain ⟨n, rfl⟩ : ∃ n', n = n' + 1 := ⟨n - 1, by omega⟩
      obtain ⟨⟨u1, u2⟩, u3, u4⟩ := ua i (by omega)
      obtain ⟨m2, f2, a2, b2, g2⟩ := wr_x (μ := ν) (k := 66) (i := rU P p i) (nI (rU P q i)) (by show rU P p i < 41; omega)
      have step : fX5_joinAll_32 FF k (n + 1) (nI i) ν = fX5_joinAll_32 FF k n (nI (i + 1)) m2 := by
        show fX5_joinAll_32_b FF _ _ _ ν = _
        unfold fX5_joinAll_32_b
        rw [q1 61 (by omega), ra.2.1, if_neg (nI_ge (by omega) (by omega)), rd_n (by show i < 41; omega), q1 64 (by omega), u2, rd_n (by show i < 41; omega), q1 65 (by omega), u4, f2, nI_add1]
      rw [step]
      refine ih n (i + 1) m2 (by omega) (by omega) (fun c hc => by rw [g2 c hc]; exact q1 c hc) (fun j hj => ?_)
      by_cases e : j = i
      · rw [e, a2]
      · rw [b2 (rU P p j) (fun w => e (p2 j i (by omega) (by omega) w))]
        exact q2 j (by omega)
  obtain ⟨μb, b1, b2, b3⟩ := bloop P FF 0 μa (by omega) (by rw [FF_e]; omega) (fun _ _ => rfl) (fun j hj => by omega)
  rw [e1, b1]
  have hpb : PB P (rB P p q) := bhN_pb (by omega)
  have h66 : ∀ x, x < P → μb 66 x = nI (rB P p q x) := fun x hx => by
    obtain ⟨j, hj, e⟩ := p3 x hx
    have e' : rU P p j = x := e
    have z : rB P p q x = rU P q j := by rw [← e']; exact bhN_u p2 P (Nat.le_refl _) j hj
    rw [z, ← e']
    exact b3 j hj
  -- cost of the pairing
  obtain ⟨μc, hμc⟩ : ∃ μc, μc = upM μb 61 (upd (upd (μb 61) 10 1) 12 (cst P p q G (rB P p q))) := ⟨_, rfl⟩
  obtain ⟨μb', hμb'⟩ : ∃ μb', μb' = upM μb 61 (upd (μb 61) 10 1) := ⟨_, rfl⟩
  have rb : RC μ0 P p q μb := ra.ch (fun c c1 c2 => b2 c (by omega)) (by rw [b2 61 (by omega)])
  have rb' : RC μ0 P p q μb' := rb.ch (fun c c1 c2 => by rw [hμb', upM_ne c1]) (by rw [hμb', upM_self, upd_ne (by decide)])
  have rc : RC μ0 P p q μc := rb.ch (fun c c1 c2 => by rw [hμc, upM_ne c1]) (by rw [hμc, upM_self, upd_ne (by decide), upd_ne (by decide)])
  have kc : ∀ c, c ≠ 61 → μc c = μb c := fun c c1 => by rw [hμc, upM_ne c1]
  have cc := c_costAll (μ := μb') hP hT hG rb' hpb.1 (fun x hx => by rw [hμb', upM_ne (by omega)]; exact h66 x hx)
  -- names
  obtain ⟨μn, f, n1, n2, n3, n4, n5, n6⟩ := c_names hP rc hpb (fun x hx => by rw [kc 66 (by omega)]; exact h66 x hx)
  have rn1 : RC μ0 P p q μn := rc.ch (fun c c1 c2 => n2 c c1 (by omega)) (n3 9 (by decide))
  have un : UV P (rU P p) (rU P q) μn := ua.ch (by rw [n2 64 (by omega) (by omega), kc 64 (by omega), b2 64 (by omega)]) (by rw [n2 65 (by omega) (by omega), kc 65 (by omega), b2 65 (by omega)])
  have fin := n6.fin hpb (fun s hs => by have := Kn_le (π := rB P p q) s; omega) (fun a b ha hb e => Kn_inj ha hb e)
  obtain ⟨f0, hf0⟩ : ∃ f0, f0 = fun x => tn (f x) := ⟨_, rfl⟩
  have f0e : ∀ x, f0 x = tn (f x) := fun x => by rw [hf0]
  have e2 : st μb 61 10 1 (fun m3 => cal (fX5_costOfAll FF k m3) (fun r5 m4 => st m4 61 12 r5 (fun m6 => cav (fX5_nameRings FF m6) (fun m7 => fX5_joinAll_83 FF k FF 0 m7)))) = fX5_joinAll_83 FF k FF (nI 0) μn := by
    rw [st_n, ← hμb', cc, cal_n, st_n, show upM μb' 61 (upd (μb' 61) 12 (cst P p q G (rB P p q))) = μc from by rw [hμb', hμc, upM_upM, upM_self], n1, cav_n]
    rfl
  rw [e2]
  -- weights
  have wloop : ∀ (d n i : Nat) (ν : Mem), i + d = M → d < n → (∀ c, c ≠ 68 → ν c = μn c) → (∀ j, j < i → ν 68 j = rW P p q G j) → ∃ μ', fX5_joinAll_83 FF k n (nI i) ν = cav (fX8_rank FF 68 ((μ' 61 9) - 1) 69 μ') (fun m11 => cav (fX5_takeJoins FF m11) (fun m12 => cav (fX5_exchangeTaken FF m12) (fun m13 => cal (fX5_costOfAll FF k m13) (fun r15 m14 => some (r15, m14))))) ∧ (∀ c, c ≠ 68 → μ' c = μn c) ∧ ∀ j, j < M → μ' 68 j = rW P p q G j := by
    intro d
    induction d with
    | zero =>
      intro n i ν hi hn q1 q2
      obtain ⟨n, rfl⟩ : ∃ n', n = n' + 1 := ⟨n - 1, by omega⟩
      obtain rfl : i = M := by omega
      refine ⟨ν, ?_, q1, q2⟩
      show fX5_joinAll_83_b FF _ _ _ ν = _
      unfold fX5_joinAll_83_b
      have z : ν 61 9 = nI P := by rw [q1 61 (by omega)]; exact rn1.2.1
      rw [if_pos (by rw [z, nI_add1]; exact nI_le (by omega) (by omega))]
    | succ d ih =>
      intro n i ν hi hn q1 q2
      obtain ⟨n, rfl⟩ : ∃ n', n = n' + 1 := ⟨n - 1, by omega⟩
      have rv : RC μ0 P p q ν := rn1.ch (fun c c1 c2 => q1 c (by omega)) (by rw [q1 61 (by omega)])
      have uv : UV P (rU P p) (rU P q) ν := un.ch (q1 64 (by omega)) (q1 65 (by omega))
      obtain ⟨m2, f2, a2, b2, g2⟩ := wr_x (μ := ν) (k := 68) (i := i) (rW P p q G i) (by show i < 40; omega)
      have step : fX5_joinAll_83 FF k (n + 1) (nI i) ν = fX5_joinAll_83 FF k n (nI (i + 1)) m2 := by
        show fX5_joinAll_83_b FF _ _ _ ν = _
        unfold fX5_joinAll_83_b
        rw [rv.2.1, nI_add1, if_neg (nI_ge (by omega) (by omega)), c_weight hP hT4 hT hG rv uv (by omega), cal_n]
        exact f2 _
      rw [step]
      refine ih n (i + 1) m2 (by omega) (by omega) (fun c hc => by rw [g2 c hc]; exact q1 c hc) (fun j hj => ?_)
      by_cases e : j = i
      · rw [e, a2]
      · rw [b2 j e]; exact q2 j (by omega)
  obtain ⟨μw, w1, w2, w3⟩ := wloop M FF 0 μn (by omega) (by rw [FF_e]; omega) (fun _ _ => rfl) (fun j hj => by omega)
  have rw1 : RC μ0 P p q μw := rn1.ch (fun c c1 c2 => w2 c (by omega)) (by rw [w2 61 (by omega)])
  -- by weight
  obtain ⟨μs, hμs⟩ : ∃ μs, μs = upM μw 69 (srI (gtK (μw 68)) (μw 69) M) := ⟨_, rfl⟩
  have ks : ∀ c, c ≠ 69 → μs c = μw c := fun c hc => by rw [hμs, upM_ne hc]
  have rs1 : RC μ0 P p q μs := rw1.ch (fun c c1 c2 => ks c (by omega)) (by rw [ks 61 (by omega)])
  have us1 : UV P (rU P p) (rU P q) μs := un.ch (by rw [ks 64 (by omega), w2 64 (by omega)]) (by rw [ks 65 (by omega), w2 65 (by omega)])
  obtain ⟨j1, j2, j3⟩ := so_perm (w := rW P p q G) (N := M) (by omega)
  obtain ⟨μt, t1, t2, t3, t4, t5, t6⟩ := c_take (b := rJ P M p q G) (f0 := f0) (w := rW P p q G) (μ := μs) hM hP rs1 us1 p1 j1 (fun s t h1 h2 e => by
    have := j2 s t (by omega) h2 e
    omega) j3 (fun t ht => by
    rw [hμs, upM_self]
    exact so_eq (by omega) w3 t ht) (fun k hk => by rw [ks 68 (by omega)]; exact w3 k hk) (fun x hx => by
    rw [f0e]
    refine ⟨(fin x hx).1.2, ?_⟩
    rw [ks 67 (by omega), w2 67 (by omega), n5]
    exact (fin x hx).1.1)
  have rt1 : RC μ0 P p q μt := rs1.ch (fun c c1 c2 => t2 c c1 (by omega) (by omega)) (t3 9 (by decide) (by decide))
  have ut1 : UV P (rU P p) (rU P q) μt := us1.ch (t2 64 (by omega) (by omega) (by omega)) (t2 65 (by omega) (by omega) (by omega))
  have inv := kr_inv (w := rW P p q G) (L := 42) (f0 := f0) hM p1 j1 (fun s t h1 h2 e => by
    have := j2 s t (by omega) h2 e
    omega) (fun x hx => by rw [f0e]; exact (fin x hx).1.2) M (Nat.le_refl _)
  have k66 : ∀ x, x < P → μt 66 x = nI (rB P p q x) := fun x hx => by
    rw [t2 66 (by omega) (by omega) (by omega), ks 66 (by omega), w2 66 (by omega), n2 66 (by omega) (by omega), kc 66 (by omega)]
    exact h66 x hx
  obtain ⟨μx, x1, x2, x3⟩ := c_exD (tk := (rK P M p q G f0).2.1) hM hP hT4 hT rt1 ut1 (fun k hk => ⟨inv.2.2.2.2.1 k, t6 k hk⟩) M FF μt (rB P p q) (Nat.le_refl _) (by rw [FF_e]; omega) (fun _ _ => rfl) k66
  have rx1 : RC μ0 P p q μx := rt1.ch (fun c c1 c2 => x2 c (by omega)) (by rw [x2 61 (by omega)])
  have fpb : PB P (rF P M p q G f0) := by
    have f0l : ∀ x, x < P → f0 x < 42 := fun x hx => by rw [f0e]; exact (fin x hx).1.2
    exact (one_ring (L := 42) (w := rW P p q G) (f0 := f0) (ea := eaF p q (rU P p) (rU P q)) hM p1 p3 j1 (fun s t h1 h2 e => by
      have := j2 s t (by omega) h2 e
      omega) j3 f0l hpb (fun x hx => by rw [f0e, f0e]; exact (fin x hx).2.1) (fun x y hx hy e => ((fin x hx).2.2 y hy).2.mp (by rw [← f0e, ← f0e]; exact e))).1
  have cx := c_costAll (μ := μx) hP hT hG rx1 fpb.1 x3
  refine ⟨μx, f0, ?_, ⟨fun x hx => by rw [f0e]; exact (fin x hx).1.2, fun x hx => ⟨by rw [f0e, f0e]; exact (fin x hx).2.1, fun y hy => by rw [f0e, f0e]; exact ((fin x hx).2.2 y hy).2⟩⟩, rx1, ?_, ?_, ?_, ?_, ?_, x3⟩
  · rw [w1, rw1.2.1, show nI P - 1 = nI M from by rw [show (1 : Int32) = nI 1 from rfl, nI_sub (by omega), show P - 1 = M by omega], c_rank (by omega) (by show M ≤ 40; omega) (by show M ≤ 40; omega), cav_n, ← hμs, t1, cav_n]
    have e3 : fX5_exchangeTaken FF μt = some μx := by
      unfold fX5_exchangeTaken
      rw [rt1.2.1, ← hM, nI_m2]
      exact x1
    rw [e3, cav_n, cx, cal_n]
  · rw [x2 61 (by omega), t3 10 (by decide) (by decide), ks 61 (by omega), w2 61 (by omega), n3 10 (by decide), hμc, upM_self, upd_ne (by decide), upd_s]
  · rw [x2 61 (by omega), t3 11 (by decide) (by decide), ks 61 (by omega), w2 61 (by omega), n4]
  · rw [x2 61 (by omega), t3 12 (by decide) (by decide), ks 61 (by omega), w2 61 (by omega), n3 12 (by decide), hμc, upM_self, upd_s]
  · rw [x2 61 (by omega), t4]
    rfl
  · rw [x2 61 (by omega), t5]
    rfl
end
