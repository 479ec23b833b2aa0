/-! the second one -/
variable {wq : Prop}
def FL : List Nat := List.range' 55 6 ++ (List.range' 62 9 ++ ([15, 71, 72] ++ (List.range' 79 10 ++ List.range' 103 12)))
theorem FL_not {k : Nat} (h : k ∈ FL) : k = 15 ∨ (55 ≤ k ∧ k ≤ 60) ∨ (62 ≤ k ∧ k ≤ 72) ∨ (79 ≤ k ∧ k ≤ 88) ∨ (103 ≤ k ∧ k ≤ 114) := by
  unfold FL at h
  simp only [List.mem_append, List.mem_range'_1, List.mem_cons, List.not_mem_nil, or_false] at h
  omega
theorem FL_ag {μ μ' : Mem} (h : ∀ k, k ≠ 15 → (k < 55 ∨ 60 < k) → (k < 62 ∨ 72 < k) → (k < 79 ∨ 88 < k) → (k < 103 ∨ 114 < k) → k ≠ 89 → μ' k = μ k) (hj : ∀ j, j ≠ 21 → j ≠ 22 → μ' 89 j = μ 89 j) : Ag FL [21, 22] μ μ' := by
  refine ⟨fun k h9 hk => ?_, fun j q => ?_⟩
  · unfold FL at hk
    simp only [List.mem_append, List.mem_range'_1, List.mem_cons, List.not_mem_nil, or_false, not_or, not_and] at hk
    exact h k (by omega) (by omega) (by omega) (by omega) (by omega) h9
  · simp only [List.mem_cons, List.not_mem_nil, or_false, not_or] at q
    exact hj j q.1 q.2
theorem Inv.free3 {μ μ' : Mem} (hI : Inv wq μ) (h : ∀ k, k ≠ 15 → (k < 55 ∨ 60 < k) → (k < 62 ∨ 72 < k) → (k < 79 ∨ 88 < k) → (k < 103 ∨ 114 < k) → k ≠ 89 → μ' k = μ k) (hj : ∀ j, j ≠ 21 → j ≠ 22 → μ' 89 j = μ 89 j) : Inv wq μ' := by
  have g := FL_ag h hj
  obtain ⟨i1, i2, i3, i4, i5, i6⟩ := hI
  exact ⟨i1.ag g, i2.ag g, i3.ag g ⟨fun k h1 h2 h3 => by have := FL_not h3; omega, fun h3 => by have := FL_not h3; omega⟩, i4.ag g (by rw [g.at 9]), i5.ag g, i6.ag g⟩
theorem m_all2 {N l m : Nat} {y1 : Int32} {μ0 ν κ : Mem} {b0 : Nat → Int32} (hκ : ∀ p, p < N → κ 14 p = μ0 99 p) (hy : ¬ y1 = 0) (hL : RelN wq N (CL μ0) (MT μ0 0)) (h7 : N ≤ 7) (hl : l ≤ 2) (hm : m ≤ 5) (h2 : l = 2 → 1 ≤ m) (hν : ∀ k, 94 ≤ k → k ≤ 99 → ν k = μ0 k) (hr : ∀ p, p < N → ν 105 p = nI p) : ∃ μ', fX9_second_46 FF FF (nI l) (nI m) (-1) 1 ν = some (enc (sca N (eN l m μ0 N) (Sk y1 κ N) b0).1, μ') ∧ ∀ k, k ≠ 103 → k ≠ 104 → k ≠ 105 → μ' k = ν k := by
  have hr' : ∀ p, p < N → ν 105 p = idR p := hr
  have hP : PermF (ν 105) N := idR_perm.congr hr
  have h94 : ν 94 0 = nI N := by rw [hν 94 (by omega) (by omega)]; exact hL.2.2.1
  obtain ⟨n, hn⟩ : ∃ n, FF = n + 1 := ⟨9999999, rfl⟩
  have n1 : 5040 < n := by rw [FF_e] at hn; omega
  obtain ⟨μe, g1, g2⟩ := m_row (μ0 := μ0) (μ := ν) hL hl hm h2 hP (fun k q1 q2 => hν k q1 (by omega)) rfl
  have hE : Rcd (eN l m μ0 N (ν 105)) := eN_b hL h2 hP
  have hE0 : eN l m μ0 N (ν 105) = eN l m μ0 N idR := eN_congr hr
  have cE : ∀ r s : Nat → Int32, (∀ p, p < N → r p = s p) → eN l m μ0 N r = eN l m μ0 N s := fun r s h => eN_congr h
  have start : fX9_second_46 FF FF (nI l) (nI m) (-1) 1 ν = cal (fX9_isOrder FF ν) (fun r7 m6 => if r7 = 0 then cal (fX9_endOf FF 105 (nI l) (nI m) m6) (fun r11 m10 => cal (fX9_nextRow FF m10) (fun rr mm => fX9_second_46 FF n (nI l) (nI m) r11 rr mm)) else cal (fX9_nextRow FF m6) (fun rr mm => fX9_second_46 FF n (nI l) (nI m) (-1) rr mm)) := by
    have : fX9_second_46 FF FF (nI l) (nI m) (-1) 1 ν = fX9_second_46 FF (n + 1) (nI l) (nI m) (-1) 1 ν := by rw [← hn]
    rw [this]
    show fX9_second_46_b FF _ _ _ _ _ _ = _
    unfold fX9_second_46_b
    rw [if_neg one_ne]
    simp only [if_pos (show (-1 : Int32) < 0 by decide)]
  rw [start]
  rcases m_isOrd (N := N) (μ := ν) (by omega) h94 with ⟨o1, o2⟩ | ⟨o1, o2⟩
  · have hS : Sk y1 κ N idR := ⟨hy, fun p hp => by
      have := o1 p hp
      rw [hν 99 (by omega) (by omega)] at this
      exact (hr' p hp).symm.trans (this.trans (hκ p hp).symm)⟩
    obtain ⟨μ', w1, w2⟩ := m_scan2 (y1 := y1) (μ0 := μ0) (ν := ν) hκ hy hL h7 hl hm h2 hν 5040 n (ν 105) b0 2147483647 ν hP (by omega) n1 (Or.inl rfl) (fun _ _ _ _ => rfl) rfl
    obtain ⟨z1, z2⟩ := scn_congr (S := Sk y1 κ N) cE Sk.congr 5040 (ν 105) idR 2147483647 b0 b0 hr' (fun _ _ => rfl)
    have es : sca N (eN l m μ0 N) (Sk y1 κ N) b0 = scn N (eN l m μ0 N) (Sk y1 κ N) 5040 idR 2147483647 b0 := if_pos hS
    rw [o2, cal_n, if_neg one_ne, es, ← z1]
    exact ⟨μ', w1, w2⟩
  · have hS : ¬ Sk y1 κ N idR := fun w => o1 (fun p hp => by
      rw [hν 99 (by omega) (by omega), hr' p hp]
      exact (w.2 p hp).trans (hκ p hp))
    obtain ⟨μ', w1, w2⟩ := m_scan2 (y1 := y1) (μ0 := μ0) (ν := ν) hκ hy hL h7 hl hm h2 hν 5040 n (ν 105) idR (eN l m μ0 N (ν 105)) μe hP (by omega) n1 (Or.inr hE) (fun k q1 q2 q3 => g2 k (by omega)) (g2 105 (by omega))
    obtain ⟨z1, z2⟩ := scn_congr (S := Sk y1 κ N) cE Sk.congr 5040 (ν 105) idR (eN l m μ0 N (ν 105)) idR idR hr' (fun _ _ => rfl)
    have es : sca N (eN l m μ0 N) (Sk y1 κ N) b0 = scn N (eN l m μ0 N) (Sk y1 κ N) 5040 idR (eN l m μ0 N idR) idR := if_neg hS
    rw [o2, cal_n, if_pos rfl, g1, cal_n, es, ← hE0, ← z1]
    rw [hE.enc.1] at w1
    exact ⟨μ', w1, w2⟩
theorem sca_rcd {N l m : Nat} {y1 : Int32} {μ0 κ : Mem} {b0 : Nat → Int32} (hL : RelN wq N (CL μ0) (MT μ0 0)) (hN : 2 ≤ N) (h2 : l = 2 → 1 ≤ m) : Rcd (sca N (eN l m μ0 N) (Sk y1 κ N) b0).1 := by
  have hE : ∀ r, PermF r N → Rcd (eN l m μ0 N r) := fun r h => eN_b hL h2 h
  by_cases hS : Sk y1 κ N idR
  · have es : sca N (eN l m μ0 N) (Sk y1 κ N) b0 = scn N (eN l m μ0 N) (Sk y1 κ N) (5039 + 1) idR 2147483647 b0 := if_pos hS
    rw [es]
    have hf : fd idR (N - 1) = some (N - 2) := by
      obtain ⟨k, hk⟩ : ∃ k, N = k + 2 := ⟨N - 2, by omega⟩
      subst hk
      show fd idR (k + 1) = some k
      unfold fd
      have := hL.1
      rw [if_pos (show idR k ≤ idR (k + 1) from nI_le (by omega) (by omega))]
    cases hx : nxR N idR with
    | none =>
      unfold nxR at hx
      rw [hf] at hx
      cases hx
    | some v =>
      obtain ⟨i, r'⟩ := v
      obtain ⟨s1, s2, s3, j, s4, s5, s6, s7⟩ := nxR_some hx
      have hP' := (nxR_perm idR_perm hx).1
      have nS : ¬ Sk y1 κ N r' := fun w => by
        have a := w.2 i (by omega)
        have b := hS.2 i (by omega)
        rw [s6] at a
        have c : nI j = nI i := a.trans b.symm
        have := hL.1
        have := nI_inj (by omega) (by omega) c
        omega
      rw [scn_gt hx (by
        obtain ⟨x, hx1, hx2⟩ := hE r' hP'
        rw [hx2]
        exact max_nle hx1) nS]
      exact scn_rcd hE 5039 r' r' _ hP' (hE r' hP')
  · have es : sca N (eN l m μ0 N) (Sk y1 κ N) b0 = scn N (eN l m μ0 N) (Sk y1 κ N) 5040 idR (eN l m μ0 N idR) idR := if_neg hS
    rw [es]
    exact scn_rcd hE 5040 idR idR _ idR_perm (hE idR idR_perm)
theorem op_second (a b : Int32) : OpW wq (fX8_second FF a b) (fX9_second FF a b) := by
  intro μ hI
  unfold fX8_second fX9_second
  rcases law_or a b with ⟨l, m, hl, hm, h2, -, rfl, rfl, w1, w2⟩ | ⟨w1, w2⟩
  · obtain ⟨N, hL⟩ := hI.2.1
    have h9 : μ 9 6 = nI N := hL.2.1
    have h94 : μ 94 0 = nI N := hL.2.2.1
    have hN := hL.1
    by_cases q1 : 2 ≤ N
    · by_cases q2 : N ≤ 7
      · obtain ⟨μs, f1, f2, f3, f4⟩ := follow_n (l := l) (m := m) (μ := μ)
        obtain ⟨μ1, a1, a2, a3⟩ := c_all (y1 := 1) (μs := μs) hL q2 hl hm h2 f2 f3 f4
        obtain ⟨μb, b1, b2, b3⟩ := m_begin (N := N) (μ := μ1) (by omega) (by rw [a3 94 (by omega) (by omega) (by omega) (by omega)]; exact h94)
        obtain ⟨μ2, c1, c2⟩ := m_all2 (y1 := 1) (μ0 := μ) (ν := μb) (κ := upM μ 14 (μ 99)) (b0 := μ 79) (fun p _ => rfl) one_ne hL q2 hl hm h2 (fun k z1 z2 => by rw [b3 k (by omega), a3 k (by omega) (by omega) (by omega) (by omega)]) b2
        have rc := sca_rcd (y1 := 1) (κ := upM μ 14 (μ 99)) (b0 := μ 79) hL q1 h2 (l := l) (m := m)
        rw [rc.enc.1] at c1
        have kk : ∀ k, k ≠ 103 → k ≠ 104 → k ≠ 105 → k ≠ 71 → k ≠ 72 → k ≠ 79 → (k < 55 ∨ 60 < k) → μ2 k = μ k := fun k z1 z2 z3 z4 z5 z6 z7 => by rw [c2 k z1 z2 z3, b3 k z3, a3 k z4 z5 z6 z7]
        have es : wq → Sk 1 μ N = Sk 1 (upM μ 14 (μ 99)) N := fun hq => by
          funext r
          unfold Sk
          exact propext ⟨fun w => ⟨w.1, fun p hp => (w.2 p hp).trans ((hL.eqs hp).2.2.2.2 hq)⟩, fun w => ⟨w.1, fun p hp => (w.2 p hp).trans ((hL.eqs hp).2.2.2.2 hq).symm⟩⟩
        refine ⟨(sca N (eN l m μ N) (Sk 1 μ N) (μ 79)).1, (sca N (eN l m μ N) (Sk 1 (upM μ 14 (μ 99)) N) (μ 79)).1, μ1, μ2, ?_, ?_, hI.free3 (fun k z1 z2 z3 z4 z5 z6 => kk k (by omega) (by omega) (by omega) (by omega) (by omega) (by omega) z2) (fun j _ _ => by rw [kk 89 (by omega) (by omega) (by omega) (by omega) (by omega) (by omega) (by omega)]), fun hq => by rw [es hq]⟩
        · rw [w1, cal_n, if_neg one_ne, h9, if_pos (show (2 : Int32) ≤ nI N from nI_le (a := 2) q1 (by omega)), if_pos (show nI N ≤ (7 : Int32) from nI_le (b := 7) q2 (by omega)), f1, cav_n, a1, cal_n]
        · rw [w2, cal_n, if_neg one_ne]
          have e94 : μ1 94 0 = nI N := by rw [a3 94 (by omega) (by omega) (by omega) (by omega)]; exact h94
          rw [show (0 : Int32) = nI 0 from rfl, rd_n (by decide), e94, if_pos (show (2 : Int32) ≤ nI N from nI_le (a := 2) q1 (by omega)), rd_n (by decide), e94, if_pos (show nI N ≤ (7 : Int32) from nI_le (b := 7) q2 (by omega)), b1, cav_n]
          exact c1
      · refine ⟨-4, -4, μ, μ, ?_, ?_, hI, fun _ => rfl⟩
        · rw [w1, cal_n, if_neg one_ne, h9, if_pos (show (2 : Int32) ≤ nI N from nI_le (a := 2) q1 (by omega)), if_neg (show ¬ nI N ≤ (7 : Int32) from nI_ge (a := 7) (by omega) (by omega))]
        · rw [w2, cal_n, if_neg one_ne, show (0 : Int32) = nI 0 from rfl, rd_n (by decide), h94, if_pos (show (2 : Int32) ≤ nI N from nI_le (a := 2) q1 (by omega)), rd_n (by decide), h94, if_neg (show ¬ nI N ≤ (7 : Int32) from nI_ge (a := 7) (by omega) (by omega))]
    · refine ⟨-1, -1, μ, μ, ?_, ?_, hI, fun _ => rfl⟩
      · rw [w1, cal_n, if_neg one_ne, h9, if_neg (show ¬ (2 : Int32) ≤ nI N from nI_ge (b := 2) (by omega) (by omega))]
      · rw [w2, cal_n, if_neg one_ne, show (0 : Int32) = nI 0 from rfl, rd_n (by decide), h94, if_neg (show ¬ (2 : Int32) ≤ nI N from nI_ge (b := 2) (by omega) (by omega))]
  · exact ⟨-2, -2, μ, μ, by rw [w1, cal_n, if_pos rfl], by rw [w2, cal_n, if_pos rfl], hI, fun _ => rfl⟩
