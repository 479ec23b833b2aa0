/-! laws, and what a day tells -/
variable {wq : Prop}
theorem law_or (a b : Int32) : (∃ l m, l ≤ 2 ∧ m ≤ 5 ∧ (l = 2 → 1 ≤ m) ∧ (l ≠ 2 → m = 0) ∧ a = nI l ∧ b = nI m ∧ (∀ μ, fX8_isLaw FF a b μ = some (1, μ)) ∧ ∀ μ, fX9_isLaw FF a b μ = some (1, μ)) ∨ ((∀ μ, fX8_isLaw FF a b μ = some (0, μ)) ∧ ∀ μ, fX9_isLaw FF a b μ = some (0, μ)) := by
  have m14 : ∀ μ, ¬ a = 2 → fX9_isLaw_14 FF a b μ = some (0, μ) := fun μ h => by
    unfold fX9_isLaw_14
    rw [if_neg h, zr_0]
  by_cases h2 : a = 2
  · subst h2
    by_cases hb : 1 ≤ b.toInt ∧ b.toInt ≤ 5
    · obtain ⟨m, hm⟩ : ∃ m : Nat, b.toInt = m := ⟨b.toInt.toNat, by omega⟩
      obtain rfl : b = nI m := of_toInt hm (by omega)
      refine Or.inl ⟨2, m, by omega, by omega, fun _ => by omega, fun h => absurd rfl h, rfl, rfl, fun μ => ?_, fun μ => ?_⟩
      · unfold fX8_isLaw
        rw [if_pos rfl, if_neg, if_neg, zr_1]
        · rw [Int32.lt_iff_toInt_lt, show (5 : Int32).toInt = 5 from rfl]; omega
        · rw [Int32.lt_iff_toInt_lt, toInt_1]; omega
      · unfold fX9_isLaw
        rw [m_in_g (la := 0) (lb := 1) rfl rfl, if_neg (show ¬ (0 ≤ (2 : Int32).toInt ∧ (2 : Int32).toInt ≤ 1) by decide), cal_n, if_pos rfl]
        unfold fX9_isLaw_14
        rw [if_pos rfl, m_in_g (la := 1) (lb := 5) rfl rfl, if_pos hb, cal_n, if_neg one_ne, zr_1]
    · refine Or.inr ⟨fun μ => ?_, fun μ => ?_⟩
      · unfold fX8_isLaw
        rw [if_pos rfl]
        by_cases q : b < 1
        · rw [if_pos q, zr_0]
        · rw [if_neg q, if_pos, zr_0]
          rw [Int32.lt_iff_toInt_lt, toInt_1] at q
          rw [Int32.lt_iff_toInt_lt, show (5 : Int32).toInt = 5 from rfl]
          omega
      · unfold fX9_isLaw
        rw [m_in_g (la := 0) (lb := 1) rfl rfl, if_neg (show ¬ (0 ≤ (2 : Int32).toInt ∧ (2 : Int32).toInt ≤ 1) by decide), cal_n, if_pos rfl]
        unfold fX9_isLaw_14
        rw [if_pos rfl, m_in_g (la := 1) (lb := 5) rfl rfl, if_neg hb, cal_n, if_pos rfl, zr_0]
  by_cases h01 : a = 0 ∨ a = 1
  · have hin : 0 ≤ a.toInt ∧ a.toInt ≤ 1 := by rcases h01 with rfl | rfl <;> decide
    by_cases hb : b = 0
    · subst hb
      refine Or.inl ⟨if a = 0 then 0 else 1, 0, ?_, by omega, fun h => ?_, fun _ => rfl, ?_, rfl, fun μ => ?_, fun μ => ?_⟩
      · by_cases q : a = 0
        · rw [if_pos q]; omega
        · rw [if_neg q]; omega
      · by_cases q : a = 0
        · rw [if_pos q] at h; omega
        · rw [if_neg q] at h; omega
      · rcases h01 with rfl | rfl <;> rfl
      · unfold fX8_isLaw fX8_isLaw_30
        rw [if_neg h2]
        by_cases q : a = 0
        · rw [if_pos q, if_pos rfl, zr_1]
        · rw [if_neg q, if_pos (by rcases h01 with h | h; exact absurd h q; exact h), if_pos rfl, zr_1]
      · unfold fX9_isLaw
        rw [m_in_g (la := 0) (lb := 1) rfl rfl, if_pos hin, cal_n, if_neg one_ne, if_pos rfl, zr_1]
    · refine Or.inr ⟨fun μ => ?_, fun μ => ?_⟩
      · unfold fX8_isLaw fX8_isLaw_30
        rw [if_neg h2]
        by_cases q : a = 0
        · rw [if_pos q, if_neg hb, zr_0]
        · rw [if_neg q, if_pos (by rcases h01 with h | h; exact absurd h q; exact h), if_neg hb, zr_0]
      · unfold fX9_isLaw
        rw [m_in_g (la := 0) (lb := 1) rfl rfl, if_pos hin, cal_n, if_neg one_ne, if_neg hb, m14 μ h2]
  · have hin : ¬ (0 ≤ a.toInt ∧ a.toInt ≤ 1) := fun q => by
      have : a.toInt = 0 ∨ a.toInt = 1 := by omega
      rcases this with h | h
      · exact h01 (Or.inl (of_toInt (n := 0) h (by omega)))
      · exact h01 (Or.inr (of_toInt (n := 1) h (by omega)))
    refine Or.inr ⟨fun μ => ?_, fun μ => ?_⟩
    · unfold fX8_isLaw
      rw [if_neg h2, if_neg (fun q => h01 (Or.inl q)), if_neg (fun q => h01 (Or.inr q)), zr_0]
    · unfold fX9_isLaw
      rw [m_in_g (la := 0) (lb := 1) rfl rfl, if_neg hin, cal_n, if_pos rfl, m14 μ h2]
theorem follow_n {l m : Nat} {μ : Mem} : ∃ μ', fX1_follow FF (nI l) (nI m) μ = some μ' ∧ (∀ k, k ≠ 55 → μ' k = μ k) ∧ μ' 55 5 = nI l ∧ μ' 55 6 = nI m := by
  refine ⟨upM μ 55 (upd (upd (μ 55) 5 (nI l)) 6 (nI m)), ?_, fun k hk => upM_ne hk, ?_, ?_⟩
  · unfold fX1_follow
    rw [st_n, st_n, upM_upM, upM_self]
  · rw [upM_self, upd_ne (by decide), upd_s]
  · rw [upM_self, upd_s]
/-- the class's day of a row -/
theorem c_day {N l m k2 : Nat} {X B : Nat → Int32} {μ : Mem} (hN : N ≤ 40) (hk2 : N ≤ ln k2) (hkk : k2 < 55 ∨ 60 < k2) (hl : l ≤ 2) (hm : m ≤ 5) (h2 : l = 2 → 1 ≤ m) (hR : RowC N k2 X B μ) : ∃ μ0 μ1, fX1_follow FF (nI l) (nI m) μ = some μ0 ∧ fX1_endOf FF k2 0 μ0 = some ((dy l m X B N).2.1, μ1) ∧ (∀ k, k < 55 ∨ 60 < k → μ1 k = μ k) ∧ KN l m X B N μ1 := by
  obtain ⟨μ0, a1, a2, a3, a4⟩ := follow_n (l := l) (m := m) (μ := μ)
  have hR0 : RowC N k2 X B μ0 := by
    unfold RowC
    rw [a2 9 (by omega), a2 k2 (by omega), a2 10 (by omega), a2 11 (by omega)]
    exact hR
  obtain ⟨μ1, b1, b2, b3⟩ := c_end_loop hN hk2 (by omega) hl hm h2 N FF 0 μ0 (by omega) (by rw [FF_e]; omega) hR0 a3 a4 (fun p hp => by omega)
  exact ⟨μ0, μ1, a1, b1, fun k h => by rw [b2 k (by omega), a2 k (by omega)], b3⟩
theorem m_day {N l m k1 : Nat} {X B : Nat → Int32} {μ : Mem} (hN : N ≤ 40) (hk1 : N ≤ ln k1) (hkk : k1 < 103 ∨ 104 < k1) (hl : l ≤ 2) (hm : m ≤ 5) (h2 : l = 2 → 1 ≤ m) (hR : RowM N k1 X B μ) : ∃ μ1, fX9_endOf FF k1 (nI l) (nI m) μ = some ((dy l m X B N).2.1, μ1) ∧ (∀ k, k < 103 ∨ 104 < k → μ1 k = μ k) ∧ KM2 l m X B N μ1 :=
  m_end_loop hN hk1 hkk hl hm h2 N FF 0 μ (by omega) (by rw [FF_e]; omega) hR (fun p hp => by omega)
theorem RelN.rowC {N k2 : Nat} {μ : Mem} {σ : Nat → Nat} (hL : RelN wq N (CL μ) (MT μ 0)) (hσ : ∀ p, p < N → σ p < N ∧ μ k2 p = nI (σ p)) : RowC N k2 (fun p => μ 10 (σ p)) (fun p => μ 11 (σ p)) μ :=
  ⟨hL.2.1, fun p hp => ⟨σ p, by have := (hσ p hp).1; have := hL.1; omega, (hσ p hp).2, rfl, rfl⟩⟩
theorem RelN.rowM {N k1 : Nat} {μ : Mem} {σ : Nat → Nat} (hL : RelN wq N (CL μ) (MT μ 0)) (hσ : ∀ p, p < N → σ p < N ∧ μ k1 p = nI (σ p)) : RowM N k1 (fun p => μ 10 (σ p)) (fun p => μ 11 (σ p)) μ :=
  ⟨hL.2.2.1, fun p hp => ⟨σ p, by have := (hσ p hp).1; have := hL.1; omega, (hσ p hp).2, (hL.eqs (hσ p hp).1).1.symm, (hL.eqs (hσ p hp).1).2.1.symm⟩⟩
/-- what no call of these looks at between two calls -/
theorem Inv.free {μ μ' : Mem} (hI : Inv wq μ) (h : ∀ k, (k < 55 ∨ 60 < k) → k ≠ 103 → k ≠ 104 → μ' k = μ k) : Inv wq μ' := by
  have g : Ag [55, 56, 57, 58, 59, 60, 103, 104] [] μ μ' := by
    refine ⟨fun k h9 hk => ?_, fun j _ => by rw [h 89 (by omega) (by omega) (by omega)]⟩
    simp only [List.mem_cons, List.not_mem_nil, or_false, not_or] at hk
    exact h k (by omega) (by omega) (by omega)
  obtain ⟨i1, i2, i3, i4, i5, i6⟩ := hI
  exact ⟨i1.ag g, i2.ag g, i3.ag g, i4.ag g (by rw [g.at 9]), i5.ag g, i6.ag g⟩
/-- the order's numbers on both sides -/
theorem RelN.sig {N : Nat} {μ : Mem} (hL : RelN wq N (CL μ) (MT μ 0)) : ∃ (σ σ' : Nat → Nat), (∀ p, p < N → σ p < N ∧ μ 14 p = nI (σ p)) ∧ (∀ p, p < N → σ' p < N ∧ μ 99 p = nI (σ' p)) ∧ (wq → σ' = σ) := by
  obtain ⟨σ, τ, s1, s2⟩ := hL.oks.2
  obtain ⟨σ', τ', g1, g2⟩ := hL.oko
  by_cases q : wq
  · exact ⟨σ, σ, fun p hp => ⟨(s1 p hp).1, (s1 p hp).2.1⟩, fun p hp => ⟨(s1 p hp).1, ((hL.eqs hp).2.2.2.2 q).symm.trans (s1 p hp).2.1⟩, fun _ => rfl⟩
  · exact ⟨σ, σ', fun p hp => ⟨(s1 p hp).1, (s1 p hp).2.1⟩, fun p hp => ⟨(g1 p hp).1, (g1 p hp).2.1⟩, fun h => absurd h q⟩
/-- the day of the order, on both sides -/
theorem day_both {l m : Nat} {μ : Mem} (hI : Inv wq μ) (hl : l ≤ 2) (hm : m ≤ 5) (h2 : l = 2 → 1 ≤ m) : ∃ (N : Nat) (σ σ' : Nat → Nat) (μ0 μ1 : Mem), (wq → σ' = σ) ∧ (∀ p, p < N → σ' p < N ∧ μ 99 p = nI (σ' p)) ∧ RelN wq N (CL μ) (MT μ 0) ∧ (∀ p, p < N → σ p < N ∧ μ 14 p = nI (σ p)) ∧ fX1_follow FF (nI l) (nI m) μ = some μ0 ∧ fX1_endOf FF 14 0 μ0 = some ((dy l m (fun p => μ 10 (σ p)) (fun p => μ 11 (σ p)) N).2.1, μ1) ∧ (∀ k, k < 55 ∨ 60 < k → μ1 k = μ k) ∧ KN l m (fun p => μ 10 (σ p)) (fun p => μ 11 (σ p)) N μ1 ∧
    ∃ μ2, fX9_endOf FF 99 (nI l) (nI m) μ1 = some ((dy l m (fun p => μ 10 (σ' p)) (fun p => μ 11 (σ' p)) N).2.1, μ2) ∧ (∀ k, k < 103 ∨ 104 < k → μ2 k = μ1 k) ∧ KM2 l m (fun p => μ 10 (σ' p)) (fun p => μ 11 (σ' p)) N μ2 := by
  obtain ⟨N, hL⟩ := hI.2.1
  obtain ⟨σ, σ', hσ, hσ', hq⟩ := hL.sig
  have hN := hL.1
  obtain ⟨μ0, μ1, a1, a2, a3, a4⟩ := c_day (l := l) (m := m) hN (show N ≤ ln 14 from hN) (by omega) hl hm h2 (hL.rowC hσ)
  have hR : RowM N 99 (fun p => μ 10 (σ' p)) (fun p => μ 11 (σ' p)) μ1 := by
    have := hL.rowM (k1 := 99) (σ := σ') hσ'
    unfold RowM at this ⊢
    rw [a3 94 (by omega), a3 99 (by omega), a3 95 (by omega), a3 96 (by omega)]
    exact this
  obtain ⟨μ2, b1, b2, b3⟩ := m_day (l := l) (m := m) hN (show N ≤ ln 99 by show N ≤ 240; omega) (by omega) hl hm h2 hR
  exact ⟨N, σ, σ', μ0, μ1, hq, hσ', hL, hσ, a1, a2, a3, a4, μ2, b1, b2, b3⟩
theorem op_day (a b : Int32) : OpW wq (fX8_day FF a b) (fX9_day FF a b) := by
  intro μ hI
  unfold fX8_day fX9_day
  rcases law_or a b with ⟨l, m, hl, hm, h2, -, rfl, rfl, w1, w2⟩ | ⟨w1, w2⟩
  · obtain ⟨N, σ, σ', μ0, μ1, hq, hσ', hL, hσ, a1, a2, a3, a4, μ2, b1, b2, b3⟩ := day_both hI hl hm h2
    refine ⟨_, _, μ1, μ2, by rw [w1, cal_n, if_neg one_ne, a1, cav_n, a2, cal_n], by rw [w2, cal_n, if_neg one_ne, b1, cal_n], hI.free (fun k h h3 h4 => by rw [b2 k (by omega), a3 k h]), fun q => by rw [hq q]⟩
  · exact ⟨-2, -2, μ, μ, by rw [w1, cal_n, if_pos rfl], by rw [w2, cal_n, if_pos rfl], hI, fun _ => rfl⟩
theorem op_idle (a b : Int32) : OpW wq (fX8_idle FF a b) (fX9_idle FF a b) := by
  intro μ hI
  unfold fX8_idle fX9_idle
  rcases law_or a b with ⟨l, m, hl, hm, h2, -, rfl, rfl, w1, w2⟩ | ⟨w1, w2⟩
  · obtain ⟨N, σ, σ', μ0, μ1, hq, hσ', hL, hσ, a1, a2, a3, a4, μ2, b1, b2, b3⟩ := day_both hI hl hm h2
    have hN := hL.1
    refine ⟨(dy l m (fun p => μ 10 (σ p)) (fun p => μ 11 (σ p)) N).2.1 - sumF (μ 96) N, (dy l m (fun p => μ 10 (σ' p)) (fun p => μ 11 (σ' p)) N).2.1 - sumF (μ 96) N, μ1, μ2, ?_, ?_, hI.free (fun k h h3 h4 => by rw [b2 k (by omega), a3 k h]), fun q => by rw [hq q]⟩
    · rw [w1, cal_n, if_neg one_ne, a1, cav_n, a2, cal_n, c_sum (N := N) (by rw [a3 9 (by omega)]; exact hL.2.1) (by show N ≤ 40; omega), cal_n, a3 11 (by omega), sumF_congr (fun i hi => (hL.eqs hi).2.1)]
    · rw [w2, cal_n, if_neg one_ne, b1, cal_n, m_bake (N := N) (by rw [b2 94 (by omega), a3 94 (by omega)]; exact hL.2.2.1) hN, cal_n, b2 96 (by omega), a3 96 (by omega)]
  · exact ⟨-2, -2, μ, μ, by rw [w1, cal_n, if_pos rfl], by rw [w2, cal_n, if_pos rfl], hI, fun _ => rfl⟩
theorem op_moment (a b c d : Int32) : OpW wq (fX8_moment FF a b c d) (fX9_moment FF a b c d) := by
  intro μ hI
  unfold fX8_moment fX9_moment
  rcases (law_or a b).symm with ⟨w1, w2⟩ | ⟨l, m, hl, hm, h2, -, rfl, rfl, w1, w2⟩
  · exact ⟨-2, -2, μ, μ, by rw [w1, cal_n, if_pos rfl], by rw [w2, cal_n, if_pos rfl], hI, fun _ => rfl⟩
  obtain ⟨N, σ, σ', μ0, μ1, hq, hσ', hL, hσ, a1, a2, a3, a4, μ2, b1, b2, b3⟩ := day_both hI hl hm h2
  have hN := hL.1
  have h9 : μ 9 6 = nI N := hL.2.1
  have h94 : μ 94 0 = nI N := hL.2.2.1
  have h94' : μ1 94 0 = nI N := by rw [a3 94 (by omega)]; exact h94
  rcases (ix c N (by omega)).symm with h | ⟨p, hp, rfl⟩
  · exact ⟨-2, -2, μ, μ, by rw [w1, cal_n, if_neg one_ne, c_lf_no h9 hN h, cal_n, if_pos rfl], by rw [w2, cal_n, if_neg one_ne, m_lf_no h94 hN h, cal_n, if_pos rfl], hI, fun _ => rfl⟩
  have f2 : Inv wq μ2 := hI.free (fun k h h3 h4 => by rw [b2 k (by omega), a3 k h])
  have f1 : Inv wq μ1 := hI.free (fun k h h3 h4 => a3 k h)
  have p40 : p < 40 := by omega
  obtain ⟨k1, k2, k3, k4, k5⟩ := a4 p hp
  obtain ⟨j1, j2⟩ := b3 p hp
  have s40 : σ' p < 240 := by have := (hσ' p hp).1; omega
  have e99 : μ2 99 p = nI (σ' p) := by rw [b2 99 (by omega), a3 99 (by omega)]; exact (hσ' p hp).2
  have e95 : μ2 95 (σ' p) = μ 10 (σ' p) := by rw [b2 95 (by omega), a3 95 (by omega)]; exact (hL.eqs (hσ' p hp).1).1.symm
  have e96 : μ2 96 (σ' p) = μ 11 (σ' p) := by rw [b2 96 (by omega), a3 96 (by omega)]; exact (hL.eqs (hσ' p hp).1).2.1.symm
  have din : ∀ j : Nat, j ≤ 3 → (if (0 : Int) ≤ (nI j).toInt ∧ (nI j).toInt ≤ 3 then (1 : Int32) else 0) = 1 := fun j hj => if_pos (by have : (nI j).toInt = j := nI_toInt (by omega); omega)
  rcases small d 3 (by decide) with h | ⟨j, hj, rfl⟩
  · have hd : ∀ j : Nat, j ≤ 3 → ¬ d = nI j := fun j hj q => by
      subst q
      rcases h with h | h
      · exact nI_pos (by omega) h
      · exact nI_nlt (by omega) (by omega) h
    refine ⟨-2, -2, μ1, μ1, ?_, ?_, f1, fun _ => rfl⟩
    · rw [w1, cal_n, if_neg one_ne, c_lf_yes h9 hN hp, cal_n, if_neg one_ne, a1, cav_n, a2, cal_n, if_neg (show ¬ d = (0 : Int32) from hd 0 (by omega)), if_neg (show ¬ d = (1 : Int32) from hd 1 (by omega)), if_neg (show ¬ d = (2 : Int32) from hd 2 (by omega)), if_neg (show ¬ d = (3 : Int32) from hd 3 (by omega))]
    · rw [w2, cal_n, if_neg one_ne, m_lf_yes h94' hN hp, cal_n, if_neg one_ne, show (0 : Int64) = Int64.ofNat 0 from rfl, show (3 : Int64) = Int64.ofNat 3 from rfl, m_in_no (by decide) h, cal_n, if_pos rfl]
  have hC : ∀ f : Int32 → Mem → Option (Int32 × Mem), (cal (fX8_isLaw FF (nI l) (nI m) μ) (fun r2 m1 => (if r2 = 0 then some ((-2), m1) else cal (fX3_has FF (nI p) m1) (fun r4 m3 => (if r4 = 0 then some ((-2), m3) else cav (fX1_follow FF (nI l) (nI m) m3) (fun m5 => cal (fX1_endOf FF 14 0 m5) f)))))) = f (dy l m (fun p => μ 10 (σ p)) (fun p => μ 11 (σ p)) N).2.1 μ1 := fun f => by
    rw [w1, cal_n, if_neg one_ne, c_lf_yes h9 hN hp, cal_n, if_neg one_ne, a1, cav_n, a2, cal_n]
  have hM : ∀ f : Int32 → Mem → Option (Int32 × Mem), (cal (fX9_isLaw FF (nI l) (nI m) μ1) (fun r2 m1 => (if r2 = 0 then some ((-2), m1) else cal (fX9_isLoaf FF (nI p) m1) (fun r4 m3 => (if r4 = 0 then some ((-2), m3) else cal (fX9_in FF (nI j).toInt64 0 3 m3) (fun r6 m5 => (if r6 = 0 then some ((-2), m5) else cal (fX9_endOf FF 99 (nI l) (nI m) m5) f))))))) = f (dy l m (fun p => μ 10 (σ' p)) (fun p => μ 11 (σ' p)) N).2.1 μ2 := fun f => by
    rw [w2, cal_n, if_neg one_ne, m_lf_yes h94' hN hp, cal_n, if_neg one_ne, m_in_g (la := 0) (lb := 3) rfl rfl, din j hj, cal_n, if_neg one_ne, b1, cal_n]
  have l56 : p < ln 56 := p40
  have h4 : j = 0 ∨ j = 1 ∨ j = 2 ∨ j = 3 := by omega
  rcases h4 with rfl | rfl | rfl | rfl
  · refine ⟨sA l m (fun p => μ 10 (σ p)) (fun p => μ 11 (σ p)) p, sA l m (fun p => μ 10 (σ' p)) (fun p => μ 11 (σ' p)) p, μ1, μ2, ?_, ?_, f2, fun q => by rw [hq q]⟩
    · rw [hC, if_pos (show nI 0 = 0 from rfl), rd_n (by exact p40), k1]
    · rw [hM, rd_n (by show p < 240; omega), if_pos (show nI 0 = 0 from rfl), rd_n (by exact p40), j1]
  · refine ⟨sB l m (fun p => μ 10 (σ p)) (fun p => μ 11 (σ p)) p, sB l m (fun p => μ 10 (σ' p)) (fun p => μ 11 (σ' p)) p, μ1, μ2, ?_, ?_, f2, fun q => by rw [hq q]⟩
    · rw [hC, if_neg (show ¬ nI 1 = 0 by decide), if_pos (show nI 1 = 1 from rfl), rd_n (by exact p40), k2]
    · rw [hM, rd_n (by show p < 240; omega), if_neg (show ¬ nI 1 = 0 by decide), if_pos (show nI 1 = 1 from rfl), rd_n (by exact p40), e99, rd_n (by exact s40), j1, e95]
      rfl
  · refine ⟨sC l m (fun p => μ 10 (σ p)) (fun p => μ 11 (σ p)) p, sC l m (fun p => μ 10 (σ' p)) (fun p => μ 11 (σ' p)) p, μ1, μ2, ?_, ?_, f2, fun q => by rw [hq q]⟩
    · rw [hC, if_neg (show ¬ nI 2 = 0 by decide), if_neg (show ¬ nI 2 = 1 by decide), if_pos (show nI 2 = 2 from rfl), rd_n (by exact p40), k3]
    · rw [hM, rd_n (by show p < 240; omega), if_neg (show ¬ nI 2 = 0 by decide), if_neg (show ¬ nI 2 = 1 by decide), if_pos (show nI 2 = 2 from rfl), rd_n (by exact p40), j2]
  · refine ⟨(dy l m (fun p => μ 10 (σ p)) (fun p => μ 11 (σ p)) (p + 1)).2.1, (dy l m (fun p => μ 10 (σ' p)) (fun p => μ 11 (σ' p)) (p + 1)).2.1, μ1, μ2, ?_, ?_, f2, fun q => by rw [hq q]⟩
    · rw [hC, if_neg (show ¬ nI 3 = 0 by decide), if_neg (show ¬ nI 3 = 1 by decide), if_neg (show ¬ nI 3 = 2 by decide), if_pos (show nI 3 = 3 from rfl), rd_n (by exact p40), k4]
    · rw [hM, rd_n (by show p < 240; omega), if_neg (show ¬ nI 3 = 0 by decide), if_neg (show ¬ nI 3 = 1 by decide), if_neg (show ¬ nI 3 = 2 by decide), rd_n (by exact p40), e99, rd_n (by exact s40), j2, e96]
      rfl
