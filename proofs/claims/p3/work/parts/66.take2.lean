variable {wq : Prop}
theorem lost_lt2 {x : Int32} (h : x = -1) : x < 0 := by rw [h]; decide
theorem op_take (a b c : Int32) : Op wq (fX8_take FF a b c) (fX9_take FF a b c) := by
  intro μ hI
  rcases small a 3 (by decide) with h | ⟨s, hs, rfl⟩
  · unfold fX8_take fX9_take
    exact ⟨_, _, _, by rw [c_sh_no h, cal_n, if_pos rfl], by rw [m_sh_no h, cal_n, if_pos rfl], hI⟩
  rcases small b 3 (by decide) with h | ⟨t, ht, rfl⟩
  · unfold fX8_take fX9_take
    exact ⟨_, _, _, by rw [c_sh_yes hs, cal_n, if_neg one_ne, c_sh_no h, cal_n, if_pos rfl], by rw [m_sh_yes hs, cal_n, if_neg one_ne, m_sh_no h, cal_n, if_pos rfl], hI⟩
  obtain ⟨N, μc, hL, c1, c2, c3⟩ := keepOp hI
  have h9 : μ 9 6 = nI N := hL.2.1
  have h94 : μ 94 0 = nI N := hL.2.2.1
  have hN := hL.1
  by_cases hc : 1 ≤ c.toInt ∧ c.toInt ≤ 40
  rotate_left
  · unfold fX8_take fX9_take
    have em : (if 1 ≤ c.toInt ∧ c.toInt ≤ 40 then (1 : Int32) else 0) = 0 := if_neg hc
    refine ⟨-2, μ, μ, ?_, ?_, hI⟩
    · rw [c_sh_yes hs, cal_n, if_neg one_ne, c_sh_yes ht, cal_n, if_neg one_ne]
      by_cases q : c < 1
      · rw [if_pos q]
      · rw [if_neg q, if_neg]
        rw [Int32.lt_iff_toInt_lt, toInt_1] at q
        rw [Int32.le_iff_toInt_le, show (40 : Int32).toInt = 40 from rfl]
        omega
    · rw [m_sh_yes hs, cal_n, if_neg one_ne, m_sh_yes ht, cal_n, if_neg one_ne, m_in_g (la := 1) (lb := 40) rfl rfl, em, cal_n, if_pos rfl]
  obtain ⟨n, hn⟩ : ∃ n : Nat, c.toInt = n := ⟨c.toInt.toNat, by omega⟩
  obtain rfl : c = nI n := of_toInt hn (by omega)
  have n1 : 1 ≤ n := by omega
  have n40 : n ≤ 40 := by omega
  by_cases hS : N + n ≤ 40
  rotate_left
  · unfold fX8_take fX9_take
    refine ⟨-3, μ, μ, ?_, ?_, hI⟩
    · rw [c_sh_yes hs, cal_n, if_neg one_ne, c_sh_yes ht, cal_n, if_neg one_ne, if_neg (show ¬ nI n < (1 : Int32) from fun q => absurd ((nI_ltI (a := n) (b := 1) (by omega) (by omega)).mp q) (by omega)), show (40 : Int32) = nI 40 from rfl, if_pos (nI_le (by omega) (by omega)), h9, nI_add, ifle (by omega) (by omega), if_neg hS]
    · rw [m_sh_yes hs, cal_n, if_neg one_ne, m_sh_yes ht, cal_n, if_neg one_ne, m_in_g (la := 1) (lb := 40) rfl rfl, if_pos hc, cal_n, if_neg one_ne, show (0 : Int32) = nI 0 from rfl, rd_n (by decide), h94, nI_add, show (40 : Int32) = nI 40 from rfl, ifle (by omega) (by omega), if_neg hS]
  have hs4 : s < 4 := by omega
  have ht4 : t < 4 := by omega
  obtain ⟨a1, a2, a3, zs, a4, a5, a6⟩ := hI.1.2 s hs4
  obtain ⟨b1, b2, b3, zt, b4, b5, b6⟩ := hI.1.2 t ht4
  have hC := c_take_n (μ := μ) (N := N) hs ht n1 hS h9 a5 b5 a4 b4
  have hM : ∀ μ', (∀ k, k ≠ 1 → μ' k = μ k) → fX9_take FF (nI s) (nI t) (nI n) μ' = if μ 90 s < 0 then fX9_met FF 1 μ' else if 0 ≤ μ 90 t then (if μ 91 s < nI n then fX9_met FF 2 μ' else if nI n ≤ μ 91 t then fX9_take_98 FF FF (nI s) (nI t) (nI n) 0 μ' else fX9_met FF 2 μ') else fX9_met FF 1 μ' := fun μ' e => by
    have := m_take_n (μ := μ') (N := N) hs ht n1 hS (by rw [e 94 (by omega)]; exact h94)
    rw [e 90 (by omega), e 91 (by omega)] at this
    exact this
  rcases fo_ok a3 with q1 | ⟨q1, q1', -⟩
  · refine fnd_take (v := 1) hI (by rw [hC, if_pos q1]) (fun μ' e => ?_)
    rw [hM μ' e, if_pos (lost_lt2 (a1.symm.trans q1))]
  have r1 : ¬ μ 90 s < 0 := by rw [← a1]; exact fun w => absurd q1' (by rw [Int32.le_iff_toInt_le]; rw [Int32.lt_iff_toInt_lt] at w; omega)
  rcases fo_ok b3 with q2 | ⟨q2, q2', -⟩
  · refine fnd_take (v := 1) hI (by rw [hC, if_neg q1, if_pos q2]) (fun μ' e => ?_)
    rw [hM μ' e, if_neg r1, if_neg]
    rw [← b1, q2]
    exact neg_lost
  have r2 : 0 ≤ μ 90 t := by rw [← b1]; exact q2'
  by_cases q3 : zs < n
  · refine fnd_take (v := 2) hI (by rw [hC, if_neg q1, if_neg q2, if_pos q3]) (fun μ' e => ?_)
    rw [hM μ' e, if_neg r1, if_pos r2, ← a2, a5, iflt (by omega) (by omega), if_pos q3]
  by_cases q4 : zt < n
  · refine fnd_take (v := 2) hI (by rw [hC, if_neg q1, if_neg q2, if_neg q3, if_pos q4]) (fun μ' e => ?_)
    rw [hM μ' e, if_neg r1, if_pos r2, ← a2, a5, iflt (by omega) (by omega), if_neg q3, ← b2, b5, ifle (by omega) (by omega), if_neg (by omega)]
  have es : ∀ j, j < n → μ (5 + s) j = μ 92 (40 * s + j) := fun j hj => a6 j (by omega)
  have et : ∀ j, j < n → μ (5 + t) j = μ 92 (40 * t + j) := fun j hj => b6 j (by omega)
  have hM2 : ∀ μ', (∀ k, k ≠ 1 → μ' k = μ k) → fX9_take FF (nI s) (nI t) (nI n) μ' = fX9_take_98 FF FF (nI s) (nI t) (nI n) 0 μ' := fun μ' e => by
    rw [hM μ' e, if_neg r1, if_pos r2, ← a2, a5, iflt (by omega) (by omega), if_neg q3, ← b2, b5, ifle (by omega) (by omega), if_pos (by omega)]
  have hC2 : fX8_take FF (nI s) (nI t) (nI n) μ = cal (fX8_areSpans FF (5 + s) (nI n) μ) (fun r15 m14 => if r15 = 0 then some (-2, m14) else cal (fX8_areSpans FF (5 + t) (nI n) m14) (fun r18 m17 => if r18 = 0 then some (-2, m17) else cav (fX2_keep FF m17) (fun m19 => fX8_take_160 FF FF (nI s) (nI t) (nI n) 0 m19))) := by
    rw [hC, if_neg q1, if_neg q2, if_neg q3, if_neg q4]
  have hS1 := c_spans (F := FF) (k := 5 + s) (N := n) (μ := μ) n40 (gt4 hs4).2 n FF 0 (by omega) (by rw [FF_e]; omega)
  have hS2 := c_spans (F := FF) (k := 5 + t) (N := n) (μ := μ) n40 (gt4 ht4).2 n FF 0 (by omega) (by rw [FF_e]; omega)
  have hS3 := fun (μ' : Mem) => m_spans (F := FF) (s := s) (t := t) (N := n) (μ := μ') n40 hs4 ht4 n FF 0 (by omega) (by rw [FF_e]; omega)
  have u1 : fX8_areSpans FF (5 + s) (nI n) μ = fX8_areSpans_2 FF (5 + s) FF (nI n) (nI 0) μ := rfl
  have u2 : fX8_areSpans FF (5 + t) (nI n) μ = fX8_areSpans_2 FF (5 + t) FF (nI n) (nI 0) μ := rfl
  have bad : (∃ j, j < n ∧ ¬ (Sp (μ 92 (40 * s + j)) ∧ Sp (μ 92 (40 * t + j)))) → fX9_take FF (nI s) (nI t) (nI n) μ = some (-2, μ) := by
    rintro ⟨j, hj, hb⟩
    rw [hM2 μ (fun _ _ => rfl)]
    rcases hS3 μ with ⟨w1, w2⟩ | ⟨-, w2⟩
    · exact absurd (w1 j (by omega) hj) hb
    · exact w2
  rcases hS1 with ⟨p1, p2⟩ | ⟨⟨j, -, j2, j3⟩, p2⟩
  rotate_left
  · exact ⟨-2, μ, μ, by rw [hC2, u1, p2, cal_n, if_pos rfl], bad ⟨j, j2, fun w => j3 (by rw [es j j2]; exact w.1)⟩, hI⟩
  rcases hS2 with ⟨p3, p4⟩ | ⟨⟨j, -, j2, j3⟩, p4⟩
  rotate_left
  · exact ⟨-2, μ, μ, by rw [hC2, u1, p2, cal_n, if_neg one_ne, u2, p4, cal_n, if_pos rfl], bad ⟨j, j2, fun w => j3 (by rw [et j j2]; exact w.2)⟩, hI⟩
  have ks : μc (5 + s) = μ (5 + s) := c2 _ (by omega) (by omega)
  have kt : μc (5 + t) = μ (5 + t) := c2 _ (by omega) (by omega)
  have k53 : μc 53 = μ 53 := c2 53 (by omega) (by omega)
  obtain ⟨μ1, hμ1⟩ : ∃ μ1, μ1 = upM (cAdd N n (μ (5 + s)) (μ (5 + t)) μc) 53 (upd (μ 53) 2 0) := ⟨_, rfl⟩
  have lc : fX8_take_160 FF FF (nI s) (nI t) (nI n) 0 μc = some (nI (N + n), μ1) := by
    have := c_take_loop (F := FF) (N := N) (n := n) (μ := μc) hs4 ht4 hS n FF 0 (by omega) (by rw [FF_e]; omega)
    rw [cAdd_0 (by rw [c2 9 (by omega) (by omega)]; exact h9), ks, kt, k53, ← hμ1] at this
    exact this
  have k1 : ∀ k, 54 ≤ k → μ1 k = μ k := fun k hk => by rw [hμ1, upM_ne (by omega), cAdd_o (by omega), c2 k (by omega) (by omega)]
  obtain ⟨μm, m1, m2, m3, m4⟩ := c3 μ1 (fun k hk => k1 k (by omega)) (fun k hk => by rw [hμ1, upM_ne (by omega), cAdd_o (by omega)])
  have m92 : μm 92 = μ 92 := by rw [m2.at 92, k1 92 (by omega)]
  have m94 : μm 94 0 = nI N := by
    have := m3.1
    rw [show (MT μm 0).1 = μm 94 0 from rfl] at this
    rw [this]
    show μ1 94 0 = _
    rw [k1 94 (by omega)]
    exact h94
  have lm : fX9_take_166 FF FF (nI s) (nI t) (nI n) 0 μm = some (nI (N + n), mAdd N n (μ (5 + s)) (μ (5 + t)) μm) := by
    have := m_take_loop (F := FF) (N := N) (n := n) (μ := μm) (a := μ (5 + s)) (b := μ (5 + t)) hs4 ht4 hS (fun i hi => by rw [m92]; exact (es i hi).symm) (fun i hi => by rw [m92]; exact (et i hi).symm) n FF 0 (by omega) (by rw [FF_e]; omega)
    rw [mAdd_0 m94] at this
    exact this
  refine ⟨nI (N + n), μ1, mAdd N n (μ (5 + s)) (μ (5 + t)) μm, ?_, ?_, Inv.add hI hL hS n1 (fun i hi => p1 i (by omega) hi) (fun i hi => p3 i (by omega) hi) c2 hμ1 m2 m3 m4 rfl⟩
  · rw [hC2, u1, p2, cal_n, if_neg one_ne, u2, p4, cal_n, if_neg one_ne, c1, cav_n]
    exact lc
  · have g : fX9_take FF (nI s) (nI t) (nI n) μ1 = fX9_take_98 FF FF (nI s) (nI t) (nI n) 0 μ1 := by
      have := m_take_n (μ := μ1) (N := N) hs ht n1 hS (by rw [k1 94 (by omega)]; exact h94)
      rw [k1 90 (by omega), k1 91 (by omega), if_neg r1, if_pos r2, ← a2, a5, iflt (by omega) (by omega), if_neg q3, ← b2, b5, ifle (by omega) (by omega), if_pos (by omega)] at this
      exact this
    rw [g]
    rcases hS3 μ1 with ⟨-, w2⟩ | ⟨⟨j, -, j2, j3⟩, -⟩
    · rw [show (0 : Int32) = nI 0 from rfl, w2, m1, cav_n]
      exact lm
    · refine absurd ?_ j3
      rw [k1 92 (by omega), ← es j j2, ← et j j2]
      exact ⟨p1 j (by omega) j2, p3 j (by omega) j2⟩
