/-! what was kept comes back -/
variable {wq : Prop}
theorem op_undo : Op wq (fX8_undo FF) (fX9_undo FF) := by
  intro μ hI
  obtain ⟨nx, K, h1, h2, h3, h4, h5, h6⟩ := hI.2.2.1
  unfold fX8_undo fX9_undo
  by_cases hK : K = 0
  · subst hK
    exact ⟨_, _, _, by rw [h4, if_pos (show nI 0 = 0 from rfl)], by rw [h5, if_pos (show nI 0 = 0 from rfl)], hI⟩
  have hK0 : ¬ nI K = 0 := fun q => hK (nI_inj (b := 0) (by omega) (by omega) q)
  obtain ⟨N, hR⟩ := h6 0 (by omega)
  rw [Nat.sub_zero, Nat.sub_zero] at hR
  obtain ⟨p, hp⟩ : ∃ p, p = (nx + 4) % 5 := ⟨_, rfl⟩
  rw [← hp] at hR
  have hp5 : p < 5 := by omega
  obtain ⟨q1, q2⟩ := slotLv hp5
  obtain ⟨m0, hm0⟩ : ∃ m0, m0 = upM μ 16 (upd (upd (μ 16) 1 (nI p)) 2 (nI (K - 1))) := ⟨_, rfl⟩
  have hs : m0 (18 + 7 * p) 6 = nI N := by rw [hm0, upM_ne (by omega)]; exact hR.2.1
  obtain ⟨mc, f1, f2, f3, f4⟩ := c_become (μ := m0) isLv_9 q1 (by omega) hs hR.1
  have e0 : ∀ k, k ≠ 16 → m0 k = μ k := fun k hk => by rw [hm0, upM_ne hk]
  have gb : fX2_giveBack FF μ = some mc := by
    have step : fX2_giveBack_18 FF (nI p) μ = some mc := by
      unfold fX2_giveBack_18
      rw [st_n, st_n, upM_upM]
      simp only [upM_self]
      rw [show upd (μ 16) 1 (nI p) 2 - 1 = nI (K - 1) from by rw [upd_ne (by decide), h4, show (1 : Int32) = nI 1 from rfl, nI_sub (by omega)], show upd (upd (μ 16) 1 (nI p)) 2 (nI (K - 1)) 1 = nI p from by rw [upd_ne (by decide), upd_s], rr_n (by show p < 5; omega), q2, ← hm0, f1, cav_n]
    unfold fX2_giveBack
    rw [h3, show (0 : Int32) = nI 0 from rfl, ifle (by omega) (by omega)]
    by_cases hz : nx ≤ 0
    · rw [if_pos hz, show (4 : Int32) = nI 4 from rfl, show 4 = p by omega]
      exact step
    · rw [if_neg hz, show (1 : Int32) = nI 1 from rfl, nI_sub (by omega), show nx - 1 = p by omega]
      exact step
  have k1 : ∀ k, k ≠ 16 → (k < 9 ∨ 15 ≤ k) → mc k = μ k := fun k q3 q4 => by rw [f2 k (by omega), e0 k q3]
  obtain ⟨μ1, hμ1⟩ : ∃ μ1, μ1 = upM mc 53 (upd (mc 53) 2 0) := ⟨_, rfl⟩
  have k2 : ∀ k, k ≠ 53 → μ1 k = mc k := fun k hk => by rw [hμ1, upM_ne hk]
  have k3 : ∀ k, 54 ≤ k → μ1 k = μ k := fun k hk => by rw [k2 k (by omega), k1 k (by omega) (by omega)]
  obtain ⟨mm, g1, g2, g3, g4, g5⟩ := m_copyAll (a := K) (b := 0) (N := N) (μ := μ1) (by omega) (by omega) hK hR.1 (by rw [k3 94 (by omega)]; exact hR.2.2.1)
  obtain ⟨μ2, hμ2⟩ : ∃ μ2, μ2 = upM mm 89 (upd (upd (mm 89) 11 (nI (K - 1))) 15 0) := ⟨_, rfl⟩
  have hin : ∀ k, (k < 94 ∨ 100 ≤ k) → k ∉ [94, 95, 96, 97, 98, 99] := fun k hk => by
    simp only [List.mem_cons, List.not_mem_nil, or_false, not_or]
    omega
  have k4 : ∀ k, k ≠ 89 → (k < 94 ∨ 100 ≤ k) → μ2 k = μ1 k := fun k q3 q4 => by rw [hμ2, upM_ne q3, g2.1 k q3 (hin k q4)]
  have k5 : ∀ j, mm 89 j = μ 89 j := fun j => by rw [g2.2 j (by simp), k3 89 (by omega)]
  have em : ∀ k, MT μ2 k = MT mm k := fun k => by rw [hμ2]; rfl
  have e1 : ∀ k, MT μ1 k = MT μ k := fun k => by
    unfold MT
    rw [k3 94 (by omega), k3 95 (by omega), k3 96 (by omega), k3 97 (by omega), k3 98 (by omega), k3 99 (by omega)]
  have cs : ∀ j, CS μ2 (j % 5) = CS μ (j % 5) := fun j => by
    have hj : j % 5 < 5 := Nat.mod_lt _ (by decide)
    have t : ∀ k, 18 ≤ k → k < 53 → μ2 k = μ k := fun k q3 q4 => by rw [k4 k (by omega) (by omega), k2 k (by omega), k1 k (by omega) (by omega)]
    unfold CS
    rw [t _ (by omega) (by omega), t _ (by omega) (by omega), t _ (by omega) (by omega), t _ (by omega) (by omega), t _ (by omega) (by omega), t _ (by omega) (by omega)]
  have r16 : ∀ j, μ2 16 j = m0 16 j := fun j => by rw [k4 16 (by omega) (by omega), k2 16 (by omega), f2 16 (by omega)]
  refine ⟨nI (K - 1), μ1, μ2, ?_, ?_, Inv.alt (N := N) hI (fun k q3 q4 q5 => ?_) (fun j q3 q4 => ?_) ?_ ?_ ?_⟩
  · rw [h4, if_neg hK0, gb, cav_n, st_n, ← hμ1]
    rw [k2 16 (by omega), f2 16 (by omega), hm0, upM_self, upd_s]
  · rw [show μ1 89 11 = nI K from by rw [k3 89 (by omega)]; exact h5, if_neg hK0, show (0 : Int32) = nI 0 from rfl, g1, cav_n, st_n, st_n, upM_upM]
    simp only [upM_self]
    rw [show mm 89 11 - 1 = nI (K - 1) from by rw [k5, h5, show (1 : Int32) = nI 1 from rfl, nI_sub (by omega)], show nI 0 = (0 : Int32) from rfl, ← hμ2, upd_ne (by decide), upd_s]
  · rw [k4 k q5 q4]
    rw [k2 k (by omega), k1 k (by omega) (by omega)]
  · rw [hμ2, upM_self, upd_ne q4, upd_ne q3, k5]
  · refine hR.congr ?_ ?_ (fun i hi => ?_) ?_
    · show μ2 9 6 = _
      rw [k4 9 (by omega) (by omega), k2 9 (by omega), f3]
      exact hR.2.1.symm
    · rw [em]; exact g3.trans hR.2.2.1.symm
    · have t : ∀ c, c < 5 → μ2 (10 + c) i = μ (19 + c + 7 * p) i := fun c hc => by
        rw [k4 _ (by omega) (by omega), k2 _ (by omega), show 10 + c = 9 + 1 + c by omega, f4 c hc i hi, e0 _ (by omega), show 18 + 7 * p + 1 + c = 19 + c + 7 * p by omega]
      exact ⟨t 0 (by omega), t 1 (by omega), t 2 (by omega), t 3 (by omega), t 4 (by omega)⟩
    · rw [em, ← e1]; exact g4
  · refine ⟨p, K - 1, hp5, by omega, ?_, ?_, ?_, fun j hj => ?_⟩
    · rw [r16, hm0, upM_self, upd_ne (by decide), upd_s]
    · rw [r16, hm0, upM_self, upd_s]
    · rw [hμ2, upM_self, upd_ne (by decide), upd_s]
    · rw [cs, em, show (p + 4 - j) % 5 = (nx + 4 - (j + 1)) % 5 by omega, show K - 1 - j = K - (j + 1) by omega]
      obtain ⟨n, hn⟩ := h6 (j + 1) (by omega)
      have w := g5 (K - (j + 1)) (by omega)
      refine ⟨n, hn.congr rfl ?_ (fun _ _ => ⟨rfl, rfl, rfl, rfl, rfl⟩) ?_⟩
      · rw [w.1, e1]
      · rw [← e1]; exact w.2.less hn.1
  · have w : ∀ k, 54 ≤ k → k ≠ 89 → (k < 94 ∨ 100 ≤ k) → μ2 k = μ k := fun k q3 q4 q5 => by rw [k4 k q4 q5, k3 k q3]
    have e53 : μ2 53 = upd (μ 53) 2 0 := by rw [k4 53 (by omega) (by omega), hμ1, upM_self, k1 53 (by omega) (by omega)]
    refine hI.2.2.2.1.stale (w 54 (by omega) (by omega) (by omega)) (w 100 (by omega) (by omega) (by omega)) (by rw [e53, upd_ne (by decide)]) (by rw [e53, upd_s]) ?_ ?_ ?_
    · rw [hμ2, upM_self, upd_ne (by decide), upd_ne (by decide), k5]
    · rw [hμ2, upM_self, upd_ne (by decide), upd_ne (by decide), k5]
    · rw [hμ2, upM_self, upd_s]
