/-! the step, whole -/
theorem m_fd {F N : Nat} {μ : Mem} {r : Nat → Int32} (hN : N ≤ 8) : ∀ (i n : Nat), i < N → i < n → fX9_nextRow_11 F n (nI N) (nI i + (-1)) (upM μ 105 r) = match fd r i with | none => some (0, upM μ 105 r) | some k => fX9_nextRow_48 F F (nI N) (nI k) (nI N - 1) (upM μ 105 r) := by
  intro i
  induction i with
  | zero =>
    intro n a b
    obtain ⟨n, rfl⟩ : ∃ n', n = n' + 1 := ⟨n - 1, by omega⟩
    show fX9_nextRow_11_b F _ _ _ _ = _
    unfold fX9_nextRow_11_b fX9_nextRow_38
    rw [if_pos idx_neg, if_neg (show ¬ (0 : Int32) ≤ nI 0 + (-1) by decide)]
    rfl
  | succ i ih =>
    intro n a b
    obtain ⟨n, rfl⟩ : ∃ n', n = n' + 1 := ⟨n - 1, by omega⟩
    show fX9_nextRow_11_b F _ _ _ _ = _
    unfold fX9_nextRow_11_b
    rw [nI_addm1, if_neg (nI_pos (by omega)), rd_n (by show i < 40; omega), nI_add1, rd_n (by show i + 1 < 40; omega), upM_self, ih n (by omega) (by omega)]
    unfold fd
    by_cases c : r i ≤ r (i + 1)
    · rw [if_pos c, if_pos c]
      unfold fX9_nextRow_38
      rw [if_pos (show (0 : Int32) ≤ nI i from nI_le (a := 0) (by omega) (by omega))]
    · rw [if_neg c, if_neg c]
      cases i <;> rfl
theorem nI_m2 {N : Nat} : nI (N + 1) - 2 = nI N + (-1) := by
  rw [show nI (N + 1) = nI N + 1 from (nI_add1 N).symm, Int32.sub_eq_add_neg, Int32.add_assoc]
  rfl
theorem c_step {N : Nat} {μ : Mem} {r : Nat → Int32} (h1 : 1 ≤ N) (hN : N ≤ 8) (h : μ 71 1 = nI N) : fX6_step FF (upM μ 72 r) = match nxR N r with | none => some (-1, upM μ 72 r) | some (i, r') => some (nI i, upM μ 72 r') := by
  obtain ⟨N, rfl⟩ : ∃ n', N = n' + 1 := ⟨N - 1, by omega⟩
  unfold fX6_step
  rw [upM_ne (by omega), h, nI_m2, c_fd hN N FF (by omega) (by rw [FF_e]; omega)]
  unfold nxR
  rw [show N + 1 - 1 = N from rfl]
  cases hf : fd r N with
  | none => rfl
  | some k =>
    have hk := fd_lt hf
    have hj := fj_b (r := r) (i := k) (j := N) (by omega)
    show fX6_step_34 FF (nI k) (upM μ 72 r) = some (nI k, upM μ 72 (rvs (N + 1) (k + 1) N (swp r k (fj r k N))))
    unfold fX6_step_34
    have e1 : nI (N + 1) - 1 = nI N := by rw [show (1 : Int32) = nI 1 from rfl, nI_sub (by omega)]; rfl
    rw [if_pos (show (0 : Int32) ≤ nI k from nI_le (a := 0) (by omega) (by omega)), upM_ne (by omega), h, e1, c_fj hN h (by omega) N FF (by omega) (by omega) (by rw [FF_e]; omega)]
    unfold fX6_step_75
    rw [c_exch (by show k < 8; omega) (by show fj r k N < 8; omega), cav_n, upM_upM, upM_self, upM_ne (by omega), h, e1, nI_add1, c_rvs 8 FF (k + 1) N _ (by omega) (by rw [FF_e]; omega) (by omega) (by omega), rvs_more (m := N) FF (N + 1) (k + 1) N _ (by omega) (by rw [FF_e]; omega) (by omega)]
theorem m_step {N : Nat} {μ : Mem} {r : Nat → Int32} (h1 : 1 ≤ N) (hN : N ≤ 8) (h : μ 94 0 = nI N) : fX9_nextRow FF (upM μ 105 r) = match nxR N r with | none => some (0, upM μ 105 r) | some (_, r') => some (1, upM μ 105 r') := by
  obtain ⟨N, rfl⟩ : ∃ n', N = n' + 1 := ⟨N - 1, by omega⟩
  unfold fX9_nextRow
  rw [show (0 : Int32) = nI 0 from rfl, rd_n (by decide), upM_ne (by omega), h, nI_m2, m_fd hN N FF (by omega) (by rw [FF_e]; omega)]
  unfold nxR
  rw [show N + 1 - 1 = N from rfl]
  cases hf : fd r N with
  | none => rfl
  | some k =>
    have hk := fd_lt hf
    have hj := fj_b (r := r) (i := k) (j := N) (by omega)
    have e1 : nI (N + 1) - 1 = nI N := by rw [show (1 : Int32) = nI 1 from rfl, nI_sub (by omega)]; rfl
    show fX9_nextRow_48 FF FF (nI (N + 1)) (nI k) (nI (N + 1) - 1) (upM μ 105 r) = some (1, upM μ 105 (rvs (N + 1) (k + 1) N (swp r k (fj r k N))))
    rw [e1, m_fj hN (by omega) hk.2 N FF (by omega) (by omega) (by rw [FF_e]; omega), show N + 1 - 1 = N from rfl, m_rvs 8 FF (k + 1) N _ (by omega) (by rw [FF_e]; omega) (by omega) (by omega), rvs_more (m := N) FF (N + 1) (k + 1) N _ (by omega) (by rw [FF_e]; omega) (by omega)]
theorem rvs_low : ∀ (n a b : Nat) (r : Nat → Int32) (p : Nat), p < a → rvs n a b r p = r p
  | 0, _, _, _, _, _ => rfl
  | n + 1, a, b, r, p, h => by
    unfold rvs
    by_cases c : b ≤ a
    · rw [if_pos c]
    · rw [if_neg c, rvs_low n _ _ _ p (by omega), swp_e, if_neg (by omega), if_neg (by omega)]
theorem rvs_high : ∀ (n a b : Nat) (r : Nat → Int32) (p : Nat), b < p → rvs n a b r p = r p
  | 0, _, _, _, _, _ => rfl
  | n + 1, a, b, r, p, h => by
    unfold rvs
    by_cases c : b ≤ a
    · rw [if_pos c]
    · rw [if_neg c, rvs_high n _ _ _ p (by omega), swp_e, if_neg (by omega), if_neg (by omega)]
theorem fj_le {r : Nat → Int32} {i : Nat} (h : r i ≤ r (i + 1)) : ∀ {j : Nat}, i < j → r i ≤ r (fj r i j)
  | 0, q => by omega
  | j + 1, q => by
    unfold fj
    by_cases c : j + 1 ≤ i + 1 ∨ r i ≤ r (j + 1)
    · rw [if_pos c]
      rcases c with c | c
      · rw [show j + 1 = i + 1 by omega]; exact h
      · exact c
    · rw [if_neg c]
      exact fj_le h (by omega)
theorem nxR_some {N i : Nat} {r r' : Nat → Int32} (e : nxR N r = some (i, r')) : i + 1 < N ∧ (∀ p, p < i → r' p = r p) ∧ (∀ p, N ≤ p → r' p = r p) ∧ ∃ j, i < j ∧ j < N ∧ r' i = r j ∧ r i ≤ r j := by
  unfold nxR at e
  cases hf : fd r (N - 1) with
  | none => rw [hf] at e; cases e
  | some k =>
    rw [hf] at e
    injection e with e
    injection e with e1 e2
    subst e1
    have h1 := fd_lt hf
    have h2 := fj_b (r := r) (i := k) (j := N - 1) (by omega)
    refine ⟨by omega, fun p hp => ?_, fun p hp => ?_, fj r k (N - 1), h2.1, by omega, ?_, fj_le h1.2 (by omega)⟩
    · rw [← e2, rvs_low _ _ _ _ _ (by omega), swp_e, if_neg (by omega), if_neg (by omega)]
    · rw [← e2, rvs_high _ _ _ _ _ (by omega), swp_e, if_neg (by omega), if_neg (by omega)]
    · rw [← e2, rvs_low _ _ _ _ _ (by omega), swp_e, if_neg (by omega), if_pos rfl]
