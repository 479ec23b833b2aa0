/-! the step, on both sides -/
theorem idx_neg : nI 0 + (-1) < (0 : Int32) := by decide
theorem c_fj {F N i : Nat} {μ : Mem} {r : Nat → Int32} (hN : N ≤ 8) (h1 : μ 71 1 = nI N) (hi : i + 1 < N) : ∀ (j n : Nat), i < j → j < N → j < n → fX6_step_47 F n (nI i) (nI j) (upM μ 72 r) = fX6_step_75 F (nI i) (nI (fj r i j)) (upM μ 72 r) := by
  intro j
  induction j with
  | zero => intro n a; omega
  | succ j ih =>
    intro n a b c
    obtain ⟨n, rfl⟩ : ∃ n', n = n' + 1 := ⟨n - 1, by omega⟩
    show fX6_step_47_b F _ _ _ _ = _
    unfold fX6_step_47_b fj
    rw [nI_add1, ifle (by omega) (by omega), rd_n (by show j + 1 < 8; omega), rd_n (by show i < 8; omega), upM_self]
    by_cases q : j + 1 ≤ i + 1
    · rw [if_pos q, if_pos (Or.inl q)]
    · rw [if_neg q]
      by_cases q2 : r i ≤ r (j + 1)
      · rw [if_pos q2, if_pos (Or.inr q2)]
      · rw [if_neg q2, if_neg (fun w => w.elim q q2), nI_addm1]
        exact ih n (by omega) (by omega) (by omega)
theorem m_fj {F N i : Nat} {μ : Mem} {r : Nat → Int32} (hN : N ≤ 8) (hi : i + 1 < N) (hr : r i ≤ r (i + 1)) : ∀ (j n : Nat), i < j → j < N → j < n → fX9_nextRow_48 F n (nI N) (nI i) (nI j) (upM μ 105 r) = fX9_nextRow_107 F F (nI (i + 1)) (nI (N - 1)) (upM μ 105 (swp r i (fj r i j))) := by
  intro j
  induction j with
  | zero => intro n a; omega
  | succ j ih =>
    intro n a b c
    obtain ⟨n, rfl⟩ : ∃ n', n = n' + 1 := ⟨n - 1, by omega⟩
    have e1 : nI N - 1 = nI (N - 1) := by rw [show (1 : Int32) = nI 1 from rfl, nI_sub (by omega)]
    show fX9_nextRow_48_b F _ _ _ _ _ = _
    unfold fX9_nextRow_48_b fj
    have l1 : j + 1 < ln 105 := by show j + 1 < 40; omega
    have l2 : i < ln 105 := by show i < 40; omega
    rw [rd_n l1, rd_n l2, upM_self]
    by_cases q2 : r i ≤ r (j + 1)
    · rw [if_pos q2, if_pos (Or.inr q2), rd_n l2, rd_n l1, wr_n l2, wr_n l1, upM_upM, upM_upM, nI_add1, e1]
      simp only [upM_self]
      rfl
    · have q : ¬ j + 1 ≤ i + 1 := fun w => q2 (by rw [show j = i by omega]; exact hr)
      rw [if_neg q2, if_neg (fun w => w.elim q q2), nI_addm1]
      exact ih n (by omega) (by omega) (by omega)
