theorem c_fd {F N : Nat} {μ : Mem} {r : Nat → Int32} (hN : N ≤ 8) : ∀ (i n : Nat), i < N → i < n → fX6_step_7 F n (nI i + (-1)) (upM μ 72 r) = match fd r i with | none => some (-1, upM μ 72 r) | some k => fX6_step_34 F (nI k) (upM μ 72 r) := by
  intro i
  induction i with
  | zero =>
    intro n a b
    obtain ⟨n, rfl⟩ : ∃ n', n = n' + 1 := ⟨n - 1, by omega⟩
    show fX6_step_7_b F _ _ _ = _
    unfold fX6_step_7_b fX6_step_34
    rw [if_pos idx_neg, if_neg (show ¬ (0 : Int32) ≤ nI 0 + (-1) by decide)]
    rfl
  | succ i ih =>
    intro n a b
    obtain ⟨n, rfl⟩ : ∃ n', n = n' + 1 := ⟨n - 1, by omega⟩
    show fX6_step_7_b F _ _ _ = _
    unfold fX6_step_7_b
    rw [nI_addm1, if_neg (nI_pos (by omega)), rd_n (by show i < 8; omega), nI_add1, rd_n (by show i + 1 < 8; omega), upM_self, ih n (by omega) (by omega)]
    unfold fd
    by_cases c : r i ≤ r (i + 1)
    · rw [if_pos c, if_pos c]
    · rw [if_neg c, if_neg c]
      cases i <;> rfl
