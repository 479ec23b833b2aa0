/-! one row behind the other -/
def fd (r : Nat → Int32) : Nat → Option Nat
  | 0 => none
  | i + 1 => if r i ≤ r (i + 1) then some i else fd r i
def fj (r : Nat → Int32) (i : Nat) : Nat → Nat
  | 0 => 0
  | j + 1 => if j + 1 ≤ i + 1 ∨ r i ≤ r (j + 1) then j + 1 else fj r i j
def rvs : Nat → Nat → Nat → (Nat → Int32) → Nat → Int32
  | 0, _, _, r => r
  | n + 1, a, b, r => if b ≤ a then r else rvs n (a + 1) (b - 1) (swp r a b)
def nxR (N : Nat) (r : Nat → Int32) : Option (Nat × (Nat → Int32)) :=
  match fd r (N - 1) with
  | none => none
  | some i => some (i, rvs N (i + 1) (N - 1) (swp r i (fj r i (N - 1))))
theorem fd_lt {r : Nat → Int32} : ∀ {n i : Nat}, fd r n = some i → i < n ∧ r i ≤ r (i + 1)
  | 0, i, h => by cases h
  | n + 1, i, h => by
    unfold fd at h
    by_cases c : r n ≤ r (n + 1)
    · rw [if_pos c] at h
      injection h with h
      subst h
      exact ⟨by omega, c⟩
    · rw [if_neg c] at h
      have := fd_lt h
      exact ⟨by omega, this.2⟩
theorem fj_b {r : Nat → Int32} {i : Nat} : ∀ {j : Nat}, i < j → i < fj r i j ∧ fj r i j ≤ j
  | 0, h => by omega
  | j + 1, h => by
    unfold fj
    by_cases c : j + 1 ≤ i + 1 ∨ r i ≤ r (j + 1)
    · rw [if_pos c]; omega
    · rw [if_neg c]
      have := fj_b (r := r) (i := i) (j := j) (by omega)
      omega
theorem rvs_perm {N : Nat} : ∀ (n a b : Nat) (r : Nat → Int32), b < N → PermF r N → PermF (rvs n a b r) N
  | 0, _, _, _, _, h => h
  | n + 1, a, b, r, hb, h => by
    unfold rvs
    by_cases c : b ≤ a
    · rw [if_pos c]; exact h
    · rw [if_neg c]
      exact rvs_perm n _ _ _ (by omega) (h.swp (by omega) hb)
theorem nxR_perm {N i : Nat} {r r' : Nat → Int32} (h : PermF r N) (e : nxR N r = some (i, r')) : PermF r' N ∧ i + 1 < N := by
  unfold nxR at e
  cases hf : fd r (N - 1) with
  | none => rw [hf] at e; cases e
  | some k =>
    rw [hf] at e
    injection e with e
    injection e with e1 e2
    subst e1
    have h1 := fd_lt hf
    have h2 := fj_b (r := r) (i := k) (j := N - 1) (by omega)
    rw [← e2]
    exact ⟨rvs_perm N _ _ _ (by omega) (h.swp (by omega) (by omega)), by omega⟩
theorem c_rvs {F : Nat} {y1 : Int32} {μ : Mem} : ∀ (m n a b : Nat) (r : Nat → Int32), b ≤ a + m → m < n → b < 8 → a ≤ 8 → fX6_step_96 F n y1 (nI a) (nI b) (upM μ 72 r) = some (y1, upM μ 72 (rvs n a b r)) := by
  intro m
  induction m with
  | zero =>
    intro n a b r h1 h2 h3 h4
    obtain ⟨n, rfl⟩ : ∃ n', n = n' + 1 := ⟨n - 1, by omega⟩
    show fX6_step_96_b F _ _ _ _ _ = _
    unfold fX6_step_96_b rvs
    rw [if_pos (nI_le (by omega) (by omega)), if_pos (by omega)]
  | succ m ih =>
    intro n a b r h1 h2 h3 h4
    obtain ⟨n, rfl⟩ : ∃ n', n = n' + 1 := ⟨n - 1, by omega⟩
    show fX6_step_96_b F _ _ _ _ _ = _
    unfold fX6_step_96_b rvs
    by_cases c : b ≤ a
    · rw [if_pos (nI_le (by omega) (by omega)), if_pos c]
    · have eb : nI b + (-1) = nI (b - 1) := by
        have := nI_addm1 (b - 1)
        rw [show b - 1 + 1 = b by omega] at this
        exact this
      rw [if_neg (nI_ge (by omega) (by omega)), if_neg c, c_exch (by show a < 8; omega) (by show b < 8; omega), cav_n, upM_upM, upM_self, nI_add1, eb]
      exact ih n (a + 1) (b - 1) _ (by omega) (by omega) (by omega) (by omega)
/-- more turns than needed change nothing -/
theorem rvs_more {m : Nat} : ∀ (n n' a b : Nat) (r : Nat → Int32), b ≤ a + m → m < n → m < n' → rvs n a b r = rvs n' a b r := by
  induction m with
  | zero =>
    intro n n' a b r h1 h2 h3
    obtain ⟨n, rfl⟩ : ∃ q, n = q + 1 := ⟨n - 1, by omega⟩
    obtain ⟨n', rfl⟩ : ∃ q, n' = q + 1 := ⟨n' - 1, by omega⟩
    unfold rvs
    rw [if_pos (by omega), if_pos (by omega)]
  | succ m ih =>
    intro n n' a b r h1 h2 h3
    obtain ⟨n, rfl⟩ : ∃ q, n = q + 1 := ⟨n - 1, by omega⟩
    obtain ⟨n', rfl⟩ : ∃ q, n' = q + 1 := ⟨n' - 1, by omega⟩
    unfold rvs
    by_cases c : b ≤ a
    · rw [if_pos c, if_pos c]
    · rw [if_neg c, if_neg c]
      exact ih n n' (a + 1) (b - 1) _ (by omega) (by omega) (by omega)
theorem m_rvs {F : Nat} {μ : Mem} : ∀ (m n a b : Nat) (r : Nat → Int32), b ≤ a + m → m < n → b < 8 → a ≤ 8 → fX9_nextRow_107 F n (nI a) (nI b) (upM μ 105 r) = some (1, upM μ 105 (rvs n a b r)) := by
  intro m
  induction m with
  | zero =>
    intro n a b r h1 h2 h3 h4
    obtain ⟨n, rfl⟩ : ∃ n', n = n' + 1 := ⟨n - 1, by omega⟩
    show fX9_nextRow_107_b F _ _ _ _ = _
    unfold fX9_nextRow_107_b rvs
    rw [if_pos (nI_le (by omega) (by omega)), if_pos (by omega), zr_1]
  | succ m ih =>
    intro n a b r h1 h2 h3 h4
    obtain ⟨n, rfl⟩ : ∃ n', n = n' + 1 := ⟨n - 1, by omega⟩
    show fX9_nextRow_107_b F _ _ _ _ = _
    unfold fX9_nextRow_107_b rvs
    by_cases c : b ≤ a
    · rw [if_pos (nI_le (by omega) (by omega)), if_pos c, zr_1]
    · have eb : nI b + (-1) = nI (b - 1) := by
        have := nI_addm1 (b - 1)
        rw [show b - 1 + 1 = b by omega] at this
        exact this
      rw [if_neg (nI_ge (by omega) (by omega)), if_neg c, rd_n (by show a < 40; omega), rd_n (by show b < 40; omega), wr_n (by show a < 40; omega), wr_n (by show b < 40; omega), upM_upM, upM_upM, nI_add1, eb]
      simp only [upM_self]
      exact ih n (a + 1) (b - 1) _ (by omega) (by omega) (by omega) (by omega)
