section
/-! one row behind the other -/
def fd (r : Nat → Int32) : Nat → Option Nat
  | 0 => none
  | i + 1 => if r i ≤ r (i + 1) then some i else fd r i
def fj (r : Nat → Int32) (i : Nat) : Nat → Nat
  | 0 => 0
  | j + 1 => if j + 1 ≤ i + 1 ∨ r i ≤ r (j + 1) then j + 1 else fj r i j
def rvs : Nat → Nat → Nat → (Nat → Int32) → Nat → Int32
  | 0, _, _, r => r
  | n + 1, a, b, r => if b ≤ a then r else rvs n (a + 1) (b - 1) (swp r a b)
def nxR (N : Nat) (r : Nat → Int32) : Option (Nat × (Nat → Int32)) :=
  match fd r (N - 1) with
  | none => none
  | some i => some (i, rvs N (i + 1) (N - 1) (swp r i (fj r i (N - 1))))
theorem fd_lt {r : Nat → Int32} : ∀ {n i : Nat}, fd r n = some i → i < n ∧ r i ≤ r (i + 1)
  | 0, i, h => by cases h
  | n + 1, i, h => by
    unfold fd at h
    by_cases c : r n ≤ r (n + 1)
    · rw [if_pos c] at h
      injection h with h
      subst h
      exact ⟨by omega, c⟩
    · rw [if_neg c] at h
      have := fd_lt h
      exact ⟨by omega, this.2⟩
theorem fj_b {r : Nat → Int32} {i : Nat} : ∀ {j : Nat}, i < j → i < fj r i j ∧ fj r i j ≤ j
  | 0, h => by omega
  | j + 1, h => by
    unfold fj
    by_cases c : j + 1 ≤ i + 1 ∨ r i ≤ r (j + 1)
    · rw [if_pos c]; omega
    · rw [if_neg c]
      have := fj_b (r := r) (i := i) (j := j) (by omega)
      omega
theorem rvs_perm {N : Nat} : ∀ (n a b : Nat) (r : Nat → Int32), b < N → PermF r N → PermF (rvs n a b r) N
  | 0, _, _, _, _, h => h
  | n + 1, a, b, r, hb, h => by
    unfold rvs
    by_cases c : b ≤ a
    · rw [if_pos c]; exact h
    · rw [if_neg c]
      exact rvs_perm n _ _ _ (by omega) (h.swp (by omega) hb)
theorem nxR_perm {N i : Nat} {r r' : Nat → Int32} (h : PermF r N) (e : nxR N r = some (i, r')) : PermF r' N ∧ i + 1 < N := by
  unfold nxR at e
  cases hf : fd r (N - 1) with
  | none => rw [hf] at e; cases e
  | some k =>
    rw [hf] at e
    injection e with e
    injection e with e1 e2
    subst e1
    have h1 := fd_lt hf
    have h2 := fj_b (r := r) (i := k) (j := N - 1) (by omega)
    rw [← e2]
    exact ⟨rvs_perm N _ _ _ (by omega) (h.swp (by omega) (by omega)), by omega⟩
theorem c_rvs {F : Nat} {y1 : Int32} {μ : Mem} : ∀ (m n a b : Nat) (r : Nat → Int32), b ≤ a + m → m < n → b < 8 → a ≤ 8 → fX6_step_96 F n y1 (nI a) (nI b) (upM μ 72 r) = some (y1, upM μ 72 (rvs n a b r)) := by
  intro m
  induction m with
  | zero =>
    intro n a b r h1 h2 h3 h4
    obtain ⟨n, rfl⟩ : ∃ n', n = n' + 1 := ⟨n - 1, by omega⟩
    show fX6_step_96_b F _ _ _ _ _ = _
    unfold fX6_step_96_b rvs
    rw [if_pos (nI_le (by omega) (by omega)), if_pos (by omega)]
  | succ m ih =>
    intro n a b r h1 h2 h3 h4
    obtain ⟨n, rfl⟩ : ∃ n', n = n' + 1 := ⟨n - 1, by omega⟩
    show fX6_step_96_b F _ _ _ _ _ = _
    unfold fX6_step_96_b rvs
    by_cases c : b ≤ a
    · rw [if_pos (nI_le (by omega) (by omega)), if_pos c]
    · have eb : nI b + (-1) = nI (b - 1) := by
        have := nI_addm1 (b - 1)
        rw [show b - 1 + 1 = b by omega] at this
        exact this
      rw [if_neg (nI_ge (by omega) (by omega)), if_neg c, c_exch (by show a < 8; omega) (by show b < 8; omega), cav_n, upM_upM, upM_self, nI_add1, eb]
      exact ih n (a + 1) (b - 1) _ (by omega) (by omega) (by omega) (by omega)
/-- more turns than needed change nothing -/
theorem rvs_more {m : Nat} : ∀ (n n' a b : Nat) (r : Nat → Int32), b ≤ a + m → m < n → m < n' → rvs n a b r = rvs n' a b r := by
  induction m with
  | zero =>
    intro n n' a b r h1 h2 h3
    obtain ⟨n, rfl⟩ : ∃ q, n = q + 1 := ⟨n - 1, by omega⟩
    obtain ⟨n', rfl⟩ : ∃ q, n' = q + 1 := ⟨n' - 1, by omega⟩
    unfold rvs
    rw [if_pos (by omega), if_pos (by omega)]
  | succ m ih =>
    intro n n' a b r h1 h2 h3
    obtain ⟨n, rfl⟩ : ∃ q, n = q + 1 := ⟨n - 1, by omega⟩
    obtain ⟨n', rfl⟩ : ∃ q, n' = q + 1 := ⟨n' - 1, by omega⟩
    unfold rvs
    by_cases c : b ≤ a
    · rw [if_pos c, if_pos c]
    · rw [if_neg c, if_neg c]
      exact ih n n' (a + 1) (b - 1) _ (by omega) (by omega) (by omega)
theorem m_rvs {F : Nat} {μ : Mem} : ∀ (m n a b : Nat) (r : Nat → Int32), b ≤ a + m → m < n → b < 8 → a ≤ 8 → fX9_nextRow_107 F n (nI a) (nI b) (upM μ 105 r) = some (1, upM μ 105 (rvs n a b r)) := by
  intro m
  induction m with
  | zero =>
    intro n a b r h1 h2 h3 h4
    obtain ⟨n, rfl⟩ : ∃ n', n = n' + 1 := ⟨n - 1, by omega⟩
    show fX9_nextRow_107_b F _ _ _ _ = _
    unfold fX9_nextRow_107_b rvs
    rw [if_pos (nI_le (by omega) (by omega)), if_pos (by omega), zr_1]
  | succ m ih =>
    intro n a b r h1 h2 h3 h4
    obtain ⟨n, rfl⟩ : ∃ n', n = n' + 1 := ⟨n - 1, by omega⟩
    show fX9_nextRow_107_b F _ _ _ _ = _
    unfold fX9_nextRow_107_b rvs
    by_cases c : b ≤ a
    · rw [if_pos (nI_le (by omega) (by omega)), if_pos c, zr_1]
    · have eb : nI b + (-1) = nI (b - 1) := by
        have := nI_addm1 (b - 1)
        rw [show b - 1 + 1 = b by omega] at this
        exact this
      rw [if_neg (nI_ge (by omega) (by omega)), if_neg c, rd_n (by show a < 40; omega), rd_n (by show b < 40; omega), wr_n (by show a < 40; omega), wr_n (by show b < 40; omega), upM_upM, upM_upM, nI_add1, eb]
      simp only [upM_self]
      exact ih n (a + 1) (b - 1) _ (by omega) (by omega) (by omega) (by omega)
end
section
/-! the step, on both sides -/
theorem idx_neg : nI 0 + (-1) < (0 : Int32) := by decide
theorem c_fj {F N i : Nat} {μ : Mem} {r : Nat → Int32} (hN : N ≤ 8) (h1 : μ 71 1 = nI N) (hi : i + 1 < N) : ∀ (j n : Nat), i < j → j < N → j < n → fX6_step_47 F n (nI i) (nI j) (upM μ 72 r) = fX6_step_75 F (nI i) (nI (fj r i j)) (upM μ 72 r) := by
  intro j
  induction j with
  | zero => intro n a; omega
  | succ j ih =>
    intro n a b c
    obtain ⟨n, rfl⟩ : ∃ n', n = n' + 1 := ⟨n - 1, by omega⟩
    show fX6_step_47_b F _ _ _ _ = _
    unfold fX6_step_47_b fj
    rw [nI_add1, ifle (by omega) (by omega), rd_n (by show j + 1 < 8; omega), rd_n (by show i < 8; omega), upM_self]
    by_cases q : j + 1 ≤ i + 1
    · rw [if_pos q, if_pos (Or.inl q)]
    · rw [if_neg q]
      by_cases q2 : r i ≤ r (j + 1)
      · rw [if_pos q2, if_pos (Or.inr q2)]
      · rw [if_neg q2, if_neg (fun w => w.elim q q2), nI_addm1]
        exact ih n (by omega) (by omega) (by omega)
theorem m_fj {F N i : Nat} {μ : Mem} {r : Nat → Int32} (hN : N ≤ 8) (hi : i + 1 < N) (hr : r i ≤ r (i + 1)) : ∀ (j n : Nat), i < j → j < N → j < n → fX9_nextRow_48 F n (nI N) (nI i) (nI j) (upM μ 105 r) = fX9_nextRow_107 F F (nI (i + 1)) (nI (N - 1)) (upM μ 105 (swp r i (fj r i j))) := by
  intro j
  induction j with
  | zero => intro n a; omega
  | succ j ih =>
    intro n a b c
    obtain ⟨n, rfl⟩ : ∃ n', n = n' + 1 := ⟨n - 1, by omega⟩
    have e1 : nI N - 1 = nI (N - 1) := by rw [show (1 : Int32) = nI 1 from rfl, nI_sub (by omega)]
    show fX9_nextRow_48_b F _ _ _ _ _ = _
    unfold fX9_nextRow_48_b fj
    have l1 : j + 1 < ln 105 := by show j + 1 < 40; omega
    have l2 : i < ln 105 := by show i < 40; omega
    rw [rd_n l1, rd_n l2, upM_self]
    by_cases q2 : r i ≤ r (j + 1)
    · rw [if_pos q2, if_pos (Or.inr q2), rd_n l2, rd_n l1, wr_n l2, wr_n l1, upM_upM, upM_upM, nI_add1, e1]
      simp only [upM_self]
      rfl
    · have q : ¬ j + 1 ≤ i + 1 := fun w => q2 (by rw [show j = i by omega]; exact hr)
      rw [if_neg q2, if_neg (fun w => w.elim q q2), nI_addm1]
      exact ih n (by omega) (by omega) (by omega)
end
section
theorem c_fd {F N : Nat} {μ : Mem} {r : Nat → Int32} (hN : N ≤ 8) : ∀ (i n : Nat), i < N → i < n → fX6_step_7 F n (nI i + (-1)) (upM μ 72 r) = match fd r i with | none => some (-1, upM μ 72 r) | some k => fX6_step_34 F (nI k) (upM μ 72 r) := by
  intro i
  induction i with
  | zero =>
    intro n a b
    obtain ⟨n, rfl⟩ : ∃ n', n = n' + 1 := ⟨n - 1, by omega⟩
    show fX6_step_7_b F _ _ _ = _
    unfold fX6_step_7_b fX6_step_34
    rw [if_pos idx_neg, if_neg (show ¬ (0 : Int32) ≤ nI 0 + (-1) by decide)]
    rfl
  | succ i ih =>
    intro n a b
    obtain ⟨n, rfl⟩ : ∃ n', n = n' + 1 := ⟨n - 1, by omega⟩
    show fX6_step_7_b F _ _ _ = _
    unfold fX6_step_7_b
    rw [nI_addm1, if_neg (nI_pos (by omega)), rd_n (by show i < 8; omega), nI_add1, rd_n (by show i + 1 < 8; omega), upM_self, ih n (by omega) (by omega)]
    unfold fd
    by_cases c : r i ≤ r (i + 1)
    · rw [if_pos c, if_pos c]
    · rw [if_neg c, if_neg c]
      cases i <;> rfl
end
section
/-! the step, whole -/
theorem m_fd {F N : Nat} {μ : Mem} {r : Nat → Int32} (hN : N ≤ 8) : ∀ (i n : Nat), i < N → i < n → fX9_nextRow_11 F n (nI N) (nI i + (-1)) (upM μ 105 r) = match fd r i with | none => some (0, upM μ 105 r) | some k => fX9_nextRow_48 F F (nI N) (nI k) (nI N - 1) (upM μ 105 r) := by
  intro i
  induction i with
  | zero =>
    intro n a b
    obtain ⟨n, rfl⟩ : ∃ n', n = n' + 1 := ⟨n - 1, by omega⟩
    show fX9_nextRow_11_b F _ _ _ _ = _
    unfold fX9_nextRow_11_b fX9_nextRow_38
    rw [if_pos idx_neg, if_neg (show ¬ (0 : Int32) ≤ nI 0 + (-1) by decide)]
    rfl
  | succ i ih =>
    intro n a b
    obtain ⟨n, rfl⟩ : ∃ n', n = n' + 1 := ⟨n - 1, by omega⟩
    show fX9_nextRow_11_b F _ _ _ _ = _
    unfold fX9_nextRow_11_b
    rw [nI_addm1, if_neg (nI_pos (by omega)), rd_n (by show i < 40; omega), nI_add1, rd_n (by show i + 1 < 40; omega), upM_self, ih n (by omega) (by omega)]
    unfold fd
    by_cases c : r i ≤ r (i + 1)
    · rw [if_pos c, if_pos c]
      unfold fX9_nextRow_38
      rw [if_pos (show (0 : Int32) ≤ nI i from nI_le (a := 0) (by omega) (by omega))]
    · rw [if_neg c, if_neg c]
      cases i <;> rfl
theorem nI_m2 {N : Nat} : nI (N + 1) - 2 = nI N + (-1) := by
  rw [show nI (N + 1) = nI N + 1 from (nI_add1 N).symm, Int32.sub_eq_add_neg, Int32.add_assoc]
  rfl
theorem c_step {N : Nat} {μ : Mem} {r : Nat → Int32} (h1 : 1 ≤ N) (hN : N ≤ 8) (h : μ 71 1 = nI N) : fX6_step FF (upM μ 72 r) = match nxR N r with | none => some (-1, upM μ 72 r) | some (i, r') => some (nI i, upM μ 72 r') := by
  obtain ⟨N, rfl⟩ : ∃ n', N = n' + 1 := ⟨N - 1, by omega⟩
  unfold fX6_step
  rw [upM_ne (by omega), h, nI_m2, c_fd hN N FF (by omega) (by rw [FF_e]; omega)]
  unfold nxR
  rw [show N + 1 - 1 = N from rfl]
  cases hf : fd r N with
  | none => rfl
  | some k =>
    have hk := fd_lt hf
    have hj := fj_b (r := r) (i := k) (j := N) (by omega)
    show fX6_step_34 FF (nI k) (upM μ 72 r) = some (nI k, upM μ 72 (rvs (N + 1) (k + 1) N (swp r k (fj r k N))))
    unfold fX6_step_34
    have e1 : nI (N + 1) - 1 = nI N := by rw [show (1 : Int32) = nI 1 from rfl, nI_sub (by omega)]; rfl
    rw [if_pos (show (0 : Int32) ≤ nI k from nI_le (a := 0) (by omega) (by omega)), upM_ne (by omega), h, e1, c_fj hN h (by omega) N FF (by omega) (by omega) (by rw [FF_e]; omega)]
    unfold fX6_step_75
    rw [c_exch (by show k < 8; omega) (by show fj r k N < 8; omega), cav_n, upM_upM, upM_self, upM_ne (by omega), h, e1, nI_add1, c_rvs 8 FF (k + 1) N _ (by omega) (by rw [FF_e]; omega) (by omega) (by omega), rvs_more (m := N) FF (N + 1) (k + 1) N _ (by omega) (by rw [FF_e]; omega) (by omega)]
theorem m_step {N : Nat} {μ : Mem} {r : Nat → Int32} (h1 : 1 ≤ N) (hN : N ≤ 8) (h : μ 94 0 = nI N) : fX9_nextRow FF (upM μ 105 r) = match nxR N r with | none => some (0, upM μ 105 r) | some (_, r') => some (1, upM μ 105 r') := by
  obtain ⟨N, rfl⟩ : ∃ n', N = n' + 1 := ⟨N - 1, by omega⟩
  unfold fX9_nextRow
  rw [show (0 : Int32) = nI 0 from rfl, rd_n (by decide), upM_ne (by omega), h, nI_m2, m_fd hN N FF (by omega) (by rw [FF_e]; omega)]
  unfold nxR
  rw [show N + 1 - 1 = N from rfl]
  cases hf : fd r N with
  | none => rfl
  | some k =>
    have hk := fd_lt hf
    have hj := fj_b (r := r) (i := k) (j := N) (by omega)
    have e1 : nI (N + 1) - 1 = nI N := by rw [show (1 : Int32) = nI 1 from rfl, nI_sub (by omega)]; rfl
    show fX9_nextRow_48 FF FF (nI (N + 1)) (nI k) (nI (N + 1) - 1) (upM μ 105 r) = some (1, upM μ 105 (rvs (N + 1) (k + 1) N (swp r k (fj r k N))))
    rw [e1, m_fj hN (by omega) hk.2 N FF (by omega) (by omega) (by rw [FF_e]; omega), show N + 1 - 1 = N from rfl, m_rvs 8 FF (k + 1) N _ (by omega) (by rw [FF_e]; omega) (by omega) (by omega), rvs_more (m := N) FF (N + 1) (k + 1) N _ (by omega) (by rw [FF_e]; omega) (by omega)]
theorem rvs_low : ∀ (n a b : Nat) (r : Nat → Int32) (p : Nat), p < a → rvs n a b r p = r p
  | 0, _, _, _, _, _ => rfl
  | n + 1, a, b, r, p, h => by
    unfold rvs
    by_cases c : b ≤ a
    · rw [if_pos c]
    · rw [if_neg c, rvs_low n _ _ _ p (by omega), swp_e, if_neg (by omega), if_neg (by omega)]
theorem rvs_high : ∀ (n a b : Nat) (r : Nat → Int32) (p : Nat), b < p → rvs n a b r p = r p
  | 0, _, _, _, _, _ => rfl
  | n + 1, a, b, r, p, h => by
    unfold rvs
    by_cases c : b ≤ a
    · rw [if_pos c]
    · rw [if_neg c, rvs_high n _ _ _ p (by omega), swp_e, if_neg (by omega), if_neg (by omega)]
theorem fj_le {r : Nat → Int32} {i : Nat} (h : r i ≤ r (i + 1)) : ∀ {j : Nat}, i < j → r i ≤ r (fj r i j)
  | 0, q => by omega
  | j + 1, q => by
    unfold fj
    by_cases c : j + 1 ≤ i + 1 ∨ r i ≤ r (j + 1)
    · rw [if_pos c]
      rcases c with c | c
      · rw [show j + 1 = i + 1 by omega]; exact h
      · exact c
    · rw [if_neg c]
      exact fj_le h (by omega)
theorem nxR_some {N i : Nat} {r r' : Nat → Int32} (e : nxR N r = some (i, r')) : i + 1 < N ∧ (∀ p, p < i → r' p = r p) ∧ (∀ p, N ≤ p → r' p = r p) ∧ ∃ j, i < j ∧ j < N ∧ r' i = r j ∧ r i ≤ r j := by
  unfold nxR at e
  cases hf : fd r (N - 1) with
  | none => rw [hf] at e; cases e
  | some k =>
    rw [hf] at e
    injection e with e
    injection e with e1 e2
    subst e1
    have h1 := fd_lt hf
    have h2 := fj_b (r := r) (i := k) (j := N - 1) (by omega)
    refine ⟨by omega, fun p hp => ?_, fun p hp => ?_, fj r k (N - 1), h2.1, by omega, ?_, fj_le h1.2 (by omega)⟩
    · rw [← e2, rvs_low _ _ _ _ _ (by omega), swp_e, if_neg (by omega), if_neg (by omega)]
    · rw [← e2, rvs_high _ _ _ _ _ (by omega), swp_e, if_neg (by omega), if_neg (by omega)]
    · rw [← e2, rvs_low _ _ _ _ _ (by omega), swp_e, if_neg (by omega), if_pos rfl]
end
section
/-! the number of a row among all rows in order -/
def inp (ρ : Nat → Nat) : Nat → Nat → Prop
  | 0, _ => False
  | k + 1, v => ρ k = v ∨ inp ρ k v
noncomputable def nin (ρ : Nat → Nat) (k : Nat) : Nat → Nat
  | 0 => 0
  | m + 1 => nin ρ k m + @ite _ (inp ρ k m) (Classical.propDecidable _) 0 1
theorem nin_y {ρ : Nat → Nat} {k m : Nat} (h : inp ρ k m) : nin ρ k (m + 1) = nin ρ k m := by
  show nin ρ k m + @ite _ (inp ρ k m) (Classical.propDecidable _) 0 1 = _
  rw [if_pos h, Nat.add_zero]
theorem nin_n {ρ : Nat → Nat} {k m : Nat} (h : ¬ inp ρ k m) : nin ρ k (m + 1) = nin ρ k m + 1 := by
  show nin ρ k m + @ite _ (inp ρ k m) (Classical.propDecidable _) 0 1 = _
  rw [if_neg h]
theorem inp_iff {ρ : Nat → Nat} {v : Nat} : ∀ {k : Nat}, inp ρ k v ↔ ∃ j, j < k ∧ ρ j = v
  | 0 => ⟨fun h => h.elim, fun ⟨j, h, _⟩ => by omega⟩
  | k + 1 => by
    constructor
    · intro h
      rcases h with h | h
      · exact ⟨k, by omega, h⟩
      · obtain ⟨j, h1, h2⟩ := inp_iff.mp h
        exact ⟨j, by omega, h2⟩
    · rintro ⟨j, h1, h2⟩
      by_cases c : j = k
      · exact Or.inl (by rw [← c]; exact h2)
      · exact Or.inr (inp_iff.mpr ⟨j, by omega, h2⟩)
theorem nin_0 {ρ : Nat → Nat} : ∀ m, nin ρ 0 m = m
  | 0 => rfl
  | m + 1 => by rw [nin_n (show ¬ inp ρ 0 m from fun h => h), nin_0 m]
theorem nin_s {ρ : Nat → Nat} {k : Nat} (h : ∀ j, j < k → ρ j ≠ ρ k) : ∀ m, nin ρ (k + 1) m + (if ρ k < m then 1 else 0) = nin ρ k m
  | 0 => rfl
  | m + 1 => by
    have ih := nin_s h m
    by_cases c : inp ρ k m
    · have c2 : ρ k ≠ m := fun q => by
        obtain ⟨j, h1, h2⟩ := inp_iff.mp c
        exact h j h1 (h2.trans q.symm)
      rw [nin_y c, nin_y (show inp ρ (k + 1) m from Or.inr c), ← ih]
      by_cases d : ρ k < m
      · rw [if_pos d, if_pos (by omega)]
      · rw [if_neg d, if_neg (by omega)]
    · rw [nin_n c, ← ih]
      by_cases c2 : ρ k = m
      · rw [nin_y (show inp ρ (k + 1) m from Or.inl c2), if_pos (by omega), if_neg (by omega)]
      · rw [nin_n (show ¬ inp ρ (k + 1) m from fun q => q.elim c2 c)]
        by_cases d : ρ k < m
        · rw [if_pos d, if_pos (by omega)]
        · rw [if_neg d, if_neg (by omega)]
theorem nin_mono {ρ : Nat → Nat} {k a : Nat} : ∀ d, nin ρ k a ≤ nin ρ k (a + d)
  | 0 => Nat.le_refl _
  | d + 1 => by
    have ih := nin_mono (ρ := ρ) (k := k) (a := a) d
    rw [← Nat.add_assoc]
    by_cases c : inp ρ k (a + d)
    · rw [nin_y c]; exact ih
    · rw [nin_n c]; omega
theorem nin_lt {ρ : Nat → Nat} {k a b : Nat} (h : ¬ inp ρ k a) (hab : a < b) : nin ρ k a + 1 ≤ nin ρ k b := by
  have := nin_mono (ρ := ρ) (k := k) (a := a + 1) (b - (a + 1))
  rw [show a + 1 + (b - (a + 1)) = b by omega, nin_n h] at this
  exact this
theorem inp_congr {ρ ρ' : Nat → Nat} {k v : Nat} (h : ∀ j, j < k → ρ j = ρ' j) : inp ρ k v ↔ inp ρ' k v := by
  rw [inp_iff, inp_iff]
  constructor
  · rintro ⟨j, h1, h2⟩
    exact ⟨j, h1, (h j h1).symm.trans h2⟩
  · rintro ⟨j, h1, h2⟩
    exact ⟨j, h1, (h j h1).trans h2⟩
theorem nin_congr {ρ ρ' : Nat → Nat} {k : Nat} (h : ∀ j, j < k → ρ j = ρ' j) : ∀ m, nin ρ k m = nin ρ' k m
  | 0 => rfl
  | m + 1 => by
    by_cases c : inp ρ k m
    · rw [nin_y c, nin_y ((inp_congr h).mp c), nin_congr h m]
    · rw [nin_n c, nin_n (fun q => c ((inp_congr h).mpr q)), nin_congr h m]
def Inj (N : Nat) (ρ : Nat → Nat) : Prop := (∀ i, i < N → ρ i < N) ∧ ∀ i j, i < j → j < N → ρ i ≠ ρ j
theorem nin_N {N : Nat} {ρ : Nat → Nat} (h : Inj N ρ) : ∀ k, k ≤ N → nin ρ k N + k = N
  | 0, _ => nin_0 N
  | k + 1, hk => by
    have ih := nin_N h k (by omega)
    have s := nin_s (ρ := ρ) (k := k) (fun j hj => h.2 j k hj (by omega)) N
    rw [if_pos (h.1 k (by omega))] at s
    omega
noncomputable def cod (ρ : Nat → Nat) (k : Nat) : Nat := nin ρ k (ρ k)
theorem cod_b {N k : Nat} {ρ : Nat → Nat} (h : Inj N ρ) (hk : k < N) : cod ρ k + 1 ≤ N - k := by
  have a := nin_N h k (by omega)
  have b := nin_lt (ρ := ρ) (k := k) (a := ρ k) (b := N) (fun q => by
    obtain ⟨j, h1, h2⟩ := inp_iff.mp q
    exact h.2 j k h1 hk h2) (h.1 k hk)
  show nin ρ k (ρ k) + 1 ≤ _
  omega
noncomputable def hor (N : Nat) (ρ : Nat → Nat) : Nat → Nat
  | 0 => 0
  | i + 1 => hor N ρ i * (N - i) + cod ρ i
theorem hor_congr {N : Nat} {ρ ρ' : Nat → Nat} : ∀ {k : Nat}, (∀ j, j < k → ρ j = ρ' j) → hor N ρ k = hor N ρ' k
  | 0, _ => rfl
  | k + 1, h => by
    show hor N ρ k * (N - k) + nin ρ k (ρ k) = hor N ρ' k * (N - k) + nin ρ' k (ρ' k)
    rw [hor_congr (fun j hj => h j (by omega)), nin_congr (fun j hj => h j (by omega)), h k (by omega)]
theorem hor_lt {N i : Nat} {ρ ρ' : Nat → Nat} (h1 : Inj N ρ) (hi : i < N) (he : ∀ j, j < i → ρ j = ρ' j) (hlt : ρ i < ρ' i) : ∀ d, i + 1 + d ≤ N → hor N ρ (i + 1 + d) + 1 ≤ hor N ρ' (i + 1 + d)
  | 0, _ => by
    show hor N ρ i * (N - i) + nin ρ i (ρ i) + 1 ≤ hor N ρ' i * (N - i) + nin ρ' i (ρ' i)
    rw [← hor_congr he, ← nin_congr he]
    have := nin_lt (ρ := ρ) (k := i) (fun q => by
      obtain ⟨j, a, b⟩ := inp_iff.mp q
      exact h1.2 j i a hi b) hlt
    omega
  | d + 1, hd => by
    have ih := hor_lt h1 hi he hlt d (by omega)
    have cb := cod_b h1 (k := i + 1 + d) (by omega)
    show hor N ρ (i + 1 + d) * (N - (i + 1 + d)) + cod ρ (i + 1 + d) + 1 ≤ hor N ρ' (i + 1 + d) * (N - (i + 1 + d)) + cod ρ' (i + 1 + d)
    have m := Nat.mul_le_mul_right (N - (i + 1 + d)) ih
    rw [Nat.add_mul, Nat.one_mul] at m
    omega
def fac (N s : Nat) : Nat → Nat
  | 0 => 1
  | k + 1 => if k < s then 1 else fac N s k * (N - k)
theorem hor_b {N s : Nat} {ρ : Nat → Nat} (h : Inj N ρ) (hs : ∀ k, k < s → ρ k = 0) : ∀ k, k ≤ N → hor N ρ k + 1 ≤ fac N s k ∧ (k ≤ s → hor N ρ k = 0)
  | 0, _ => ⟨Nat.le_refl _, fun _ => rfl⟩
  | k + 1, hk => by
    have ih := hor_b h hs k (by omega)
    have cb := cod_b h (k := k) (by omega)
    have e : hor N ρ (k + 1) = hor N ρ k * (N - k) + cod ρ k := rfl
    by_cases c : k < s
    · have z : hor N ρ (k + 1) = 0 := by
        rw [e, ih.2 (by omega), Nat.zero_mul]
        show 0 + nin ρ k (ρ k) = 0
        rw [hs k c]
        rfl
      exact ⟨by show _ ≤ if k < s then 1 else _; rw [if_pos c, z]; exact Nat.le_refl _, fun _ => z⟩
    · refine ⟨?_, fun q => by omega⟩
      show _ ≤ if k < s then 1 else fac N s k * (N - k)
      rw [if_neg c, e]
      have m := Nat.mul_le_mul_right (N - k) ih.1
      rw [Nat.add_mul, Nat.one_mul] at m
      omega
noncomputable def rkR (N : Nat) (r : Nat → Int32) : Nat := hor N (fun i => tn (r i)) N
theorem PermF.inj {r : Nat → Int32} {N : Nat} (h : PermF r N) (hN : N ≤ 40) : Inj N (fun i => tn (r i)) ∧ ∀ i, i < N → r i = nI (tn (r i)) := by
  obtain ⟨σ, τ, h1, h2⟩ := h
  have e : ∀ i, i < N → tn (r i) = σ i := fun i hi => by
    have := (h1 i hi).1
    rw [(h1 i hi).2.1, tn_n (by omega)]
  refine ⟨⟨fun i hi => ?_, fun i j hij hj q => ?_⟩, fun i hi => ?_⟩
  · show tn (r i) < N
    rw [e i hi]; exact (h1 i hi).1
  · have q2 : tn (r i) = tn (r j) := q
    rw [e i (by omega), e j hj] at q2
    have a := (h1 i (by omega)).2.2
    rw [q2, (h1 j hj).2.2] at a
    omega
  · rw [e i hi]; exact (h1 i hi).2.1
theorem rkR_lt {N i : Nat} {r r' : Nat → Int32} (hN : N ≤ 40) (h : PermF r N) (e : nxR N r = some (i, r')) : rkR N r + 1 ≤ rkR N r' := by
  obtain ⟨a1, a2, -, j, b1, b2, b3, b4⟩ := nxR_some e
  obtain ⟨p1, p2⟩ := h.inj hN
  have l : tn (r i) < tn (r' i) := by
    have x := p1.1 i (by omega)
    have y := p1.1 j (by omega)
    have z := p1.2 i j b1 b2
    have x' : tn (r i) < N := x
    have y' : tn (r j) < N := y
    have z' : tn (r i) ≠ tn (r j) := z
    rw [p2 i (by omega), p2 j b2, nI_leI (by omega) (by omega)] at b4
    rw [b3]
    omega
  have := hor_lt (ρ' := fun i => tn (r' i)) p1 (show i < N by omega) (fun j hj => by show tn (r j) = tn (r' j); rw [a2 j hj]) l (N - (i + 1)) (by omega)
  rw [show i + 1 + (N - (i + 1)) = N by omega] at this
  exact this
theorem rkR_b {N : Nat} {r : Nat → Int32} (h : PermF r N) (hN : N ≤ 7 ∨ (N ≤ 8 ∧ r 0 = 0)) : rkR N r + 1 ≤ 5040 := by
  rcases hN with hN | ⟨hN, h0⟩
  · have a := (hor_b (s := 0) (h.inj (by omega)).1 (fun k hk => by omega) N (Nat.le_refl _)).1
    have b : ∀ n, n < 8 → fac n 0 n ≤ 5040 := by decide
    exact Nat.le_trans a (b N (by omega))
  · have a := (hor_b (s := 1) (h.inj (by omega)).1 (fun k hk => by
      obtain rfl : k = 0 := by omega
      show tn (r 0) = 0
      rw [h0]
      rfl) N (Nat.le_refl _)).1
    have b : ∀ n, n < 9 → fac n 1 n ≤ 5040 := by decide
    exact Nat.le_trans a (b N (by omega))
end
section
/-! the day's numbers are small; what is alike ahead is alike -/
variable {wq : Prop}
theorem imax_nsub {a b x : Nat} (ha : a < 2 ^ 31) (hb : b < 2 ^ 31) (hx : x < 2 ^ 31) : imax (nI a) (nI b - nI x) = nI (max a (b - x)) := by
  by_cases h : x ≤ b
  · rw [nI_sub h, imax_n ha (by omega)]
  · have ea : (nI a).toInt = a := nI_toInt ha
    have eb : (nI b).toInt = b := nI_toInt hb
    have ex : (nI x).toInt = x := nI_toInt hx
    have es : (nI b - nI x).toInt = (b : Int) - x := by rw [sub_toInt (by omega) (by omega), eb, ex]
    unfold imax
    rw [if_neg, show max a (b - x) = a by omega]
    rw [Int32.lt_iff_toInt_lt, es, ea]
    omega
def SmD (i : Nat) (d : Int32 × Int32 × (Nat → Int32)) : Prop := (∃ a, a ≤ 200000 * i ∧ d.1 = nI a) ∧ (∃ b, b ≤ 200000 * i ∧ d.2.1 = nI b) ∧ ∀ j, j < i → ∃ c, c ≤ 200000 * i ∧ d.2.2 j = nI c
theorem dy_b {l m N : Nat} {X B : Nat → Int32} (hN : N ≤ 40) (h1 : l = 2 → 1 ≤ m) (h : Ld N X B) : ∀ i, i ≤ N → SmD i (dy l m X B i)
  | 0, _ => ⟨⟨0, by omega, rfl⟩, ⟨0, by omega, rfl⟩, fun j hj => by omega⟩
  | i + 1, hi => by
    obtain ⟨⟨a, la, ea⟩, ⟨b, lb, eb⟩, hc⟩ := dy_b hN h1 h i (by omega)
    obtain ⟨⟨x, lx, ex⟩, ⟨y, ly, ey⟩⟩ := h i (by omega)
    have s1 : ∃ s, s ≤ 200000 * i + 100000 ∧ sB l m X B i = nI s := by
      unfold sB sA dSt
      by_cases q : l = 0
      · refine ⟨max a (b - x) + x, by omega, ?_⟩
        rw [if_pos q, ea, eb, ex, imax_nsub (by omega) (by omega) (by omega), nI_add]
      · refine ⟨a + x, by omega, ?_⟩
        rw [if_neg q, ea, ex, nI_add]
    obtain ⟨s, ls, es⟩ := s1
    have s2 : sC l m X B i = nI (max s b) := by
      unfold sC
      rw [es, eb, imax_n (by omega) (by omega)]
    refine ⟨?_, ⟨max s b + y, by omega, by rw [dy_2, s2, ey, nI_add]⟩, fun j hj => ?_⟩
    · rw [dy_1, es]
      by_cases q : l = 2
      · rw [if_pos q]
        by_cases q2 : i < m
        · exact ⟨s, by omega, by rw [if_pos q2]⟩
        · have := h1 q
          obtain ⟨c, lc, ec⟩ := hc (i - m) (by omega)
          exact ⟨max s c, by omega, by rw [if_neg q2, ec, imax_n (by omega) (by omega)]⟩
      · exact ⟨s, by omega, by rw [if_neg q]⟩
    · rw [dy_3 hj]
      by_cases q : j = i
      · rw [q]
        exact ⟨max s b, by omega, s2⟩
      · obtain ⟨c, lc, ec⟩ := hc j (by omega)
        exact ⟨c, by omega, by rw [← dy_3 (i := i) (by omega)]; exact ec⟩
theorem dy_congr {l m : Nat} {X B X' B' : Nat → Int32} : ∀ i, (∀ p, p < i → X p = X' p ∧ B p = B' p) → dy l m X B i = dy l m X' B' i
  | 0, _ => rfl
  | i + 1, h => by
    have ih := dy_congr (l := l) (m := m) i (fun p hp => h p (by omega))
    unfold dy
    rw [ih, (h i (by omega)).1, (h i (by omega)).2]
theorem KN.congr {l m i : Nat} {X B X' B' : Nat → Int32} {μ : Mem} (h : KN l m X B i μ) (e : ∀ p, p < i → X p = X' p ∧ B p = B' p) : KN l m X' B' i μ := fun p hp => by
  obtain ⟨a1, a2, a3, a4, a5⟩ := h p hp
  have d := dy_congr (l := l) (m := m) p (fun q hq => e q (by omega))
  have d1 := dy_congr (l := l) (m := m) (p + 1) (fun q hq => e q (by omega))
  have eA : sA l m X' B' p = sA l m X B p := by
    unfold sA
    rw [d, (e p hp).1]
  have eB : sB l m X' B' p = sB l m X B p := by
    unfold sB
    rw [eA, (e p hp).1]
  have eC : sC l m X' B' p = sC l m X B p := by
    unfold sC
    rw [eB, d]
  rw [eA, eB, eC, ← d1]
  exact ⟨a1, a2, a3, a4, a5⟩
theorem KN.mono {l m i j : Nat} {X B : Nat → Int32} {μ : Mem} (h : KN l m X B i μ) (hj : j ≤ i) : KN l m X B j μ := fun p hp => h p (by omega)
/-- the END of a row -/
def eN (l m : Nat) (μ : Mem) (N : Nat) (r : Nat → Int32) : Int32 := (dy l m (fun p => μ 10 (tn (r p))) (fun p => μ 11 (tn (r p))) N).2.1
theorem eN_b {l m N : Nat} {μ : Mem} {r : Nat → Int32} (hL : RelN wq N (CL μ) (MT μ 0)) (h1 : l = 2 → 1 ≤ m) (h : PermF r N) : ∃ e, e ≤ 8000000 ∧ eN l m μ N r = nI e := by
  have hN := hL.1
  obtain ⟨p1, p2⟩ := h.inj hN
  obtain ⟨-, ⟨b, lb, eb⟩, -⟩ := dy_b (l := l) (m := m) (X := fun p => μ 10 (tn (r p))) (B := fun p => μ 11 (tn (r p))) hN h1 (fun i hi => hL.ld _ (p1.1 i hi)) N (Nat.le_refl _)
  exact ⟨b, by omega, eb⟩
theorem eN_congr {l m N : Nat} {μ : Mem} {r r' : Nat → Int32} (h : ∀ p, p < N → r p = r' p) : eN l m μ N r = eN l m μ N r' := by
  unfold eN
  rw [dy_congr N (fun p hp => ⟨by rw [h p hp], by rw [h p hp]⟩)]
end
section
/-! the first row, the question whether it is the order, what is found -/
theorem c_begin {N : Nat} {μ : Mem} (hN : N ≤ 8) : ∃ μ', fX6_begin FF (nI N) μ = some μ' ∧ μ' 71 1 = nI N ∧ (∀ p, p < N → μ' 72 p = nI p) ∧ ∀ k, k ≠ 71 → k ≠ 72 → μ' k = μ k := by
  have loop : ∀ (d n i : Nat) (ν : Mem), i + d = N → d < n → ν 71 1 = nI N → (∀ p, p < i → ν 72 p = nI p) → ∃ μ', fX6_begin_7 FF n (nI i) ν = some μ' ∧ μ' 71 1 = nI N ∧ (∀ p, p < N → μ' 72 p = nI p) ∧ ∀ k, k ≠ 72 → μ' k = ν k := by
    intro d
    induction d with
    | zero =>
      intro n i ν hi hn h1 h2
      obtain ⟨n, rfl⟩ : ∃ n', n = n' + 1 := ⟨n - 1, by omega⟩
      obtain rfl : i = N := by omega
      refine ⟨ν, ?_, h1, h2, fun _ _ => rfl⟩
      show fX6_begin_7_b FF _ _ ν = _
      unfold fX6_begin_7_b
      rw [h1, if_pos (nI_le (by omega) (by omega))]
    | succ d ih =>
      intro n i ν hi hn h1 h2
      obtain ⟨n, rfl⟩ : ∃ n', n = n' + 1 := ⟨n - 1, by omega⟩
      obtain ⟨m2, f2, a2, b2, g2⟩ := wr_x (μ := ν) (k := 72) (i := i) (nI i) (by show i < 8; omega)
      obtain ⟨μ', q1, q2, q3, q4⟩ := ih n (i + 1) m2 (by omega) (by omega) (by rw [g2 71 (by omega)]; exact h1) (fun p hp => by
        by_cases c : p = i
        · rw [c, a2]
        · rw [b2 p c]; exact h2 p (by omega))
      refine ⟨μ', ?_, q2, q3, fun k hk => by rw [q4 k hk, g2 k hk]⟩
      show fX6_begin_7_b FF _ _ ν = _
      unfold fX6_begin_7_b
      rw [h1, if_neg (nI_ge (by omega) (by omega)), f2, nI_add1]
      exact q1
  obtain ⟨μ', q1, q2, q3, q4⟩ := loop N FF 0 (upM μ 71 (upd (μ 71) 1 (nI N))) (by omega) (by rw [FF_e]; omega) (by rw [upM_self, upd_s]) (fun p hp => by omega)
  refine ⟨μ', ?_, q2, q3, fun k h1 h2 => by rw [q4 k h2, upM_ne h1]⟩
  unfold fX6_begin
  rw [st_n]
  exact q1
theorem m_begin {N : Nat} {μ : Mem} (hN : N ≤ 40) (h : μ 94 0 = nI N) : ∃ μ', fX9_firstRow FF μ = some μ' ∧ (∀ p, p < N → μ' 105 p = nI p) ∧ ∀ k, k ≠ 105 → μ' k = μ k := by
  have loop : ∀ (d n i : Nat) (ν : Mem), i + d = N → d < n → ν 94 0 = nI N → (∀ p, p < i → ν 105 p = nI p) → ∃ μ', fX9_firstRow_2 FF n (nI i) ν = some μ' ∧ (∀ p, p < N → μ' 105 p = nI p) ∧ ∀ k, k ≠ 105 → μ' k = ν k := by
    intro d
    induction d with
    | zero =>
      intro n i ν hi hn h1 h2
      obtain ⟨n, rfl⟩ : ∃ n', n = n' + 1 := ⟨n - 1, by omega⟩
      obtain rfl : i = N := by omega
      refine ⟨ν, ?_, h2, fun _ _ => rfl⟩
      show fX9_firstRow_2_b FF _ _ ν = _
      unfold fX9_firstRow_2_b
      rw [show (0 : Int32) = nI 0 from rfl, rd_n (by decide), h1, if_pos (nI_le (by omega) (by omega))]
    | succ d ih =>
      intro n i ν hi hn h1 h2
      obtain ⟨n, rfl⟩ : ∃ n', n = n' + 1 := ⟨n - 1, by omega⟩
      obtain ⟨m2, f2, a2, b2, g2⟩ := wr_x (μ := ν) (k := 105) (i := i) (nI i) (by show i < 40; omega)
      obtain ⟨μ', q1, q3, q4⟩ := ih n (i + 1) m2 (by omega) (by omega) (by rw [g2 94 (by omega)]; exact h1) (fun p hp => by
        by_cases c : p = i
        · rw [c, a2]
        · rw [b2 p c]; exact h2 p (by omega))
      refine ⟨μ', ?_, q3, fun k hk => by rw [q4 k hk, g2 k hk]⟩
      show fX9_firstRow_2_b FF _ _ ν = _
      unfold fX9_firstRow_2_b
      rw [show (0 : Int32) = nI 0 from rfl, rd_n (by decide), h1, if_neg (nI_ge (by omega) (by omega)), f2, nI_add1]
      exact q1
  exact loop N FF 0 μ (by omega) (by rw [FF_e]; omega) h (fun p hp => by omega)
theorem c_isOrd {N k : Nat} {μ : Mem} (hN : N ≤ 40) (hk : N ≤ ln k) (h : μ 9 6 = nI N) : ((∀ p, p < N → μ k p = μ 14 p) ∧ fX3_isOrder FF k μ = some (1, μ)) ∨ ((¬ ∀ p, p < N → μ k p = μ 14 p) ∧ fX3_isOrder FF k μ = some (0, μ)) := by
  have loop : ∀ (d n i : Nat), i + d = N → d < n → ((∀ p, i ≤ p → p < N → μ k p = μ 14 p) ∧ fX3_isOrder_2 FF k n (nI i) μ = some (1, μ)) ∨ ((¬ ∀ p, i ≤ p → p < N → μ k p = μ 14 p) ∧ fX3_isOrder_2 FF k n (nI i) μ = some (0, μ)) := by
    intro d
    induction d with
    | zero =>
      intro n i hi hn
      obtain ⟨n, rfl⟩ : ∃ n', n = n' + 1 := ⟨n - 1, by omega⟩
      obtain rfl : i = N := by omega
      refine Or.inl ⟨fun p a b => by omega, ?_⟩
      show fX3_isOrder_2_b FF _ _ _ μ = _
      unfold fX3_isOrder_2_b
      rw [h, if_pos (nI_le (by omega) (by omega)), zr_1]
    | succ d ih =>
      intro n i hi hn
      obtain ⟨n, rfl⟩ : ∃ n', n = n' + 1 := ⟨n - 1, by omega⟩
      have e : fX3_isOrder_2 FF k (n + 1) (nI i) μ = if μ k i = μ 14 i then fX3_isOrder_2 FF k n (nI (i + 1)) μ else some (0, μ) := by
        show fX3_isOrder_2_b FF _ _ _ μ = _
        unfold fX3_isOrder_2_b
        rw [h, if_neg (nI_ge (by omega) (by omega)), rd_n (by omega), rd_n (by show i < 40; omega), nI_add1, zr_0]
      rw [e]
      by_cases c : μ k i = μ 14 i
      · rw [if_pos c]
        rcases ih n (i + 1) (by omega) (by omega) with ⟨q1, q2⟩ | ⟨q1, q2⟩
        · refine Or.inl ⟨fun p a b => ?_, q2⟩
          by_cases cp : p = i
          · rw [cp]; exact c
          · exact q1 p (by omega) b
        · exact Or.inr ⟨fun w => q1 (fun p a b => w p (by omega) b), q2⟩
      · rw [if_neg c]
        exact Or.inr ⟨fun w => c (w i (by omega) (by omega)), rfl⟩
  rcases loop N FF 0 (by omega) (by rw [FF_e]; omega) with ⟨q1, q2⟩ | ⟨q1, q2⟩
  · exact Or.inl ⟨fun p b => q1 p (by omega) b, q2⟩
  · exact Or.inr ⟨fun w => q1 (fun p _ b => w p b), q2⟩
theorem m_isOrd {N : Nat} {μ : Mem} (hN : N ≤ 40) (h : μ 94 0 = nI N) : ((∀ p, p < N → μ 105 p = μ 99 p) ∧ fX9_isOrder FF μ = some (1, μ)) ∨ ((¬ ∀ p, p < N → μ 105 p = μ 99 p) ∧ fX9_isOrder FF μ = some (0, μ)) := by
  have loop0 : ∀ (d n i : Nat), i + d = N → d < n → fX9_isOrder_4 FF n 0 (nI i) μ = some (0, μ) := by
    intro d
    induction d with
    | zero =>
      intro n i hi hn
      obtain ⟨n, rfl⟩ : ∃ n', n = n' + 1 := ⟨n - 1, by omega⟩
      show fX9_isOrder_4_b FF _ _ _ μ = _
      unfold fX9_isOrder_4_b
      rw [show (0 : Int32) = nI 0 from rfl, rd_n (by decide), h, if_pos (nI_le (by omega) (by omega)), show nI 0 = (0 : Int32) from rfl, zr_0]
    | succ d ih =>
      intro n i hi hn
      obtain ⟨n, rfl⟩ : ∃ n', n = n' + 1 := ⟨n - 1, by omega⟩
      show fX9_isOrder_4_b FF _ _ _ μ = _
      unfold fX9_isOrder_4_b
      rw [show (0 : Int32) = nI 0 from rfl, rd_n (by decide), h, if_neg (nI_ge (by omega) (by omega)), if_pos rfl, nI_add1]
      exact ih n (i + 1) (by omega) (by omega)
  have loop : ∀ (d n i : Nat), i + d = N → d < n → ((∀ p, i ≤ p → p < N → μ 105 p = μ 99 p) ∧ fX9_isOrder_4 FF n 1 (nI i) μ = some (1, μ)) ∨ ((¬ ∀ p, i ≤ p → p < N → μ 105 p = μ 99 p) ∧ fX9_isOrder_4 FF n 1 (nI i) μ = some (0, μ)) := by
    intro d
    induction d with
    | zero =>
      intro n i hi hn
      obtain ⟨n, rfl⟩ : ∃ n', n = n' + 1 := ⟨n - 1, by omega⟩
      refine Or.inl ⟨fun p a b => by omega, ?_⟩
      show fX9_isOrder_4_b FF _ _ _ μ = _
      unfold fX9_isOrder_4_b
      rw [show (0 : Int32) = nI 0 from rfl, rd_n (by decide), h, if_pos (nI_le (by omega) (by omega)), zr_1]
    | succ d ih =>
      intro n i hi hn
      obtain ⟨n, rfl⟩ : ∃ n', n = n' + 1 := ⟨n - 1, by omega⟩
      have e : fX9_isOrder_4 FF (n + 1) 1 (nI i) μ = if μ 105 i = μ 99 i then fX9_isOrder_4 FF n 1 (nI (i + 1)) μ else some (0, μ) := by
        show fX9_isOrder_4_b FF _ _ _ μ = _
        unfold fX9_isOrder_4_b
        rw [show (0 : Int32) = nI 0 from rfl, rd_n (by decide), h, if_neg (nI_ge (by omega) (by omega)), if_neg (show ¬ (1 : Int32) = nI 0 by decide), rd_n (by show i < 40; omega), rd_n (by show i < 240; omega), nI_add1, show nI 0 = (0 : Int32) from rfl, loop0 d n (i + 1) (by omega) (by omega)]
      rw [e]
      by_cases c : μ 105 i = μ 99 i
      · rw [if_pos c]
        rcases ih n (i + 1) (by omega) (by omega) with ⟨q1, q2⟩ | ⟨q1, q2⟩
        · refine Or.inl ⟨fun p a b => ?_, q2⟩
          by_cases cp : p = i
          · rw [cp]; exact c
          · exact q1 p (by omega) b
        · exact Or.inr ⟨fun w => q1 (fun p a b => w p (by omega) b), q2⟩
      · rw [if_neg c]
        exact Or.inr ⟨fun w => c (w i (by omega) (by omega)), rfl⟩
  rcases loop N FF 0 (by omega) (by rw [FF_e]; omega) with ⟨q1, q2⟩ | ⟨q1, q2⟩
  · exact Or.inl ⟨fun p b => q1 p (by omega) b, q2⟩
  · exact Or.inr ⟨fun w => q1 (fun p _ b => w p b), q2⟩
theorem m_finds {N : Nat} {μ : Mem} (hN : N ≤ 40) (h : μ 94 0 = nI N) : ∃ μ', fX9_finds FF 105 μ = some μ' ∧ (∀ p, p < N → μ' 100 p = μ 105 p) ∧ μ' 89 12 = nI N ∧ μ' 89 14 = 1 ∧ μ' 89 15 = 1 ∧ (∀ j, j ≠ 12 → j ≠ 14 → j ≠ 15 → μ' 89 j = μ 89 j) ∧ ∀ k, k ≠ 89 → k ≠ 100 → μ' k = μ k := by
  have loop : ∀ (d n i : Nat) (ν : Mem), i + d = N → d < n → ν 89 12 = nI N → (∀ p, p < i → ν 100 p = ν 105 p) → ∃ μ', fX9_finds_12 FF 105 n (nI i) ν = some μ' ∧ (∀ p, p < N → μ' 100 p = ν 105 p) ∧ μ' 89 12 = nI N ∧ μ' 89 14 = 1 ∧ μ' 89 15 = 1 ∧ (∀ j, j ≠ 14 → j ≠ 15 → μ' 89 j = ν 89 j) ∧ ∀ k, k ≠ 89 → k ≠ 100 → μ' k = ν k := by
    intro d
    induction d with
    | zero =>
      intro n i ν hi hn h1 h2
      obtain ⟨n, rfl⟩ : ∃ n', n = n' + 1 := ⟨n - 1, by omega⟩
      obtain rfl : i = N := by omega
      refine ⟨upM ν 89 (upd (upd (ν 89) 14 1) 15 1), ?_, fun p hp => by rw [upM_ne (by omega)]; exact h2 p hp, ?_, ?_, ?_, fun j q1 q2 => by rw [upM_self, upd_ne q2, upd_ne q1], fun k q1 q2 => upM_ne q1⟩
      · show fX9_finds_12_b FF _ _ _ ν = _
        unfold fX9_finds_12_b
        rw [h1, if_pos (nI_le (by omega) (by omega)), st_n, st_n, upM_upM, upM_self]
      · rw [upM_self, upd_ne (by decide), upd_ne (by decide)]; exact h1
      · rw [upM_self, upd_ne (by decide), upd_s]
      · rw [upM_self, upd_s]
    | succ d ih =>
      intro n i ν hi hn h1 h2
      obtain ⟨n, rfl⟩ : ∃ n', n = n' + 1 := ⟨n - 1, by omega⟩
      obtain ⟨m2, f2, a2, b2, g2⟩ := wr_x (μ := ν) (k := 100) (i := i) (ν 105 i) (by show i < 40; omega)
      obtain ⟨μ', q1, q2, q3, q4, q5, q6, q7⟩ := ih n (i + 1) m2 (by omega) (by omega) (by rw [g2 89 (by omega)]; exact h1) (fun p hp => by
        rw [g2 105 (by omega)]
        by_cases c : p = i
        · rw [c, a2]
        · rw [b2 p c]; exact h2 p (by omega))
      rw [g2 105 (by omega)] at q2
      refine ⟨μ', ?_, q2, q3, q4, q5, fun j w1 w2 => by rw [q6 j w1 w2, g2 89 (by omega)], fun k w1 w2 => by rw [q7 k w1 w2, g2 k w2]⟩
      show fX9_finds_12_b FF _ _ _ ν = _
      unfold fX9_finds_12_b
      rw [h1, if_neg (nI_ge (by omega) (by omega)), rd_n (by show i < 40; omega), f2, nI_add1]
      exact q1
  obtain ⟨μ', q1, q2, q3, q4, q5, q6, q7⟩ := loop N FF 0 (upM μ 89 (upd (μ 89) 12 (nI N))) (by omega) (by rw [FF_e]; omega) (by rw [upM_self, upd_s]) (fun p hp => by omega)
  rw [upM_ne (by omega)] at q2
  refine ⟨μ', ?_, q2, q3, q4, q5, fun j w0 w1 w2 => by rw [q6 j w1 w2, upM_self, upd_ne w0], fun k w1 w2 => by rw [q7 k w1 w2, upM_ne w1]⟩
  unfold fX9_finds
  rw [show (0 : Int32) = nI 0 from rfl, rd_n (by decide), h, st_n]
  exact q1
end
section
/-! going through all rows -/
variable {wq : Prop}
theorem cp_x {μ : Mem} {a b n : Nat} (h1 : n ≤ ln a) (h2 : n ≤ ln b) : ∃ m' : Mem, (∀ {α : Type} (f : Mem → Option α), cpy μ a 0 b 0 (nI n) f = f m') ∧ (∀ p, p < n → m' b p = μ a p) ∧ (∀ p, n ≤ p → m' b p = μ b p) ∧ ∀ c, c ≠ b → m' c = μ c := by
  refine ⟨upM μ b (va_cpy (μ a) (μ b) 0 0 n), fun f => ?_, fun p hp => ?_, fun p hp => ?_, fun c hc => upM_ne hc⟩
  · rw [show (0 : Int32) = nI 0 from rfl, cpy_n (by omega) (by omega)]
  · rw [upM_self]
    unfold va_cpy
    rw [if_pos (by omega)]
    congr 1
    omega
  · rw [upM_self]
    unfold va_cpy
    rw [if_neg (by omega)]
theorem c_step0 {N : Nat} {μ : Mem} {r : Nat → Int32} (hN : N ≤ 8) (h : μ 71 1 = nI N) : fX6_step FF (upM μ 72 r) = match nxR N r with | none => some (-1, upM μ 72 r) | some (i, r') => some (nI i, upM μ 72 r') := by
  by_cases h0 : N = 0
  · subst h0
    obtain ⟨n, hn⟩ : ∃ n, FF = n + 1 := ⟨9999999, rfl⟩
    show fX6_step_7 FF FF _ _ = some (-1, upM μ 72 r)
    rw [upM_ne (by omega), h]
    rw (occs := .pos [2]) [hn]
    show fX6_step_7_b FF _ _ _ = _
    unfold fX6_step_7_b fX6_step_34
    rw [if_pos (show nI 0 - 2 < (0 : Int32) by decide), if_neg (show ¬ (0 : Int32) ≤ nI 0 - 2 by decide)]
  · exact c_step (by omega) hN h
theorem m_step0 {N : Nat} {μ : Mem} {r : Nat → Int32} (hN : N ≤ 8) (h : μ 94 0 = nI N) : fX9_nextRow FF (upM μ 105 r) = match nxR N r with | none => some (0, upM μ 105 r) | some (_, r') => some (1, upM μ 105 r') := by
  by_cases h0 : N = 0
  · subst h0
    obtain ⟨n, hn⟩ : ∃ n, FF = n + 1 := ⟨9999999, rfl⟩
    unfold fX9_nextRow
    rw [show (0 : Int32) = nI 0 from rfl, rd_n (by decide), upM_ne (by omega), h]
    show fX9_nextRow_11 FF FF _ _ _ = some (0, upM μ 105 r)
    rw (occs := .pos [2]) [hn]
    show fX9_nextRow_11_b FF _ _ _ _ = _
    unfold fX9_nextRow_11_b fX9_nextRow_38
    rw [if_pos (show nI 0 - 2 < (0 : Int32) by decide), if_neg (show ¬ (0 : Int32) ≤ nI 0 - 2 by decide)]
    rfl
  · exact m_step (by omega) hN h
theorem fd_congr {r s : Nat → Int32} {N : Nat} (h : ∀ p, p < N → r p = s p) : ∀ n, n < N → fd r n = fd s n
  | 0, _ => rfl
  | n + 1, hn => by
    unfold fd
    rw [h n (by omega), h (n + 1) hn, fd_congr h n (by omega)]
theorem fj_congr {r s : Nat → Int32} {N i : Nat} (h : ∀ p, p < N → r p = s p) (hi : i < N) : ∀ j, j < N → fj r i j = fj s i j
  | 0, _ => rfl
  | j + 1, hj => by
    unfold fj
    rw [h i hi, h (j + 1) hj, fj_congr h hi j (by omega)]
theorem rvs_congr {N : Nat} : ∀ (n a b : Nat) (r s : Nat → Int32), b < N → (∀ p, p < N → r p = s p) → ∀ p, p < N → rvs n a b r p = rvs n a b s p
  | 0, _, _, _, _, _, h, p, hp => h p hp
  | n + 1, a, b, r, s, hb, h, p, hp => by
    unfold rvs
    by_cases c : b ≤ a
    · rw [if_pos c, if_pos c]; exact h p hp
    · rw [if_neg c, if_neg c]
      exact rvs_congr n (a + 1) (b - 1) _ _ (by omega) (swp_congr h (by omega) hb) p hp
theorem nxR_congr {N : Nat} {r s : Nat → Int32} (h : ∀ p, p < N → r p = s p) : (nxR N r = none ∧ nxR N s = none) ∨ ∃ i r' s', nxR N r = some (i, r') ∧ nxR N s = some (i, s') ∧ ∀ p, p < N → r' p = s' p := by
  by_cases h0 : N = 0
  · subst h0
    exact Or.inl ⟨rfl, rfl⟩
  unfold nxR
  rw [← fd_congr h (N - 1) (by omega)]
  cases hf : fd r (N - 1) with
  | none => exact Or.inl ⟨rfl, rfl⟩
  | some k =>
    have h1 := fd_lt hf
    refine Or.inr ⟨k, _, _, rfl, rfl, fun p hp => ?_⟩
    rw [← fj_congr h (show k < N by omega) (N - 1) (by omega)]
    have hj := fj_b (r := r) (i := k) (j := N - 1) (by omega)
    exact rvs_congr N (k + 1) (N - 1) _ _ (by omega) (swp_congr h (by omega) (by omega)) p hp
noncomputable def scn (N : Nat) (E : (Nat → Int32) → Int32) (S : (Nat → Int32) → Prop) : Nat → (Nat → Int32) → Int32 → (Nat → Int32) → Int32 × (Nat → Int32)
  | 0, _, e, b => (e, b)
  | d + 1, r, e, b =>
    match nxR N r with
    | none => (e, b)
    | some (_, r') => if e ≤ E r' then scn N E S d r' e b else @ite _ (S r') (Classical.propDecidable _) (scn N E S d r' e b) (scn N E S d r' (E r') r')
theorem scn_n {N d : Nat} {E : (Nat → Int32) → Int32} {S : (Nat → Int32) → Prop} {r b : Nat → Int32} {e : Int32} (h : nxR N r = none) : scn N E S (d + 1) r e b = (e, b) := by
  unfold scn
  rw [h]
theorem scn_le {N d i : Nat} {E : (Nat → Int32) → Int32} {S : (Nat → Int32) → Prop} {r r' b : Nat → Int32} {e : Int32} (h : nxR N r = some (i, r')) (q : e ≤ E r') : scn N E S (d + 1) r e b = scn N E S d r' e b := by
  rw [scn, h]
  exact if_pos q
theorem scn_sk {N d i : Nat} {E : (Nat → Int32) → Int32} {S : (Nat → Int32) → Prop} {r r' b : Nat → Int32} {e : Int32} (h : nxR N r = some (i, r')) (s : S r') : scn N E S (d + 1) r e b = scn N E S d r' e b := by
  rw [scn, h]
  by_cases q : e ≤ E r'
  · exact if_pos q
  · exact (if_neg q).trans (if_pos s)
theorem scn_gt {N d i : Nat} {E : (Nat → Int32) → Int32} {S : (Nat → Int32) → Prop} {r r' b : Nat → Int32} {e : Int32} (h : nxR N r = some (i, r')) (q : ¬ e ≤ E r') (s : ¬ S r') : scn N E S (d + 1) r e b = scn N E S d r' (E r') r' := by
  rw [scn, h]
  exact (if_neg q).trans (if_neg s)
theorem scn_congr {N : Nat} {E : (Nat → Int32) → Int32} {S : (Nat → Int32) → Prop} (hE : ∀ r s, (∀ p, p < N → r p = s p) → E r = E s) (hS : ∀ r s, (∀ p, p < N → r p = s p) → (S r ↔ S s)) : ∀ (d : Nat) (r s : Nat → Int32) (e : Int32) (b c : Nat → Int32), (∀ p, p < N → r p = s p) → (∀ p, p < N → b p = c p) → (scn N E S d r e b).1 = (scn N E S d s e c).1 ∧ ∀ p, p < N → (scn N E S d r e b).2 p = (scn N E S d s e c).2 p
  | 0, r, s, e, b, c, _, hb => ⟨rfl, hb⟩
  | d + 1, r, s, e, b, c, hr, hb => by
    rcases nxR_congr hr with ⟨h1, h2⟩ | ⟨i, r', s', h1, h2, h3⟩
    · rw [scn_n h1, scn_n h2]
      exact ⟨rfl, hb⟩
    · by_cases q : e ≤ E r'
      · rw [scn_le h1 q, scn_le h2 (by rw [← hE r' s' h3]; exact q)]
        exact scn_congr hE hS d r' s' e b c h3 hb
      · by_cases t : S r'
        · rw [scn_sk h1 t, scn_sk h2 ((hS r' s' h3).mp t)]
          exact scn_congr hE hS d r' s' e b c h3 hb
        · rw [scn_gt h1 q t, scn_gt h2 (by rw [← hE r' s' h3]; exact q) (fun w => t ((hS r' s' h3).mpr w)), ← hE r' s' h3]
          exact scn_congr hE hS d r' s' _ r' s' h3 h3
def Sk (y : Int32) (μ : Mem) (N : Nat) (r : Nat → Int32) : Prop := ¬ y = 0 ∧ ∀ p, p < N → r p = μ 14 p
theorem Sk.congr {y : Int32} {μ : Mem} {N : Nat} (r s : Nat → Int32) (h : ∀ p, p < N → r p = s p) : Sk y μ N r ↔ Sk y μ N s :=
  ⟨fun q => ⟨q.1, fun p hp => (h p hp).symm.trans (q.2 p hp)⟩, fun q => ⟨q.1, fun p hp => (h p hp).trans (q.2 p hp)⟩⟩
theorem c_row {N l m i : Nat} {μ0 μ : Mem} {r : Nat → Int32} (hL : RelN wq N (CL μ0) (MT μ0 0)) (h8 : N ≤ 8) (hl : l ≤ 2) (hm : m ≤ 5) (h2 : l = 2 → 1 ≤ m) (h5 : μ0 55 5 = nI l) (h6 : μ0 55 6 = nI m) (hP : PermF r N) (hi : i ≤ N) (hk : ∀ k, k ≠ 72 → k ≠ 79 → (k < 56 ∨ 60 < k) → μ k = μ0 k) (h72 : μ 72 = r) (hK : KN l m (fun p => μ0 10 (tn (r p))) (fun p => μ0 11 (tn (r p))) i μ) : ∃ μ', fX1_endOf FF 72 (nI i) μ = some (eN l m μ0 N r, μ') ∧ (∀ k, k < 56 ∨ 60 < k → μ' k = μ k) ∧ KN l m (fun p => μ0 10 (tn (r p))) (fun p => μ0 11 (tn (r p))) N μ' := by
  obtain ⟨p1, p2⟩ := hP.inj (by omega)
  refine c_end_loop (by omega) (show N ≤ ln 72 from h8) (by omega) hl hm h2 (N - i) FF i μ (by omega) (by rw [FF_e]; omega) ⟨by rw [hk 9 (by omega) (by omega) (by omega)]; exact hL.2.1, fun p hp => ⟨tn (r p), ?_, ?_, ?_, ?_⟩⟩ ?_ ?_ hK
  · have := p1.1 p hp
    have this : tn (r p) < N := this
    omega
  · rw [h72]; exact p2 p hp
  · rw [hk 10 (by omega) (by omega) (by omega)]
  · rw [hk 11 (by omega) (by omega) (by omega)]
  · rw [hk 55 (by omega) (by omega) (by omega)]; exact h5
  · rw [hk 55 (by omega) (by omega) (by omega)]; exact h6
theorem c_scan {N l m : Nat} {y1 : Int32} {μ0 : Mem} (hL : RelN wq N (CL μ0) (MT μ0 0)) (h7 : N ≤ 7) (hl : l ≤ 2) (hm : m ≤ 5) (h2 : l = 2 → 1 ≤ m) (h71 : μ0 71 1 = nI N) (h5 : μ0 55 5 = nI l) (h6 : μ0 55 6 = nI m) : ∀ (d n c : Nat) (r b : Nat → Int32) (e : Int32) (μ : Mem), PermF r N → 5040 ≤ rkR N r + d → c ≤ rkR N r → d < n → (∀ k, k ≠ 72 → k ≠ 79 → (k < 56 ∨ 60 < k) → μ k = μ0 k) → μ 72 = r → (∀ p, p < N → μ 79 p = b p) → KN l m (fun p => μ0 10 (tn (r p))) (fun p => μ0 11 (tn (r p))) N μ →
    ∃ μ', fX8_leastOfAllRows_109 FF (fX8_leastOfAllRows_23 FF n) y1 e (nI c) μ = some ((scn N (eN l m μ0 N) (Sk y1 μ0 N) d r e b).1, μ') ∧ (∀ p, p < N → μ' 79 p = (scn N (eN l m μ0 N) (Sk y1 μ0 N) d r e b).2 p) ∧ ∀ k, k ≠ 72 → k ≠ 79 → (k < 56 ∨ 60 < k) → μ' k = μ0 k := by
  intro d
  induction d with
  | zero =>
    intro n c r b e μ hP hd
    have := rkR_b hP (Or.inl h7)
    omega
  | succ d ih =>
    intro n c r b e μ hP hd hc hn hk h72 h79 hK
    obtain ⟨n, rfl⟩ : ∃ n', n = n' + 1 := ⟨n - 1, by omega⟩
    have rb := rkR_b hP (Or.inl h7)
    have eμ : μ = upM μ 72 r := by rw [← h72, upM_id]
    have st := c_step0 (N := N) (μ := μ) (r := r) (by omega) (by rw [hk 71 (by omega) (by omega) (by omega)]; exact h71)
    rw [← eμ] at st
    have e0 : fX8_leastOfAllRows_109 FF (fX8_leastOfAllRows_23 FF (n + 1)) y1 e (nI c) μ = cal (fX6_step FF μ) (fun r7 m6 => fX8_leastOfAllRows_23 FF (n + 1) y1 e r7 (nI (c + 1)) m6) := by
      unfold fX8_leastOfAllRows_109
      rw [nI_add1]
    rw [e0, st]
    cases hx : nxR N r with
    | none =>
      rw [scn_n hx]
      refine ⟨μ, ?_, h79, hk⟩
      show fX8_leastOfAllRows_23_b FF _ _ _ _ _ _ = _
      unfold fX8_leastOfAllRows_23_b
      by_cases q : (5040 : Int32) ≤ nI (c + 1)
      · rw [if_pos q]
      · rw [if_neg q, if_pos (show (-1 : Int32) < 0 by decide)]
    | some v =>
      obtain ⟨i, r'⟩ := v
      obtain ⟨s1, s2, s3, s4⟩ := nxR_some hx
      have hP' := (nxR_perm hP hx).1
      have rl := rkR_lt (by omega) hP hx
      have rb' := rkR_b hP' (Or.inl h7)
      obtain ⟨μe, g1, g2, g3⟩ := c_row (i := i) (μ := upM μ 72 r') hL (by omega) hl hm h2 h5 h6 hP' (by omega) (fun k q1 q2 q3 => by rw [upM_ne q1]; exact hk k q1 q2 q3) upM_self (fun p hp => by
        have := ((hK.mono (show i ≤ N by omega)).congr (X' := fun p => μ0 10 (tn (r' p))) (B' := fun p => μ0 11 (tn (r' p))) (fun p hp => by rw [s2 p hp]; exact ⟨rfl, rfl⟩)) p hp
        rw [upM_ne (by omega), upM_ne (by omega), upM_ne (by omega), upM_ne (by omega), upM_ne (by omega)]
        exact this)
      have ke : ∀ k, k ≠ 72 → k ≠ 79 → (k < 56 ∨ 60 < k) → μe k = μ0 k := fun k q1 q2 q3 => by rw [g2 k q3, upM_ne q1]; exact hk k q1 q2 q3
      have e72 : μe 72 = r' := by rw [g2 72 (by omega), upM_self]
      have e79 : μe 79 = μ 79 := by rw [g2 79 (by omega), upM_ne (by omega)]
      have skip := ih n (c + 1) r' b e μe hP' (by omega) (by omega) (by omega) ke e72 (fun p hp => by rw [e79]; exact h79 p hp) g3
      obtain ⟨μ8, f8, a8, b8, c8⟩ := cp_x (μ := μe) (a := 72) (b := 79) (n := N) (by show N ≤ 8; omega) (by show N ≤ 40; omega)
      have recd := ih n (c + 1) r' r' (eN l m μ0 N r') μ8 hP' (by omega) (by omega) (by omega) (fun k q1 q2 q3 => by rw [c8 k q2]; exact ke k q1 q2 q3) (by rw [c8 72 (by omega)]; exact e72) (fun p hp => by rw [a8 p hp, e72]) (fun p hp => by
        rw [c8 56 (by omega), c8 57 (by omega), c8 58 (by omega), c8 59 (by omega), c8 60 (by omega)]
        exact g3 p hp)
      have e9 : μe 9 6 = nI N := by rw [ke 9 (by omega) (by omega) (by omega)]; exact hL.2.1
      have e83 : fX8_leastOfAllRows_83 FF (fX8_leastOfAllRows_23 FF n) y1 (nI (c + 1)) (eN l m μ0 N r') μe = fX8_leastOfAllRows_109 FF (fX8_leastOfAllRows_23 FF n) y1 (eN l m μ0 N r') (nI (c + 1)) μ8 := by
        unfold fX8_leastOfAllRows_83
        rw [e9, f8]
      have goal : cal (some (nI i, upM μ 72 r')) (fun r7 m6 => fX8_leastOfAllRows_23 FF (n + 1) y1 e r7 (nI (c + 1)) m6) = if e ≤ eN l m μ0 N r' then fX8_leastOfAllRows_109 FF (fX8_leastOfAllRows_23 FF n) y1 e (nI (c + 1)) μe else if y1 = 0 then fX8_leastOfAllRows_109 FF (fX8_leastOfAllRows_23 FF n) y1 (eN l m μ0 N r') (nI (c + 1)) μ8 else cal (fX3_isOrder FF 72 μe) (fun r5 m4 => if r5 = 0 then fX8_leastOfAllRows_83 FF (fX8_leastOfAllRows_23 FF n) y1 (nI (c + 1)) (eN l m μ0 N r') m4 else fX8_leastOfAllRows_109 FF (fX8_leastOfAllRows_23 FF n) y1 e (nI (c + 1)) m4) := by
        rw [cal_n]
        show fX8_leastOfAllRows_23_b FF _ _ _ _ _ _ = _
        unfold fX8_leastOfAllRows_23_b
        rw [show (5040 : Int32) = nI 5040 from rfl, if_neg (nI_ge (by omega) (by omega)), if_neg (nI_pos (by omega)), g1, cal_n, e83]
      rw [goal]
      by_cases q : e ≤ eN l m μ0 N r'
      · rw [if_pos q, scn_le hx q]
        exact skip
      · rw [if_neg q]
        by_cases y0 : y1 = 0
        · rw [if_pos y0, scn_gt hx q (fun w => w.1 y0)]
          exact recd
        · rw [if_neg y0]
          rcases c_isOrd (N := N) (k := 72) (μ := μe) (by omega) (by show N ≤ 8; omega) e9 with ⟨o1, o2⟩ | ⟨o1, o2⟩
          · rw [o2, cal_n, if_neg one_ne, scn_sk hx ⟨y0, fun p hp => by
              have := o1 p hp
              rw [e72, ke 14 (by omega) (by omega) (by omega)] at this
              exact this⟩]
            exact skip
          · rw [o2, cal_n, if_pos rfl, e83, scn_gt hx q (fun w => o1 (fun p hp => by
              rw [e72, ke 14 (by omega) (by omega) (by omega)]
              exact w.2 p hp))]
            exact recd
end
section
/-! all rows from the first on -/
variable {wq : Prop}
def idR : Nat → Int32 := fun p => nI p
theorem idR_perm {N : Nat} : PermF idR N := ⟨fun i => i, fun i => i, fun i hi => ⟨hi, rfl, rfl⟩, fun i hi => ⟨hi, rfl⟩⟩
noncomputable def sca (N : Nat) (E : (Nat → Int32) → Int32) (S : (Nat → Int32) → Prop) (b0 : Nat → Int32) : Int32 × (Nat → Int32) :=
  @ite _ (S idR) (Classical.propDecidable _) (scn N E S 5040 idR 2147483647 b0) (scn N E S 5040 idR (E idR) idR)
theorem eN_of {l m N : Nat} {μ ν : Mem} (h1 : ν 10 = μ 10) (h2 : ν 11 = μ 11) : eN l m ν N = eN l m μ N := by
  funext r
  unfold eN
  rw [h1, h2]
theorem Sk_of {y : Int32} {N : Nat} {μ ν : Mem} (h : ν 14 = μ 14) : Sk y ν N = Sk y μ N := by
  funext r
  unfold Sk
  rw [h]
theorem max_nle {e : Nat} (h : e ≤ 8000000) : ¬ (2147483647 : Int32) ≤ nI e := by
  rw [Int32.le_iff_toInt_le, nI_toInt (by omega), show (2147483647 : Int32).toInt = 2147483647 from rfl]
  omega
theorem c_all {N l m : Nat} {y1 : Int32} {μ μs : Mem} (hL : RelN wq N (CL μ) (MT μ 0)) (h7 : N ≤ 7) (hl : l ≤ 2) (hm : m ≤ 5) (h2 : l = 2 → 1 ≤ m) (hs : ∀ k, k ≠ 55 → μs k = μ k) (h5 : μs 55 5 = nI l) (h6 : μs 55 6 = nI m) :
    ∃ μ', fX8_leastOfAllRows FF y1 μs = some ((sca N (eN l m μ N) (Sk y1 μ N) (μ 79)).1, μ') ∧ (∀ p, p < N → μ' 79 p = (sca N (eN l m μ N) (Sk y1 μ N) (μ 79)).2 p) ∧ ∀ k, k ≠ 71 → k ≠ 72 → k ≠ 79 → (k < 55 ∨ 60 < k) → μ' k = μ k := by
  obtain ⟨μb, b1, b2, b3, b4⟩ := c_begin (N := N) (μ := μs) (by omega)
  have bk : ∀ k, k ≠ 55 → k ≠ 71 → k ≠ 72 → μb k = μ k := fun k q1 q2 q3 => by rw [b4 k q2 q3, hs k q1]
  have hLb : RelN wq N (CL μb) (MT μb 0) := by
    have e1 : CL μb = CL μ := by
      unfold CL
      rw [bk 9 (by omega) (by omega) (by omega), bk 10 (by omega) (by omega) (by omega), bk 11 (by omega) (by omega) (by omega), bk 12 (by omega) (by omega) (by omega), bk 13 (by omega) (by omega) (by omega), bk 14 (by omega) (by omega) (by omega)]
    have e2 : MT μb 0 = MT μ 0 := by
      unfold MT
      rw [bk 94 (by omega) (by omega) (by omega), bk 95 (by omega) (by omega) (by omega), bk 96 (by omega) (by omega) (by omega), bk 97 (by omega) (by omega) (by omega), bk 98 (by omega) (by omega) (by omega), bk 99 (by omega) (by omega) (by omega)]
    rw [e1, e2]
    exact hL
  have q5 : μb 55 5 = nI l := by rw [b4 55 (by omega) (by omega)]; exact h5
  have q6 : μb 55 6 = nI m := by rw [b4 55 (by omega) (by omega)]; exact h6
  have eE : eN l m μb N = eN l m μ N := eN_of (bk 10 (by omega) (by omega) (by omega)) (bk 11 (by omega) (by omega) (by omega))
  have eS : Sk y1 μb N = Sk y1 μ N := Sk_of (bk 14 (by omega) (by omega) (by omega))
  have hr : ∀ p, p < N → μb 72 p = idR p := fun p hp => b3 p hp
  have hP : PermF (μb 72) N := idR_perm.congr hr
  obtain ⟨μe, g1, g2, g3⟩ := c_row (i := 0) (μ := μb) hLb (by omega) hl hm h2 q5 q6 hP (by omega) (fun k _ _ _ => rfl) rfl (fun p hp => by omega)
  have e9 : μe 9 6 = nI N := by rw [g2 9 (by omega)]; exact hLb.2.1
  have e72 : μe 72 = μb 72 := g2 72 (by omega)
  have e79 : μe 79 = μ 79 := by rw [g2 79 (by omega), bk 79 (by omega) (by omega) (by omega)]
  obtain ⟨ee, le, hee⟩ := eN_b hLb h2 hP
  have hE0 : eN l m μb N (μb 72) = eN l m μ N idR := by rw [eE]; exact eN_congr hr
  have cE : ∀ r s : Nat → Int32, (∀ p, p < N → r p = s p) → eN l m μ N r = eN l m μ N s := fun r s h => eN_congr h
  obtain ⟨n, hn⟩ : ∃ n, FF = n + 1 := ⟨9999999, rfl⟩
  have n1 : 5040 < n := by rw [FF_e] at hn; omega
  have start : fX8_leastOfAllRows FF y1 μs = if y1 = 0 then fX8_leastOfAllRows_83 FF (fX8_leastOfAllRows_23 FF n) y1 (nI 0) (eN l m μb N (μb 72)) μe else cal (fX3_isOrder FF 72 μe) (fun r5 m4 => if r5 = 0 then fX8_leastOfAllRows_83 FF (fX8_leastOfAllRows_23 FF n) y1 (nI 0) (eN l m μb N (μb 72)) m4 else fX8_leastOfAllRows_109 FF (fX8_leastOfAllRows_23 FF n) y1 2147483647 (nI 0) m4) := by
    unfold fX8_leastOfAllRows
    rw [show μs 9 6 = nI N from by rw [hs 9 (by omega)]; exact hL.2.1, b1, cav_n]
    have : fX8_leastOfAllRows_23 FF FF y1 2147483647 0 0 μb = fX8_leastOfAllRows_23 FF (n + 1) y1 2147483647 (nI 0) (nI 0) μb := by rw [← hn]; rfl
    rw [this]
    show fX8_leastOfAllRows_23_b FF _ _ _ _ _ _ = _
    unfold fX8_leastOfAllRows_23_b
    rw [show (5040 : Int32) = nI 5040 from rfl, if_neg (nI_ge (by omega) (by omega)), if_neg (nI_pos (by omega)), g1, cal_n, if_neg (by rw [hee]; exact max_nle le)]
  have skip := c_scan (y1 := y1) (μ0 := μb) hLb h7 hl hm h2 b2 q5 q6 5040 n 0 (μb 72) (μ 79) 2147483647 μe hP (by omega) (by omega) n1 (fun k _ _ q3 => g2 k q3) e72 (fun p hp => by rw [e79]) g3
  obtain ⟨μ8, f8, a8, b8, c8⟩ := cp_x (μ := μe) (a := 72) (b := 79) (n := N) (by show N ≤ 8; omega) (by show N ≤ 40; omega)
  have recd := c_scan (y1 := y1) (μ0 := μb) hLb h7 hl hm h2 b2 q5 q6 5040 n 0 (μb 72) (μb 72) (eN l m μb N (μb 72)) μ8 hP (by omega) (by omega) n1 (fun k _ q2 q3 => by rw [c8 k q2]; exact g2 k q3) (by rw [c8 72 (by omega)]; exact e72) (fun p hp => by rw [a8 p hp, e72]) (fun p hp => by
    rw [c8 56 (by omega), c8 57 (by omega), c8 58 (by omega), c8 59 (by omega), c8 60 (by omega)]
    exact g3 p hp)
  rw [eE, eS] at skip
  rw [hE0, eE, eS] at recd
  have e83 : fX8_leastOfAllRows_83 FF (fX8_leastOfAllRows_23 FF n) y1 (nI 0) (eN l m μb N (μb 72)) μe = fX8_leastOfAllRows_109 FF (fX8_leastOfAllRows_23 FF n) y1 (eN l m μ N idR) (nI 0) μ8 := by
    unfold fX8_leastOfAllRows_83
    rw [e9, f8, hE0]
  have frame : ∀ μ' : Mem, (∀ k, k ≠ 72 → k ≠ 79 → (k < 56 ∨ 60 < k) → μ' k = μb k) → ∀ k, k ≠ 71 → k ≠ 72 → k ≠ 79 → (k < 55 ∨ 60 < k) → μ' k = μ k := fun μ' h k w1 w2 w3 w4 => by rw [h k w2 w3 (by omega), bk k (by omega) w1 w2]
  have outR : ¬ Sk y1 μ N idR → fX8_leastOfAllRows FF y1 μs = fX8_leastOfAllRows_109 FF (fX8_leastOfAllRows_23 FF n) y1 (eN l m μ N idR) (nI 0) μ8 → ∃ μ', fX8_leastOfAllRows FF y1 μs = some ((sca N (eN l m μ N) (Sk y1 μ N) (μ 79)).1, μ') ∧ (∀ p, p < N → μ' 79 p = (sca N (eN l m μ N) (Sk y1 μ N) (μ 79)).2 p) ∧ ∀ k, k ≠ 71 → k ≠ 72 → k ≠ 79 → (k < 55 ∨ 60 < k) → μ' k = μ k := fun hS he => by
    obtain ⟨μ', w1, w2, w3⟩ := recd
    obtain ⟨z1, z2⟩ := scn_congr (S := Sk y1 μ N) cE Sk.congr 5040 (μb 72) idR (eN l m μ N idR) (μb 72) idR hr hr
    have es : sca N (eN l m μ N) (Sk y1 μ N) (μ 79) = scn N (eN l m μ N) (Sk y1 μ N) 5040 idR (eN l m μ N idR) idR := if_neg hS
    rw [es, he, ← z1]
    exact ⟨μ', w1, fun p hp => (w2 p hp).trans (z2 p hp), frame μ' w3⟩
  rw [e83] at start
  by_cases y0 : y1 = 0
  · rw [if_pos y0] at start
    exact outR (fun w => w.1 y0) start
  · rw [if_neg y0] at start
    rcases c_isOrd (N := N) (k := 72) (μ := μe) (by omega) (by show N ≤ 8; omega) e9 with ⟨o1, o2⟩ | ⟨o1, o2⟩
    · rw [o2, cal_n, if_neg one_ne] at start
      have hS : Sk y1 μ N idR := ⟨y0, fun p hp => by
        have := o1 p hp
        rw [e72, g2 14 (by omega), bk 14 (by omega) (by omega) (by omega)] at this
        exact (hr p hp).symm.trans this⟩
      obtain ⟨μ', w1, w2, w3⟩ := skip
      obtain ⟨z1, z2⟩ := scn_congr (S := Sk y1 μ N) cE Sk.congr 5040 (μb 72) idR 2147483647 (μ 79) (μ 79) hr (fun _ _ => rfl)
      have es : sca N (eN l m μ N) (Sk y1 μ N) (μ 79) = scn N (eN l m μ N) (Sk y1 μ N) 5040 idR 2147483647 (μ 79) := if_pos hS
      rw [es, start, ← z1]
      exact ⟨μ', w1, fun p hp => (w2 p hp).trans (z2 p hp), frame μ' w3⟩
    · rw [o2, cal_n, if_pos rfl, e83] at start
      exact outR (fun w => o1 (fun p hp => by
        rw [e72, g2 14 (by omega), bk 14 (by omega) (by omega) (by omega), hr p hp]
        exact w.2 p hp)) start
end
section
/-! the reference goes through all rows -/
variable {wq : Prop}
theorem m_row {N l m : Nat} {μ0 μ : Mem} {r : Nat → Int32} (hL : RelN wq N (CL μ0) (MT μ0 0)) (hl : l ≤ 2) (hm : m ≤ 5) (h2 : l = 2 → 1 ≤ m) (hP : PermF r N) (hk : ∀ k, 94 ≤ k → k ≤ 96 → μ k = μ0 k) (hr : μ 105 = r) : ∃ μ', fX9_endOf FF 105 (nI l) (nI m) μ = some (eN l m μ0 N r, μ') ∧ ∀ k, k < 103 ∨ 104 < k → μ' k = μ k := by
  obtain ⟨p1, p2⟩ := hP.inj hL.1
  have hN := hL.1
  obtain ⟨μ', a, b, c⟩ := m_day (l := l) (m := m) (k1 := 105) (X := fun p => μ0 10 (tn (r p))) (B := fun p => μ0 11 (tn (r p))) (μ := μ) hN (by show N ≤ 40; omega) (by omega) hl hm h2 ⟨by rw [hk 94 (by omega) (by omega)]; exact hL.2.2.1, fun p hp => ⟨tn (r p), by
    have := p1.1 p hp
    have this : tn (r p) < N := this
    omega, by rw [hr]; exact p2 p hp, by rw [hk 95 (by omega) (by omega)]; exact (hL.eqs (p1.1 p hp)).1.symm, by rw [hk 96 (by omega) (by omega)]; exact (hL.eqs (p1.1 p hp)).2.1.symm⟩⟩
  exact ⟨μ', a, b⟩
theorem m_scan {N l m : Nat} {y1 : Int32} {μ0 ν : Mem} (hy : y1 = 0) (hL : RelN wq N (CL μ0) (MT μ0 0)) (h7 : N ≤ 7) (hl : l ≤ 2) (hm : m ≤ 5) (h2 : l = 2 → 1 ≤ m) (hν : ∀ k, 94 ≤ k → k ≤ 99 → ν k = μ0 k) : ∀ (d n : Nat) (r b : Nat → Int32) (e : Int32) (μ : Mem), PermF r N → 5040 ≤ rkR N r + d → d < n → (∀ k, k ≠ 89 → k ≠ 100 → k ≠ 103 → k ≠ 104 → k ≠ 105 → μ k = ν k) → (∀ j, j ≠ 12 → j ≠ 14 → j ≠ 15 → μ 89 j = ν 89 j) → μ 89 12 = nI N → μ 89 14 = 1 → μ 89 15 = 1 → μ 105 = r → (∀ p, p < N → μ 100 p = b p) →
    ∃ μ', fX9_least_89 FF n (nI l) (nI m) e μ = some ((scn N (eN l m μ0 N) (Sk y1 μ0 N) d r e b).1, μ') ∧ (∀ p, p < N → μ' 100 p = (scn N (eN l m μ0 N) (Sk y1 μ0 N) d r e b).2 p) ∧ (∀ k, k ≠ 89 → k ≠ 100 → k ≠ 103 → k ≠ 104 → k ≠ 105 → μ' k = ν k) ∧ (∀ j, j ≠ 12 → j ≠ 14 → j ≠ 15 → μ' 89 j = ν 89 j) ∧ μ' 89 12 = nI N ∧ μ' 89 14 = 1 ∧ μ' 89 15 = 1 := by
  intro d
  induction d with
  | zero =>
    intro n r b e μ hP hd
    have := rkR_b hP (Or.inl h7)
    omega
  | succ d ih =>
    intro n r b e μ hP hd hn hk hj h12 h14 h15 hr hb
    obtain ⟨n, rfl⟩ : ∃ n', n = n' + 1 := ⟨n - 1, by omega⟩
    have eμ : μ = upM μ 105 r := by rw [← hr, upM_id]
    have st := m_step0 (N := N) (μ := μ) (r := r) (by omega) (by rw [hk 94 (by omega) (by omega) (by omega) (by omega) (by omega), hν 94 (by omega) (by omega)]; exact hL.2.2.1)
    rw [← eμ] at st
    have e0 : fX9_least_89 FF (n + 1) (nI l) (nI m) e μ = cal (fX9_nextRow FF μ) (fun r15 m14 => (if r15 = 0 then some (e, m14) else cal (fX9_endOf FF 105 (nI l) (nI m) m14) (fun r17 m16 => (if e ≤ r17 then fX9_least_89 FF n (nI l) (nI m) e m16 else cav (fX9_finds FF 105 m16) (fun m18 => fX9_least_89 FF n (nI l) (nI m) r17 m18))))) := rfl
    rw [e0, st]
    cases hx : nxR N r with
    | none =>
      rw [scn_n hx]
      exact ⟨μ, rfl, hb, hk, hj, h12, h14, h15⟩
    | some v =>
      obtain ⟨i, r'⟩ := v
      have hP' := (nxR_perm hP hx).1
      have rl := rkR_lt (by omega) hP hx
      obtain ⟨μe, g1, g2⟩ := m_row (μ0 := μ0) (μ := upM μ 105 r') hL hl hm h2 hP' (fun k q1 q2 => by rw [upM_ne (by omega), hk k (by omega) (by omega) (by omega) (by omega) (by omega)]; exact hν k q1 (by omega)) upM_self
      have ke : ∀ k, k ≠ 89 → k ≠ 100 → k ≠ 103 → k ≠ 104 → k ≠ 105 → μe k = ν k := fun k q1 q2 q3 q4 q5 => by rw [g2 k (by omega), upM_ne q5]; exact hk k q1 q2 q3 q4 q5
      have e105 : μe 105 = r' := by rw [g2 105 (by omega), upM_self]
      have e100 : μe 100 = μ 100 := by rw [g2 100 (by omega), upM_ne (by omega)]
      have e89 : μe 89 = μ 89 := by rw [g2 89 (by omega), upM_ne (by omega)]
      have skip := ih n r' b e μe hP' (by omega) (by omega) ke (fun j q1 q2 q3 => by rw [e89]; exact hj j q1 q2 q3) (by rw [e89]; exact h12) (by rw [e89]; exact h14) (by rw [e89]; exact h15) e105 (fun p hp => by rw [e100]; exact hb p hp)
      obtain ⟨μ8, f1, f2, f3, f4, f5, f6, f7⟩ := m_finds (N := N) (μ := μe) (by omega) (by rw [ke 94 (by omega) (by omega) (by omega) (by omega) (by omega), hν 94 (by omega) (by omega)]; exact hL.2.2.1)
      have recd := ih n r' r' (eN l m μ0 N r') μ8 hP' (by omega) (by omega) (fun k q1 q2 q3 q4 q5 => by rw [f7 k q1 q2]; exact ke k q1 q2 q3 q4 q5) (fun j q1 q2 q3 => by rw [f6 j q1 q2 q3, e89]; exact hj j q1 q2 q3) f3 f4 f5 (by rw [f7 105 (by omega) (by omega)]; exact e105) (fun p hp => by rw [f2 p hp, e105])
      show ∃ μ', cal (some ((1 : Int32), upM μ 105 r')) _ = _ ∧ _
      rw [cal_n, if_neg one_ne, g1, cal_n]
      by_cases q : e ≤ eN l m μ0 N r'
      · rw [if_pos q, scn_le hx q]
        exact skip
      · rw [if_neg q, f1, cav_n, scn_gt hx q (fun w => w.1 hy)]
        exact recd
def enc (e : Int32) : Int32 := if e = 2147483647 then -1 else e
def Rcd (e : Int32) : Prop := ∃ x, x ≤ 8000000 ∧ e = nI x
theorem Rcd.enc {e : Int32} (h : Rcd e) : enc e = e ∧ ¬ e < 0 := by
  obtain ⟨x, hx, rfl⟩ := h
  refine ⟨if_neg (fun q => max_nle hx (by rw [q]; decide)), nI_pos (by omega)⟩
theorem m_scan2 {N l m : Nat} {y1 : Int32} {μ0 ν κ : Mem} (hκ : ∀ p, p < N → κ 14 p = μ0 99 p) (hy : ¬ y1 = 0) (hL : RelN wq N (CL μ0) (MT μ0 0)) (h7 : N ≤ 7) (hl : l ≤ 2) (hm : m ≤ 5) (h2 : l = 2 → 1 ≤ m) (hν : ∀ k, 94 ≤ k → k ≤ 99 → ν k = μ0 k) : ∀ (d n : Nat) (r b : Nat → Int32) (e : Int32) (μ : Mem), PermF r N → 5040 ≤ rkR N r + d → d < n → (e = 2147483647 ∨ Rcd e) → (∀ k, k ≠ 103 → k ≠ 104 → k ≠ 105 → μ k = ν k) → μ 105 = r →
    ∃ μ', cal (fX9_nextRow FF μ) (fun rr mm => fX9_second_46 FF n (nI l) (nI m) (enc e) rr mm) = some (enc (scn N (eN l m μ0 N) (Sk y1 κ N) d r e b).1, μ') ∧ ∀ k, k ≠ 103 → k ≠ 104 → k ≠ 105 → μ' k = ν k := by
  intro d
  induction d with
  | zero =>
    intro n r b e μ hP hd
    have := rkR_b hP (Or.inl h7)
    omega
  | succ d ih =>
    intro n r b e μ hP hd hn he hk hr
    obtain ⟨n, rfl⟩ : ∃ n', n = n' + 1 := ⟨n - 1, by omega⟩
    have eμ : μ = upM μ 105 r := by rw [← hr, upM_id]
    have h94 : ν 94 0 = nI N := by rw [hν 94 (by omega) (by omega)]; exact hL.2.2.1
    have st := m_step0 (N := N) (μ := μ) (r := r) (by omega) (by rw [hk 94 (by omega) (by omega) (by omega)]; exact h94)
    rw [← eμ] at st
    rw [st]
    cases hx : nxR N r with
    | none =>
      rw [scn_n hx]
      refine ⟨μ, ?_, hk⟩
      show cal (some ((0 : Int32), μ)) _ = _
      rw [cal_n]
      show fX9_second_46_b FF _ _ _ _ _ _ = _
      unfold fX9_second_46_b
      rw [if_pos rfl]
    | some v =>
      obtain ⟨i, r'⟩ := v
      have hP' := (nxR_perm hP hx).1
      have rl := rkR_lt (by omega) hP hx
      have k0 : ∀ k, k ≠ 103 → k ≠ 104 → k ≠ 105 → upM μ 105 r' k = ν k := fun k q1 q2 q3 => by rw [upM_ne q3]; exact hk k q1 q2 q3
      obtain ⟨μe, g1, g2⟩ := m_row (μ0 := μ0) (μ := upM μ 105 r') hL hl hm h2 hP' (fun k q1 q2 => by rw [k0 k (by omega) (by omega) (by omega)]; exact hν k q1 (by omega)) upM_self
      have ke : ∀ k, k ≠ 103 → k ≠ 104 → k ≠ 105 → μe k = ν k := fun k q1 q2 q3 => by rw [g2 k (by omega)]; exact k0 k q1 q2 q3
      have e105 : μe 105 = r' := by rw [g2 105 (by omega), upM_self]
      have hE : Rcd (eN l m μ0 N r') := eN_b hL h2 hP'
      show ∃ μ', cal (some ((1 : Int32), upM μ 105 r')) _ = _ ∧ _
      rw [cal_n]
      show ∃ μ', fX9_second_46_b FF _ _ _ _ _ _ = _ ∧ _
      unfold fX9_second_46_b
      rw [if_neg one_ne]
      rcases m_isOrd (N := N) (μ := upM μ 105 r') (by omega) (by rw [k0 94 (by omega) (by omega) (by omega)]; exact h94) with ⟨o1, o2⟩ | ⟨o1, o2⟩
      · rw [o2, cal_n, if_neg one_ne, scn_sk hx ⟨hy, fun p hp => by
          have := o1 p hp
          rw [upM_self, k0 99 (by omega) (by omega) (by omega), hν 99 (by omega) (by omega)] at this
          exact this.trans (hκ p hp).symm⟩]
        exact ih n r' b e _ hP' (by omega) (by omega) he k0 upM_self
      · have nS : ¬ Sk y1 κ N r' := fun w => o1 (fun p hp => by
          rw [upM_self, k0 99 (by omega) (by omega) (by omega), hν 99 (by omega) (by omega)]
          exact (w.2 p hp).trans (hκ p hp))
        rw [o2, cal_n, if_pos rfl, g1, cal_n]
        have recd := ih n r' r' (eN l m μ0 N r') μe hP' (by omega) (by omega) (Or.inr hE) ke e105
        rw [hE.enc.1] at recd
        rcases he with rfl | he
        · rw [show enc 2147483647 = -1 from rfl, if_pos (show (-1 : Int32) < 0 by decide), scn_gt hx (by
            obtain ⟨x, hx1, hx2⟩ := hE
            rw [hx2]
            exact max_nle hx1) nS]
          exact recd
        · rw [he.enc.1, if_neg he.enc.2]
          by_cases q : e ≤ eN l m μ0 N r'
          · rw [if_pos q, scn_le hx q]
            have s := ih n r' b e μe hP' (by omega) (by omega) (Or.inr he) ke e105
            rw [he.enc.1] at s
            exact s
          · rw [if_neg q, scn_gt hx q nS]
            exact recd
theorem scn_rcd {N : Nat} {E : (Nat → Int32) → Int32} {S : (Nat → Int32) → Prop} (hE : ∀ r, PermF r N → Rcd (E r)) : ∀ (d : Nat) (r b : Nat → Int32) (e : Int32), PermF r N → Rcd e → Rcd (scn N E S d r e b).1
  | 0, _, _, _, _, h => h
  | d + 1, r, b, e, hP, h => by
    cases hx : nxR N r with
    | none => rw [scn_n hx]; exact h
    | some v =>
      obtain ⟨i, r'⟩ := v
      have hP' := (nxR_perm hP hx).1
      by_cases q : e ≤ E r'
      · rw [scn_le hx q]; exact scn_rcd hE d r' b e hP' h
      · by_cases t : S r'
        · rw [scn_sk hx t]; exact scn_rcd hE d r' b e hP' h
        · rw [scn_gt hx q t]; exact scn_rcd hE d r' r' _ hP' (hE r' hP')
end
