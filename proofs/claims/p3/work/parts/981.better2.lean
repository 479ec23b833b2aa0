/-! better: the reference's passes, and the op, if the passes are not too many -/
variable {wq : Prop}
theorem m_row99 {N l m : Nat} {μ0 μ : Mem} {r : Nat → Int32} (hL : RelN wq N (CL μ0) (MT μ0 0)) (hl : l ≤ 2) (hm : m ≤ 5) (h2 : l = 2 → 1 ≤ m) (hP : PermF r N) (h94 : μ 94 0 = nI N) (h5 : ∀ i, i < N → μ 95 i = μ0 10 i ∧ μ 96 i = μ0 11 i) (hr : ∀ p, p < N → μ 99 p = r p) : ∃ μ', fX9_endOf FF 99 (nI l) (nI m) μ = some (eN l m μ0 N r, μ') ∧ ∀ k, k < 103 ∨ 104 < k → μ' k = μ k := by
  obtain ⟨p1, p2⟩ := hP.inj hL.1
  have hN := hL.1
  obtain ⟨μ', a, b, c⟩ := m_day (l := l) (m := m) (k1 := 99) (X := fun p => μ0 10 (tn (r p))) (B := fun p => μ0 11 (tn (r p))) (μ := μ) hN (by show N ≤ 240; omega) (by omega) hl hm h2 ⟨h94, fun p hp => ⟨tn (r p), by
    have := p1.1 p hp
    have this : tn (r p) < N := this
    omega, by rw [hr p hp]; exact p2 p hp, (h5 _ (p1.1 p hp)).1, (h5 _ (p1.1 p hp)).2⟩⟩
  exact ⟨μ', a, b⟩
def fl (c : Nat) : Int32 := if c = 0 then 0 else 1
theorem m_pass {N l m D : Nat} {μ0 ν0 : Mem} (hL : RelN wq N (CL μ0) (MT μ0 0)) (hl : l ≤ 2) (hm : m ≤ 5) (h2 : l = 2 → 1 ≤ m) (h94 : ν0 94 0 = nI N) (h5 : ∀ i, i < N → ν0 95 i = μ0 10 i ∧ ν0 96 i = μ0 11 i) (rec32 : Int32 → Int32 → Int32 → Int32 → Int32 → Mem → Option (Int32 × Mem)) : ∀ (d n p c : Nat) (r : Nat → Int32) (e : Int32) (μ : Mem), p + d + 1 = N → d < n → PermF r N → (∀ k, k ≠ 99 → (k < 103 ∨ 104 < k) → μ k = ν0 k) → μ 99 = r →
    ∃ μ', fX9_better_43 FF rec32 n (nI l) (nI m) (nI (D + c)) e (fl c) (nI p) μ = rec32 (nI l) (nI m) (nI (D + (pas (eN l m μ0 N) d p r e c).2.2)) (pas (eN l m μ0 N) d p r e c).2.1 (fl (pas (eN l m μ0 N) d p r e c).2.2) μ' ∧ (∀ k, k ≠ 99 → (k < 103 ∨ 104 < k) → μ' k = ν0 k) ∧ μ' 99 = (pas (eN l m μ0 N) d p r e c).1 := by
  have hN := hL.1
  intro d
  induction d with
  | zero =>
    intro n p c r e μ hp hn hP hk h99
    obtain ⟨n, rfl⟩ : ∃ n', n = n' + 1 := ⟨n - 1, by omega⟩
    refine ⟨μ, ?_, hk, h99⟩
    show fX9_better_43_b FF rec32 _ _ _ _ _ _ _ μ = _
    unfold fX9_better_43_b
    rw [show (0 : Int32) = nI 0 from rfl, rd_n (by decide), hk 94 (by omega) (by omega), h94, nI_add1, if_pos (nI_le (by omega) (by omega))]
    rfl
  | succ d ih =>
    intro n p c r e μ hp hn hP hk h99
    obtain ⟨n, rfl⟩ : ∃ n', n = n' + 1 := ⟨n - 1, by omega⟩
    have hP' : PermF (swp r p (p + 1)) N := hP.swp (by omega) (by omega)
    have l1 : p < ln 99 := by show p < 240; omega
    have l2 : p + 1 < ln 99 := by show p + 1 < 240; omega
    have k0 : ∀ k, k ≠ 99 → (k < 103 ∨ 104 < k) → upM μ 99 (swp r p (p + 1)) k = ν0 k := fun k q1 q2 => by rw [upM_ne q1]; exact hk k q1 q2
    obtain ⟨μe, g1, g2⟩ := m_row99 (μ0 := μ0) (μ := upM μ 99 (swp r p (p + 1))) hL hl hm h2 hP' (by rw [k0 94 (by omega) (by omega)]; exact h94) (fun i hi => by rw [k0 95 (by omega) (by omega), k0 96 (by omega) (by omega)]; exact h5 i hi) (fun q _ => by rw [upM_self])
    have ke : ∀ k, k ≠ 99 → (k < 103 ∨ 104 < k) → μe k = ν0 k := fun k q1 q2 => by rw [g2 k q2]; exact k0 k q1 q2
    have e99 : μe 99 = swp r p (p + 1) := by rw [g2 99 (by omega), upM_self]
    have back : upd (upd (swp r p (p + 1)) (p + 1) (swp r p (p + 1) p)) p (r p) = r := by
      funext k
      by_cases c1 : k = p
      · rw [c1, upd_s]
      · rw [upd_ne c1]
        by_cases c2 : k = p + 1
        · rw [c2, upd_s, swp_e, if_neg (by omega), if_pos rfl]
        · rw [upd_ne c2, swp_e, if_neg c2, if_neg c1]
    have head : fX9_better_43 FF rec32 (n + 1) (nI l) (nI m) (nI (D + c)) e (fl c) (nI p) μ = if e ≤ eN l m μ0 N (swp r p (p + 1)) then fX9_better_43 FF rec32 n (nI l) (nI m) (nI (D + c)) e (fl c) (nI (p + 1)) (upM μe 99 r) else fX9_better_43 FF rec32 n (nI l) (nI m) (nI (D + (c + 1))) (eN l m μ0 N (swp r p (p + 1))) 1 (nI (p + 1)) μe := by
      show fX9_better_43_b FF rec32 _ _ _ _ _ _ _ μ = _
      unfold fX9_better_43_b
      rw [show (0 : Int32) = nI 0 from rfl, rd_n (by decide), hk 94 (by omega) (by omega), h94, nI_add1, if_neg (nI_ge (by omega) (by omega)), rd_n l1, rd_n l2, h99, wr_n l1, wr_n l2, upM_upM, h99]
      simp only [upM_self]
      rw [show upM μ 99 (upd (upd r p (r (p + 1))) (p + 1) (r p)) = upM μ 99 (swp r p (p + 1)) from rfl, g1, cal_n, rd_n l1, e99, wr_n l2, wr_n l1, upM_upM, upM_self, e99, back, nI_add1]
      rfl
    rw [head]
    by_cases q : e ≤ eN l m μ0 N (swp r p (p + 1))
    · rw [if_pos q, pas_le q]
      exact ih n (p + 1) c r e _ (by omega) (by omega) hP (fun k q1 q2 => by rw [upM_ne q1]; exact ke k q1 q2) upM_self
    · rw [if_neg q, pas_gt q]
      exact ih n (p + 1) (c + 1) _ _ μe (by omega) (by omega) hP' ke e99
theorem m_bet {N l m : Nat} {μ0 ν0 : Mem} (hL : RelN wq N (CL μ0) (MT μ0 0)) (h1 : 1 ≤ N) (hl : l ≤ 2) (hm : m ≤ 5) (h2 : l = 2 → 1 ≤ m) (h94 : ν0 94 0 = nI N) (h5 : ∀ i, i < N → ν0 95 i = μ0 10 i ∧ ν0 96 i = μ0 11 i) : ∀ (K n D : Nat) (y5 : Int32) (r : Nat → Int32) (μ : Mem), K + 1 < n → ¬ y5 = 0 → StpP (eN l m μ0 N) N K r → PermF r N → (∀ k, k ≠ 99 → (k < 103 ∨ 104 < k) → μ k = ν0 k) → μ 99 = r →
    ∃ μ', fX9_better_32 FF n (nI l) (nI m) (nI D) (eN l m μ0 N r) y5 μ = some (nI (D + toP (eN l m μ0 N) N K r), μ') ∧ (∀ k, k ≠ 99 → (k < 103 ∨ 104 < k) → μ' k = ν0 k) ∧ μ' 99 = itP (eN l m μ0 N) N K r := by
  have hN := hL.1
  intro K
  induction K with
  | zero =>
    intro n D y5 r μ hn hy hS hP hk h99
    obtain ⟨n, rfl⟩ : ∃ n', n = n' + 1 + 1 := ⟨n - 2, by omega⟩
    obtain ⟨μ', p1, p2, p3⟩ := m_pass (D := D) (ν0 := ν0) hL hl hm h2 h94 h5 (fX9_better_32 FF (n + 1)) (N - 1) FF 0 0 r (eN l m μ0 N r) μ (by omega) (by rw [FF_e]; omega) hP hk h99
    have hS' : (pas (eN l m μ0 N) (N - 1) 0 r (eN l m μ0 N r) 0).2.2 = 0 := hS
    have hr : (pas (eN l m μ0 N) (N - 1) 0 r (eN l m μ0 N r) 0).1 = r := (pas_inv (E := eN l m μ0 N) (N := N) (N - 1) 0 r (eN l m μ0 N r) 0 (by omega) hP rfl).2.2.2.2.1 hS'
    rw [hS'] at p1
    rw [hr] at p3
    refine ⟨μ', ?_, p2, p3⟩
    show fX9_better_32_b FF _ _ _ _ _ _ μ = _
    unfold fX9_better_32_b
    rw [if_neg hy]
    refine p1.trans ?_
    show fX9_better_32_b FF _ _ _ _ _ (fl 0) μ' = _
    unfold fX9_better_32_b
    rw [if_pos (show fl 0 = 0 from rfl)]
    rfl
  | succ K ih =>
    intro n D y5 r μ hn hy hS hP hk h99
    obtain ⟨n, rfl⟩ : ∃ n', n = n' + 1 := ⟨n - 1, by omega⟩
    obtain ⟨μ', p1, p2, p3⟩ := m_pass (D := D) (ν0 := ν0) hL hl hm h2 h94 h5 (fX9_better_32 FF n) (N - 1) FF 0 0 r (eN l m μ0 N r) μ (by omega) (by rw [FF_e]; omega) hP hk h99
    obtain ⟨s1, s2⟩ := hS
    have inv := pas_inv (E := eN l m μ0 N) (N := N) (N - 1) 0 r (eN l m μ0 N r) 0 (by omega) hP rfl
    obtain ⟨ν, w1, w2, w3⟩ := ih n (D + (psR (eN l m μ0 N) N r).2.2) (fl (psR (eN l m μ0 N) N r).2.2) (psR (eN l m μ0 N) N r).1 μ' (by omega) (by
      unfold fl
      rw [if_neg s1]
      exact one_ne) s2 inv.1 p2 p3
    refine ⟨ν, ?_, w2, w3⟩
    show fX9_better_32_b FF _ _ _ _ _ _ μ = _
    unfold fX9_better_32_b
    rw [if_neg hy]
    refine p1.trans ?_
    have ee : (pas (eN l m μ0 N) (N - 1) 0 r (eN l m μ0 N r) 0).2.1 = eN l m μ0 N (psR (eN l m μ0 N) N r).1 := inv.2.1
    rw [ee]
    refine w1.trans ?_
    show some (nI (D + (psR (eN l m μ0 N) N r).2.2 + toP (eN l m μ0 N) N K (psR (eN l m μ0 N) N r).1), ν) = some (nI (D + ((psR (eN l m μ0 N) N r).2.2 + toP (eN l m μ0 N) N K (psR (eN l m μ0 N) N r).1)), ν)
    rw [Nat.add_assoc]
theorem itP_perm {E : (Nat → Int32) → Int32} {N : Nat} (h1 : 1 ≤ N) : ∀ (k : Nat) (r : Nat → Int32), PermF r N → PermF (itP E N k r) N
  | 0, _, h => h
  | k + 1, r, h => itP_perm h1 k _ (pas_inv (E := E) (N := N) (N - 1) 0 r (E r) 0 (by omega) h rfl).1
theorem itP_out {E : (Nat → Int32) → Int32} {N : Nat} (h1 : 1 ≤ N) : ∀ (k : Nat) (r : Nat → Int32) (q : Nat), N ≤ q → itP E N k r q = r q := by
  have ps : ∀ (d p : Nat) (r : Nat → Int32) (e : Int32) (c : Nat), p + d + 1 = N → ∀ q, N ≤ q → (pas E d p r e c).1 q = r q := by
    intro d
    induction d with
    | zero => intro p r e c _ q _; rfl
    | succ d ih =>
      intro p r e c hp q hq
      by_cases w : e ≤ E (swp r p (p + 1))
      · rw [pas_le w]; exact ih (p + 1) r e c (by omega) q hq
      · rw [pas_gt w, ih (p + 1) _ _ _ (by omega) q hq, swp_e, if_neg (by omega), if_neg (by omega)]
  intro k
  induction k with
  | zero => intro r q _; rfl
  | succ k ih =>
    intro r q hq
    show itP E N k (psR E N r).1 q = r q
    rw [ih _ q hq]
    exact ps (N - 1) 0 r (E r) 0 (by omega) q hq
/-- never more than a million passes that exchange -/
def HBet (wq : Prop) : Prop := ∀ (N l m : Nat) (μ : Mem) (r : Nat → Int32) (K : Nat), RelN wq N (CL μ) (MT μ 0) → 1 ≤ N → l ≤ 2 → m ≤ 5 → (l = 2 → 1 ≤ m) → (l ≠ 2 → m = 0) → PermF r N → StpP (eN l m μ N) N K r → K ≤ 1000000
