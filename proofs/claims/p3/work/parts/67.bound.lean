/-! the bound -/
variable {wq : Prop}
def mnF (f : Nat → Int32) : Nat → Int32
  | 0 => 100000
  | n + 1 => imin (mnF f n) (f n)
theorem mnF_congr {f g : Nat → Int32} : ∀ {n : Nat}, (∀ i, i < n → f i = g i) → mnF f n = mnF g n
  | 0, _ => rfl
  | n + 1, h => by
    show imin (mnF f n) (f n) = imin (mnF g n) (g n)
    rw [mnF_congr (fun i hi => h i (by omega)), h n (by omega)]
theorem imin_le {a b : Int32} : (if a ≤ b then a else b) = imin a b := by
  unfold imin
  by_cases h : a ≤ b
  · rw [if_pos h, if_neg]
    rw [Int32.lt_iff_toInt_lt]
    rw [Int32.le_iff_toInt_le] at h
    omega
  · rw [if_neg h, if_pos]
    rw [Int32.lt_iff_toInt_lt]
    rw [Int32.le_iff_toInt_le] at h
    omega
theorem imax_le {a b : Int32} : (if a ≤ b then b else a) = imax a b := by
  unfold imax
  by_cases h : a < b
  · rw [if_pos h, if_pos]
    rw [Int32.le_iff_toInt_le]
    rw [Int32.lt_iff_toInt_lt] at h
    omega
  · rw [if_neg h]
    by_cases h2 : a ≤ b
    · rw [if_pos h2]
      rw [Int32.lt_iff_toInt_lt] at h
      rw [Int32.le_iff_toInt_le] at h2
      exact Int32.toInt_inj.mp (by omega)
    · rw [if_neg h2]
theorem c_least_loop {F k N : Nat} {μ : Mem} (hN : μ 9 6 = nI N) (hk : N ≤ ln k) : ∀ (d n i : Nat), i + d = N → d < n → fX3_leastOf_5 F k n (mnF (μ k) i) (nI i) μ = some (mnF (μ k) N, μ) := by
  have hl := ln_le k
  intro d
  induction d with
  | zero =>
    intro n i hi hn
    obtain ⟨n, rfl⟩ : ∃ n', n = n' + 1 := ⟨n - 1, by omega⟩
    show fX3_leastOf_5_b F k _ _ _ μ = _
    unfold fX3_leastOf_5_b
    rw [hN, if_pos (nI_le (by omega) (by omega)), show i = N by omega]
  | succ d ih =>
    intro n i hi hn
    obtain ⟨n, rfl⟩ : ∃ n', n = n' + 1 := ⟨n - 1, by omega⟩
    show fX3_leastOf_5_b F k _ _ _ μ = _
    unfold fX3_leastOf_5_b
    rw [hN, if_neg (nI_ge (by omega) (by omega)), rd_n (by omega), nI_add1]
    exact ih n (i + 1) (by omega) (by omega)
theorem c_least {k N : Nat} {μ : Mem} (hN : μ 9 6 = nI N) (hk : N ≤ ln k) : fX3_leastOf FF k μ = some (mnF (μ k) N, μ) := by
  have hl := ln_le k
  exact c_least_loop hN hk N FF 0 (by omega) (by rw [FF_e]; omega)
theorem m_bound_loop {N : Nat} {μ : Mem} (hN : μ 94 0 = nI N) (hk : N ≤ 40) : ∀ (d n i : Nat), i + d = N → d < n → fX9_bound_27 FF n (mnF (μ 95) i) (mnF (μ 96) i) (nI i) μ = some (imax (sumF (μ 95) N + mnF (μ 96) N) (sumF (μ 96) N + mnF (μ 95) N), μ) := by
  intro d
  induction d with
  | zero =>
    intro n i hi hn
    obtain ⟨n, rfl⟩ : ∃ n', n = n' + 1 := ⟨n - 1, by omega⟩
    obtain rfl : i = N := by omega
    show fX9_bound_27_b FF _ _ _ _ μ = _
    unfold fX9_bound_27_b
    rw [show (0 : Int32) = nI 0 from rfl, rd_n (by decide), hN, if_pos (nI_le (by omega) (by omega)), m_mix hN hk, cal_n, m_bake hN hk, cal_n, ← imax_le]
    by_cases h : sumF (μ 95) i + mnF (μ 96) i ≤ sumF (μ 96) i + mnF (μ 95) i
    · rw [if_pos h, if_pos h]
    · rw [if_neg h, if_neg h]
  | succ d ih =>
    intro n i hi hn
    obtain ⟨n, rfl⟩ : ∃ n', n = n' + 1 := ⟨n - 1, by omega⟩
    have i57 : ∀ z, fX9_bound_57 FF (fX9_bound_27 FF n) (mnF (μ 96) i) (nI i) z μ = fX9_bound_27 FF n z (mnF (μ 96) (i + 1)) (nI (i + 1)) μ := fun z => by
      unfold fX9_bound_57
      rw [rd_n (by show i < 240; omega), rd_n (by show i < 240; omega), nI_add1, show mnF (μ 96) (i + 1) = imin (mnF (μ 96) i) (μ 96 i) from rfl, ← imin_le]
      by_cases h : mnF (μ 96) i ≤ μ 96 i
      · rw [if_pos h, if_pos h]
      · rw [if_neg h, if_neg h]
    show fX9_bound_27_b FF _ _ _ _ μ = _
    unfold fX9_bound_27_b
    rw [show (0 : Int32) = nI 0 from rfl, rd_n (by decide), hN, if_neg (nI_ge (by omega) (by omega)), rd_n (by show i < 240; omega), rd_n (by show i < 240; omega), i57, i57]
    have e := ih n (i + 1) (by omega) (by omega)
    rw [show mnF (μ 95) (i + 1) = imin (mnF (μ 95) i) (μ 95 i) from rfl, ← imin_le] at e
    by_cases h : mnF (μ 95) i ≤ μ 95 i
    · rw [if_pos h] at e ⊢
      exact e
    · rw [if_neg h] at e ⊢
      exact e
theorem op_bound : Op wq (fX8_bound FF) (fX9_bound FF) := by
  intro μ hI
  obtain ⟨N, hL⟩ := hI.2.1
  have h9 : μ 9 6 = nI N := hL.2.1
  have h94 : μ 94 0 = nI N := hL.2.2.1
  have hN := hL.1
  unfold fX8_bound fX9_bound
  by_cases h0 : N = 0
  · subst h0
    refine ⟨0, μ, μ, by rw [h9, if_pos (show nI 0 = 0 from rfl)], ?_, hI⟩
    rw [show (0 : Int32) = nI 0 from rfl, rd_n (by decide), h94, if_pos rfl]
  have hn0 : ¬ nI N = 0 := fun q => h0 (nI_inj (b := 0) (by omega) (by omega) q)
  refine ⟨imax (sumF (μ 95) N + mnF (μ 96) N) (sumF (μ 96) N + mnF (μ 95) N), μ, μ, ?_, ?_, hI⟩
  · rw [h9, if_neg hn0, c_sum h9 (by show N ≤ 40; omega), cal_n, c_least h9 (by show N ≤ 40; omega), cal_n, c_sum h9 (by show N ≤ 40; omega), cal_n, c_least h9 (by show N ≤ 40; omega), cal_n]
    rw [sumF_congr (fun i hi => (hL.eqs hi).1), sumF_congr (fun i hi => (hL.eqs hi).2.1), mnF_congr (fun i hi => (hL.eqs hi).1), mnF_congr (fun i hi => (hL.eqs hi).2.1)]
  · have mn1 : ∀ k, (∃ x, x ≤ 100000 ∧ μ k 0 = nI x) → mnF (μ k) 1 = μ k 0 := by
      rintro k ⟨x, hx, e⟩
      show imin 100000 (μ k 0) = μ k 0
      rw [e, show (100000 : Int32) = nI 100000 from rfl, imin_n (by omega) (by omega), Nat.min_eq_right hx]
    have o := hL.oks.1 0 (by omega)
    have e := hL.eqs (i := 0) (by omega)
    have l := m_bound_loop h94 hN (N - 1) FF 1 (by omega) (by rw [FF_e]; omega)
    rw [mn1 95 (by rw [← e.1]; exact o.1), mn1 96 (by rw [← e.2.1]; exact o.2.1)] at l
    rw [show (0 : Int32) = nI 0 from rfl, rd_n (by decide), h94, if_neg (show ¬ nI N = nI 0 from hn0), rd_n (by decide), rd_n (by decide)]
    exact l
