/-! the words of the functional texts, at small numbers -/
theorem ln_le (k : Nat) : ln k ≤ 240 := by
  unfold ln
  by_cases h : k < lnL.length
  · rw [List.getD_eq_getElem?_getD, List.getElem?_eq_getElem h]
    exact (show ∀ x ∈ lnL, x ≤ 240 by decide) _ (List.getElem_mem h)
  · rw [List.getD_eq_getElem?_getD, List.getElem?_eq_none (Nat.not_lt.mp h)]
    decide
theorem rd_n {α : Type} {μ : Mem} {k i : Nat} {f : Int32 → Option α} (h : i < ln k) : rd μ k (nI i) f = f (μ k i) := by
  have h2 := ln_le k
  have h3 : i < 2 ^ 31 := by omega
  unfold rd
  rw [if_neg (nI_in h (by omega)), nI_clamp h3]
theorem wr_n {α : Type} {μ : Mem} {k i : Nat} {v : Int32} {f : Mem → Option α} (h : i < ln k) : wr μ k (nI i) v f = f (upM μ k (upd (μ k) i v)) := by
  have h2 := ln_le k
  have h3 : i < 2 ^ 31 := by omega
  unfold wr
  rw [if_neg (nI_in h (by omega)), nI_clamp h3]
theorem wz_n {α : Type} {μ : Mem} {k i : Nat} {v : Int32} {f : Mem → Option α} (hv : v = 0 ∨ v = 1) (h : i < ln k) : wz μ k (nI i) v f = f (upM μ k (upd (μ k) i v)) := by
  unfold wz
  rw [if_pos hv, wr_n h]
theorem rr_n {α : Type} {k i : Nat} {f : Nat → Option α} (h : i < ln k) : rr k (nI i) f = f (gt k i) := by
  have h2 := ln_le k
  have h3 : i < 2 ^ 31 := by omega
  unfold rr
  rw [if_neg (nI_in h (by omega)), nI_clamp h3]
theorem rs_n {α : Type} {xs : Nat → Int32} {L i : Nat} {f : Int32 → Option α} (h : i < L) (hL : L ≤ 3072) : rs xs L (nI i) f = f (xs i) := by
  have h3 : i < 2 ^ 31 := by omega
  unfold rs
  rw [if_neg (nI_in h (by omega)), nI_clamp h3]
theorem cpy_n {α : Type} {μ : Mem} {a b i j n : Nat} {f : Mem → Option α} (h1 : i + n ≤ ln a) (h2 : j + n ≤ ln b) : cpy μ a (nI i) b (nI j) (nI n) f = f (upM μ b (va_cpy (μ a) (μ b) i j n)) := by
  have h3 := ln_le a
  have h4 := ln_le b
  unfold cpy
  rw [if_neg, nI_clamp (by omega), nI_clamp (by omega), nI_clamp (by omega)]
  rw [nI_clamp (by omega), nI_clamp (by omega), nI_clamp (by omega)]
  rintro ((h | h) | h | h | h)
  · exact nI_pos (by omega) h
  · exact nI_pos (by omega) h
  · exact nI_pos (by omega) h
  · omega
  · omega
theorem st_n {α : Type} {μ : Mem} {k j : Nat} {v : Int32} {f : Mem → Option α} : st μ k j v f = f (upM μ k (upd (μ k) j v)) := rfl
theorem cal_n {α β : Type} {r : β} {u : Mem} {f : β → Mem → Option α} : cal (some (r, u)) f = f r u := rfl
theorem cav_n {α : Type} {u : Mem} {f : Mem → Option α} : cav (some u) f = f u := rfl
theorem zr_0 {μ : Mem} : zr 0 μ = some (0, μ) := rfl
theorem zr_1 {μ : Mem} : zr 1 μ = some (1, μ) := rfl
theorem upM_upM {μ : Mem} {k : Nat} {g h : Nat → Int32} : upM (upM μ k g) k h = upM μ k h := by
  funext a
  unfold upM
  by_cases e : a = k
  · rw [if_pos e, if_pos e]
  · rw [if_neg e, if_neg e, if_neg e]
theorem upM_id {μ : Mem} {k : Nat} : upM μ k (μ k) = μ := by
  funext a
  unfold upM
  by_cases e : a = k
  · rw [if_pos e, e]
  · rw [if_neg e]
theorem upd_s {f : Nat → Int32} {k : Nat} {x : Int32} : upd f k x k = x := if_pos rfl
theorem upd_ne {f : Nat → Int32} {k j : Nat} {x : Int32} (h : j ≠ k) : upd f k x j = f j := if_neg h
theorem nI_add1 (a : Nat) : nI a + 1 = nI (a + 1) := nI_1 a
theorem nI_sub {a b : Nat} (h : b ≤ a) : nI a - nI b = nI (a - b) := pk_sub h
theorem nI_addm1 (a : Nat) : nI (a + 1) + (-1) = nI a := pk_m1 a
theorem nI_inj {a b : Nat} (ha : a < 2 ^ 31) (hb : b < 2 ^ 31) (h : nI a = nI b) : a = b := (nI_eq ha hb).mp h
theorem imax_n {a b : Nat} (ha : a < 2 ^ 31) (hb : b < 2 ^ 31) : imax (nI a) (nI b) = nI (max a b) := by
  unfold imax
  by_cases h : a < b
  · rw [if_pos ((nI_ltI ha hb).mpr h), Nat.max_eq_right (Nat.le_of_lt h)]
  · rw [if_neg (fun q => h ((nI_ltI ha hb).mp q)), Nat.max_eq_left (Nat.not_lt.mp h)]
theorem imin_n {a b : Nat} (ha : a < 2 ^ 31) (hb : b < 2 ^ 31) : imin (nI a) (nI b) = nI (min a b) := by
  unfold imin
  by_cases h : b < a
  · rw [if_pos ((nI_ltI hb ha).mpr h), Nat.min_eq_right (Nat.le_of_lt h)]
  · rw [if_neg (fun q => h ((nI_ltI hb ha).mp q)), Nat.min_eq_left (Nat.not_lt.mp h)]
theorem ifle {α : Sort _} {a b : Nat} {A B : α} (ha : a < 2 ^ 31) (hb : b < 2 ^ 31) : (if nI a ≤ nI b then A else B) = if a ≤ b then A else B := by
  by_cases h : a ≤ b
  · rw [if_pos h, if_pos ((nI_leI ha hb).mpr h)]
  · rw [if_neg h, if_neg (fun q => h ((nI_leI ha hb).mp q))]
theorem iflt {α : Sort _} {a b : Nat} {A B : α} (ha : a < 2 ^ 31) (hb : b < 2 ^ 31) : (if nI a < nI b then A else B) = if a < b then A else B := by
  by_cases h : a < b
  · rw [if_pos h, if_pos ((nI_ltI ha hb).mpr h)]
  · rw [if_neg h, if_neg (fun q => h ((nI_ltI ha hb).mp q))]
theorem ifeq {α : Sort _} {a b : Nat} {A B : α} (ha : a < 2 ^ 31) (hb : b < 2 ^ 31) : (if nI a = nI b then A else B) = if a = b then A else B := by
  by_cases h : a = b
  · rw [if_pos h, if_pos ((nI_eq ha hb).mpr h)]
  · rw [if_neg h, if_neg (fun q => h ((nI_eq ha hb).mp q))]
/-- any number, or a small one -/
theorem small (x : Int32) (n : Nat) (hn : n < 2 ^ 31) : (x < 0 ∨ nI n < x) ∨ ∃ j : Nat, j ≤ n ∧ x = nI j := by
  by_cases h0 : x < 0
  · exact Or.inl (Or.inl h0)
  · by_cases h1 : nI n < x
    · exact Or.inl (Or.inr h1)
    · obtain ⟨j, hj, rfl⟩ := nI_of h0
      exact Or.inr ⟨j, Nat.not_lt.mp (fun q => h1 ((nI_ltI hn hj).mpr q)), rfl⟩
theorem small_no {x : Int32} {n : Nat} (hn : n < 2 ^ 31) (h : x < 0 ∨ nI n < x) : ¬ (0 ≤ x ∧ x ≤ nI n) := by
  rintro ⟨h1, h2⟩
  rw [Int32.le_iff_toInt_le] at h1 h2
  simp only [Int32.lt_iff_toInt_lt] at h
  rcases h with h | h <;> omega
/-- how many turns a loop is given -/
def FF : Nat := 10000000
theorem FF_e : FF = 10000000 := rfl
/-! sums, least, places -/
def sumF (f : Nat → Int32) : Nat → Int32
  | 0 => 0
  | n + 1 => sumF f n + f n
theorem sumF_congr {f g : Nat → Int32} : ∀ {n : Nat}, (∀ i, i < n → f i = g i) → sumF f n = sumF g n
  | 0, _ => rfl
  | n + 1, h => by
    show sumF f n + f n = sumF g n + g n
    rw [sumF_congr (fun i hi => h i (by omega)), h n (by omega)]
theorem c_sum_loop {F k N : Nat} {μ : Mem} (hN : μ 9 6 = nI N) (hk : N ≤ ln k) : ∀ (d n i : Nat), i + d = N → d < n → fX3_sum_4 F k n (sumF (μ k) i) (nI i) μ = some (sumF (μ k) N, μ) := by
  have hl := ln_le k
  intro d
  induction d with
  | zero =>
    intro n i hi hn
    obtain ⟨n, rfl⟩ : ∃ n', n = n' + 1 := ⟨n - 1, by omega⟩
    show fX3_sum_4_b F k _ _ _ μ = _
    unfold fX3_sum_4_b
    rw [hN, if_pos (nI_le (by omega) (by omega)), show i = N by omega]
  | succ d ih =>
    intro n i hi hn
    obtain ⟨n, rfl⟩ : ∃ n', n = n' + 1 := ⟨n - 1, by omega⟩
    show fX3_sum_4_b F k _ _ _ μ = _
    unfold fX3_sum_4_b
    rw [hN, if_neg (nI_ge (by omega) (by omega)), rd_n (by omega), nI_add1]
    exact ih n (i + 1) (by omega) (by omega)
theorem c_sum {k N : Nat} {μ : Mem} (hN : μ 9 6 = nI N) (hk : N ≤ ln k) : fX3_sum FF k μ = some (sumF (μ k) N, μ) := by
  have hl := ln_le k
  exact c_sum_loop hN hk N FF 0 (by omega) (by rw [FF_e]; omega)
theorem m_mix_loop {F N : Nat} {μ : Mem} (hN : μ 94 0 = nI N) (hk : N ≤ 40) : ∀ (d n i : Nat), i + d = N → d < n → fX9_allMix_4 F n (sumF (μ 95) i) (nI i) μ = some (sumF (μ 95) N, μ) := by
  intro d
  induction d with
  | zero =>
    intro n i hi hn
    obtain ⟨n, rfl⟩ : ∃ n', n = n' + 1 := ⟨n - 1, by omega⟩
    show fX9_allMix_4_b F _ _ _ μ = _
    unfold fX9_allMix_4_b
    rw [show (0 : Int32) = nI 0 from rfl, rd_n (by decide), hN, if_pos (nI_le (by omega) (by omega)), show i = N by omega]
  | succ d ih =>
    intro n i hi hn
    obtain ⟨n, rfl⟩ : ∃ n', n = n' + 1 := ⟨n - 1, by omega⟩
    show fX9_allMix_4_b F _ _ _ μ = _
    unfold fX9_allMix_4_b
    rw [show (0 : Int32) = nI 0 from rfl, rd_n (by decide), hN, if_neg (nI_ge (by omega) (by omega)), rd_n (by show i < 240; omega), nI_add1]
    exact ih n (i + 1) (by omega) (by omega)
