section
/-! the words of the functional texts, at small numbers -/
theorem ln_le (k : Nat) : ln k ≤ 240 := by
  unfold ln
  by_cases h : k < lnL.length
  · rw [List.getD_eq_getElem?_getD, List.getElem?_eq_getElem h]
    exact (show ∀ x ∈ lnL, x ≤ 240 by decide) _ (List.getElem_mem h)
  · rw [List.getD_eq_getElem?_getD, List.getElem?_eq_none (Nat.not_lt.mp h)]
    decide
theorem rd_n {α : Type} {μ : Mem} {k i : Nat} {f : Int32 → Option α} (h : i < ln k) : rd μ k (nI i) f = f (μ k i) := by
  have h2 := ln_le k
  have h3 : i < 2 ^ 31 := by omega
  unfold rd
  rw [if_neg (nI_in h (by omega)), nI_clamp h3]
theorem wr_n {α : Type} {μ : Mem} {k i : Nat} {v : Int32} {f : Mem → Option α} (h : i < ln k) : wr μ k (nI i) v f = f (upM μ k (upd (μ k) i v)) := by
  have h2 := ln_le k
  have h3 : i < 2 ^ 31 := by omega
  unfold wr
  rw [if_neg (nI_in h (by omega)), nI_clamp h3]
theorem wz_n {α : Type} {μ : Mem} {k i : Nat} {v : Int32} {f : Mem → Option α} (hv : v = 0 ∨ v = 1) (h : i < ln k) : wz μ k (nI i) v f = f (upM μ k (upd (μ k) i v)) := by
  unfold wz
  rw [if_pos hv, wr_n h]
theorem rr_n {α : Type} {k i : Nat} {f : Nat → Option α} (h : i < ln k) : rr k (nI i) f = f (gt k i) := by
  have h2 := ln_le k
  have h3 : i < 2 ^ 31 := by omega
  unfold rr
  rw [if_neg (nI_in h (by omega)), nI_clamp h3]
theorem rs_n {α : Type} {xs : Nat → Int32} {L i : Nat} {f : Int32 → Option α} (h : i < L) (hL : L ≤ 3072) : rs xs L (nI i) f = f (xs i) := by
  have h3 : i < 2 ^ 31 := by omega
  unfold rs
  rw [if_neg (nI_in h (by omega)), nI_clamp h3]
theorem cpy_n {α : Type} {μ : Mem} {a b i j n : Nat} {f : Mem → Option α} (h1 : i + n ≤ ln a) (h2 : j + n ≤ ln b) : cpy μ a (nI i) b (nI j) (nI n) f = f (upM μ b (va_cpy (μ a) (μ b) i j n)) := by
  have h3 := ln_le a
  have h4 := ln_le b
  unfold cpy
  rw [if_neg, nI_clamp (by omega), nI_clamp (by omega), nI_clamp (by omega)]
  rw [nI_clamp (by omega), nI_clamp (by omega), nI_clamp (by omega)]
  rintro ((h | h) | h | h | h)
  · exact nI_pos (by omega) h
  · exact nI_pos (by omega) h
  · exact nI_pos (by omega) h
  · omega
  · omega
theorem st_n {α : Type} {μ : Mem} {k j : Nat} {v : Int32} {f : Mem → Option α} : st μ k j v f = f (upM μ k (upd (μ k) j v)) := rfl
theorem cal_n {α β : Type} {r : β} {u : Mem} {f : β → Mem → Option α} : cal (some (r, u)) f = f r u := rfl
theorem cav_n {α : Type} {u : Mem} {f : Mem → Option α} : cav (some u) f = f u := rfl
theorem zr_0 {μ : Mem} : zr 0 μ = some (0, μ) := rfl
theorem zr_1 {μ : Mem} : zr 1 μ = some (1, μ) := rfl
theorem upM_upM {μ : Mem} {k : Nat} {g h : Nat → Int32} : upM (upM μ k g) k h = upM μ k h := by
  funext a
  unfold upM
  by_cases e : a = k
  · rw [if_pos e, if_pos e]
  · rw [if_neg e, if_neg e, if_neg e]
theorem upM_id {μ : Mem} {k : Nat} : upM μ k (μ k) = μ := by
  funext a
  unfold upM
  by_cases e : a = k
  · rw [if_pos e, e]
  · rw [if_neg e]
theorem upd_s {f : Nat → Int32} {k : Nat} {x : Int32} : upd f k x k = x := if_pos rfl
theorem upd_ne {f : Nat → Int32} {k j : Nat} {x : Int32} (h : j ≠ k) : upd f k x j = f j := if_neg h
theorem nI_add1 (a : Nat) : nI a + 1 = nI (a + 1) := nI_1 a
theorem nI_sub {a b : Nat} (h : b ≤ a) : nI a - nI b = nI (a - b) := pk_sub h
theorem nI_addm1 (a : Nat) : nI (a + 1) + (-1) = nI a := pk_m1 a
theorem nI_inj {a b : Nat} (ha : a < 2 ^ 31) (hb : b < 2 ^ 31) (h : nI a = nI b) : a = b := (nI_eq ha hb).mp h
theorem imax_n {a b : Nat} (ha : a < 2 ^ 31) (hb : b < 2 ^ 31) : imax (nI a) (nI b) = nI (max a b) := by
  unfold imax
  by_cases h : a < b
  · rw [if_pos ((nI_ltI ha hb).mpr h), Nat.max_eq_right (Nat.le_of_lt h)]
  · rw [if_neg (fun q => h ((nI_ltI ha hb).mp q)), Nat.max_eq_left (Nat.not_lt.mp h)]
theorem imin_n {a b : Nat} (ha : a < 2 ^ 31) (hb : b < 2 ^ 31) : imin (nI a) (nI b) = nI (min a b) := by
  unfold imin
  by_cases h : b < a
  · rw [if_pos ((nI_ltI hb ha).mpr h), Nat.min_eq_right (Nat.le_of_lt h)]
  · rw [if_neg (fun q => h ((nI_ltI hb ha).mp q)), Nat.min_eq_left (Nat.not_lt.mp h)]
theorem ifle {α : Sort _} {a b : Nat} {A B : α} (ha : a < 2 ^ 31) (hb : b < 2 ^ 31) : (if nI a ≤ nI b then A else B) = if a ≤ b then A else B := by
  by_cases h : a ≤ b
  · rw [if_pos h, if_pos ((nI_leI ha hb).mpr h)]
  · rw [if_neg h, if_neg (fun q => h ((nI_leI ha hb).mp q))]
theorem iflt {α : Sort _} {a b : Nat} {A B : α} (ha : a < 2 ^ 31) (hb : b < 2 ^ 31) : (if nI a < nI b then A else B) = if a < b then A else B := by
  by_cases h : a < b
  · rw [if_pos h, if_pos ((nI_ltI ha hb).mpr h)]
  · rw [if_neg h, if_neg (fun q => h ((nI_ltI ha hb).mp q))]
theorem ifeq {α : Sort _} {a b : Nat} {A B : α} (ha : a < 2 ^ 31) (hb : b < 2 ^ 31) : (if nI a = nI b then A else B) = if a = b then A else B := by
  by_cases h : a = b
  · rw [if_pos h, if_pos ((nI_eq ha hb).mpr h)]
  · rw [if_neg h, if_neg (fun q => h ((nI_eq ha hb).mp q))]
/-- any number, or a small one -/
theorem small (x : Int32) (n : Nat) (hn : n < 2 ^ 31) : (x < 0 ∨ nI n < x) ∨ ∃ j : Nat, j ≤ n ∧ x = nI j := by
  by_cases h0 : x < 0
  · exact Or.inl (Or.inl h0)
  · by_cases h1 : nI n < x
    · exact Or.inl (Or.inr h1)
    · obtain ⟨j, hj, rfl⟩ := nI_of h0
      exact Or.inr ⟨j, Nat.not_lt.mp (fun q => h1 ((nI_ltI hn hj).mpr q)), rfl⟩
theorem small_no {x : Int32} {n : Nat} (hn : n < 2 ^ 31) (h : x < 0 ∨ nI n < x) : ¬ (0 ≤ x ∧ x ≤ nI n) := by
  rintro ⟨h1, h2⟩
  rw [Int32.le_iff_toInt_le] at h1 h2
  simp only [Int32.lt_iff_toInt_lt] at h
  rcases h with h | h <;> omega
/-- how many turns a loop is given -/
def FF : Nat := 10000000
theorem FF_e : FF = 10000000 := rfl
/-! sums, least, places -/
def sumF (f : Nat → Int32) : Nat → Int32
  | 0 => 0
  | n + 1 => sumF f n + f n
theorem sumF_congr {f g : Nat → Int32} : ∀ {n : Nat}, (∀ i, i < n → f i = g i) → sumF f n = sumF g n
  | 0, _ => rfl
  | n + 1, h => by
    show sumF f n + f n = sumF g n + g n
    rw [sumF_congr (fun i hi => h i (by omega)), h n (by omega)]
theorem c_sum_loop {F k N : Nat} {μ : Mem} (hN : μ 9 6 = nI N) (hk : N ≤ ln k) : ∀ (d n i : Nat), i + d = N → d < n → fX3_sum_4 F k n (sumF (μ k) i) (nI i) μ = some (sumF (μ k) N, μ) := by
  have hl := ln_le k
  intro d
  induction d with
  | zero =>
    intro n i hi hn
    obtain ⟨n, rfl⟩ : ∃ n', n = n' + 1 := ⟨n - 1, by omega⟩
    show fX3_sum_4_b F k _ _ _ μ = _
    unfold fX3_sum_4_b
    rw [hN, if_pos (nI_le (by omega) (by omega)), show i = N by omega]
  | succ d ih =>
    intro n i hi hn
    obtain ⟨n, rfl⟩ : ∃ n', n = n' + 1 := ⟨n - 1, by omega⟩
    show fX3_sum_4_b F k _ _ _ μ = _
    unfold fX3_sum_4_b
    rw [hN, if_neg (nI_ge (by omega) (by omega)), rd_n (by omega), nI_add1]
    exact ih n (i + 1) (by omega) (by omega)
theorem c_sum {k N : Nat} {μ : Mem} (hN : μ 9 6 = nI N) (hk : N ≤ ln k) : fX3_sum FF k μ = some (sumF (μ k) N, μ) := by
  have hl := ln_le k
  exact c_sum_loop hN hk N FF 0 (by omega) (by rw [FF_e]; omega)
theorem m_mix_loop {F N : Nat} {μ : Mem} (hN : μ 94 0 = nI N) (hk : N ≤ 40) : ∀ (d n i : Nat), i + d = N → d < n → fX9_allMix_4 F n (sumF (μ 95) i) (nI i) μ = some (sumF (μ 95) N, μ) := by
  intro d
  induction d with
  | zero =>
    intro n i hi hn
    obtain ⟨n, rfl⟩ : ∃ n', n = n' + 1 := ⟨n - 1, by omega⟩
    show fX9_allMix_4_b F _ _ _ μ = _
    unfold fX9_allMix_4_b
    rw [show (0 : Int32) = nI 0 from rfl, rd_n (by decide), hN, if_pos (nI_le (by omega) (by omega)), show i = N by omega]
  | succ d ih =>
    intro n i hi hn
    obtain ⟨n, rfl⟩ : ∃ n', n = n' + 1 := ⟨n - 1, by omega⟩
    show fX9_allMix_4_b F _ _ _ μ = _
    unfold fX9_allMix_4_b
    rw [show (0 : Int32) = nI 0 from rfl, rd_n (by decide), hN, if_neg (nI_ge (by omega) (by omega)), rd_n (by show i < 240; omega), nI_add1]
    exact ih n (i + 1) (by omega) (by omega)
end
section
/-! what the class's cells and the reference's have to do with each other between two calls -/
variable {wq : Prop}
/-- all cells but those of the list are as they were, of the reference's own numbers all but those of the second list -/
def Ag (l js : List Nat) (μ μ' : Mem) : Prop := (∀ k, k ≠ 89 → k ∉ l → μ' k = μ k) ∧ ∀ j, j ∉ js → μ' 89 j = μ 89 j
theorem Ag.rf {l js : List Nat} {μ : Mem} : Ag l js μ μ := ⟨fun _ _ _ => rfl, fun _ _ => rfl⟩
theorem Ag.tr {l js : List Nat} {a b c : Mem} (h1 : Ag l js a b) (h2 : Ag l js b c) : Ag l js a c := ⟨fun k h h' => (h2.1 k h h').trans (h1.1 k h h'), fun j h => (h2.2 j h).trans (h1.2 j h)⟩
theorem Ag.mono {l l' js js' : List Nat} {a b : Mem} (h : Ag l js a b) (h1 : ∀ k ∈ l, k ∈ l') (h2 : ∀ k ∈ js, k ∈ js') : Ag l' js' a b := ⟨fun k h9 h' => h.1 k h9 (fun q => h' (h1 k q)), fun j h' => h.2 j (fun q => h' (h2 j q))⟩
theorem Ag.up {l js : List Nat} {μ : Mem} {k : Nat} {g : Nat → Int32} (hk : k ∈ l) (h9 : k ≠ 89) : Ag l js μ (upM μ k g) := ⟨fun a _ h' => upM_ne (fun q => h' (q ▸ hk)), fun j _ => by rw [upM_ne (Ne.symm h9)]⟩
theorem Ag.fl {l js : List Nat} {μ : Mem} {j : Nat} {v : Int32} (hj : j ∈ js) : Ag l js μ (upM μ 89 (upd (μ 89) j v)) := ⟨fun a h _ => upM_ne h, fun i h => by rw [upM_self, upd_ne (fun q => h (by rw [q]; exact hj))]⟩
theorem Ag.at {l js : List Nat} {μ μ' : Mem} (h : Ag l js μ μ') (k : Nat) (hk : k ≠ 89 ∧ k ∉ l := by decide) : μ' k = μ k := h.1 k hk.1 hk.2
theorem Ag.fi {l js : List Nat} {μ μ' : Mem} (h : Ag l js μ μ') (j : Nat) (hj : j ∉ js := by decide) : μ' 89 j = μ 89 j := h.2 j hj
/-- a row of all numbers below N -/
def PermF (f : Nat → Int32) (N : Nat) : Prop := ∃ σ τ : Nat → Nat, (∀ i, i < N → σ i < N ∧ f i = nI (σ i) ∧ τ (σ i) = i) ∧ ∀ i, i < N → τ i < N ∧ σ (τ i) = i
theorem PermF.congr {f g : Nat → Int32} {N : Nat} (h : PermF f N) (e : ∀ i, i < N → g i = f i) : PermF g N := by
  obtain ⟨σ, τ, h1, h2⟩ := h
  exact ⟨σ, τ, fun i hi => ⟨(h1 i hi).1, (e i hi).trans (h1 i hi).2.1, (h1 i hi).2.2⟩, h2⟩
abbrev LT : Type := Int32 × (Nat → Int32) × (Nat → Int32) × (Nat → Int32) × (Nat → Int32) × (Nat → Int32)
def CL (μ : Mem) : LT := (μ 9 6, μ 10, μ 11, μ 12, μ 13, μ 14)
def CS (μ : Mem) (j : Nat) : LT := (μ (18 + 7 * j) 6, μ (19 + 7 * j), μ (20 + 7 * j), μ (21 + 7 * j), μ (22 + 7 * j), μ (23 + 7 * j))
def MT (μ : Mem) (k : Nat) : LT := (μ 94 k, fun i => μ 95 (40 * k + i), fun i => μ 96 (40 * k + i), fun i => μ 97 (40 * k + i), fun i => μ 98 (40 * k + i), fun i => μ 99 (40 * k + i))
def Eq5 (N : Nat) (a b : LT) : Prop := ∀ i, i < N → a.2.1 i = b.2.1 i ∧ a.2.2.1 i = b.2.2.1 i ∧ a.2.2.2.1 i = b.2.2.2.1 i ∧ a.2.2.2.2.1 i = b.2.2.2.2.1 i ∧ a.2.2.2.2.2 i = b.2.2.2.2.2 i
def Ok5 (N : Nat) (a : LT) : Prop := (∀ i, i < N → (∃ x, x ≤ 100000 ∧ a.2.1 i = nI x) ∧ (∃ x, x ≤ 100000 ∧ a.2.2.1 i = nI x) ∧ (∃ x, x ≤ 399 ∧ a.2.2.2.1 i = nI x) ∧ ∃ x, x ≤ 399 ∧ a.2.2.2.2.1 i = nI x) ∧ PermF a.2.2.2.2.2 N
/-- as Eq5, but THE ORDER is alike only if wq is; it is a row of all numbers on both sides -/
def EqW (wq : Prop) (N : Nat) (a b : LT) : Prop := ∀ i, i < N → a.2.1 i = b.2.1 i ∧ a.2.2.1 i = b.2.2.1 i ∧ a.2.2.2.1 i = b.2.2.2.1 i ∧ a.2.2.2.2.1 i = b.2.2.2.2.1 i ∧ (wq → a.2.2.2.2.2 i = b.2.2.2.2.2 i) ∧ PermF b.2.2.2.2.2 N
def RelN (wq : Prop) (N : Nat) (a b : LT) : Prop := N ≤ 40 ∧ a.1 = nI N ∧ b.1 = nI N ∧ EqW wq N a b ∧ Ok5 N a
def Rel (wq : Prop) (a b : LT) : Prop := ∃ N, RelN wq N a b
theorem Eq5.tr {N : Nat} {a b c : LT} (h1 : Eq5 N a b) (h2 : Eq5 N b c) : Eq5 N a c := fun i hi => by
  obtain ⟨a1, a2, a3, a4, a5⟩ := h1 i hi
  obtain ⟨b1, b2, b3, b4, b5⟩ := h2 i hi
  exact ⟨a1.trans b1, a2.trans b2, a3.trans b3, a4.trans b4, a5.trans b5⟩
theorem Eq5.sy {N : Nat} {a b : LT} (h1 : Eq5 N a b) : Eq5 N b a := fun i hi => by
  obtain ⟨a1, a2, a3, a4, a5⟩ := h1 i hi
  exact ⟨a1.symm, a2.symm, a3.symm, a4.symm, a5.symm⟩
theorem Ok5.congr {N : Nat} {a b : LT} (h : Ok5 N a) (e : Eq5 N b a) : Ok5 N b := by
  refine ⟨fun i hi => ?_, h.2.congr (fun i hi => (e i hi).2.2.2.2)⟩
  obtain ⟨⟨x1, l1, q1⟩, ⟨x2, l2, q2⟩, ⟨x3, l3, q3⟩, x4, l4, q4⟩ := h.1 i hi
  obtain ⟨e1, e2, e3, e4, e5⟩ := e i hi
  exact ⟨⟨x1, l1, e1.trans q1⟩, ⟨x2, l2, e2.trans q2⟩, ⟨x3, l3, e3.trans q3⟩, x4, l4, e4.trans q4⟩
theorem EqW.congr {N : Nat} {a b a' b' : LT} (h : EqW wq N a b) (ea : Eq5 N a' a) (eb : Eq5 N b' b) : EqW wq N a' b' := fun i hi => by
  obtain ⟨a1, a2, a3, a4, a5, a6⟩ := h i hi
  obtain ⟨b1, b2, b3, b4, b5⟩ := ea i hi
  obtain ⟨c1, c2, c3, c4, c5⟩ := eb i hi
  exact ⟨(b1.trans a1).trans c1.symm, (b2.trans a2).trans c2.symm, (b3.trans a3).trans c3.symm, (b4.trans a4).trans c4.symm, fun q => (b5.trans (a5 q)).trans c5.symm, a6.congr (fun j hj => (eb j hj).2.2.2.2)⟩
theorem RelN.congr {N : Nat} {a b a' b' : LT} (h : RelN wq N a b) (ha : a'.1 = a.1) (hb : b'.1 = b.1) (ea : Eq5 N a' a) (eb : Eq5 N b' b) : RelN wq N a' b' :=
  ⟨h.1, ha.trans h.2.1, hb.trans h.2.2.1, h.2.2.2.1.congr ea eb, h.2.2.2.2.congr ea⟩
/-- the reference's order is a row of all numbers too -/
theorem RelN.okb {N : Nat} {a b : LT} (h : RelN wq N a b) : PermF b.2.2.2.2.2 N := by
  by_cases h0 : N = 0
  · subst h0
    exact ⟨fun i => i, fun i => i, fun i hi => absurd hi (Nat.not_lt_zero i), fun i hi => absurd hi (Nat.not_lt_zero i)⟩
  · exact (h.2.2.2.1 0 (by omega)).2.2.2.2.2
/-- the sheets -/
def rowS (μ : Mem) (s : Nat) : Nat → Int32 := μ (5 + s)
def SH (μ : Mem) : Prop := μ 1 3 = μ 89 0 ∧ ∀ s, s < 4 → μ 2 s = μ 90 s ∧ μ 3 s = μ 91 s ∧ (μ 2 s = -1 ∨ ∃ f, f ≤ 2 ∧ μ 2 s = nI f) ∧ ∃ z, z ≤ 40 ∧ μ 3 s = nI z ∧ ∀ i, i < z → rowS μ s i = μ 92 (40 * s + i)
def LV (wq : Prop) (μ : Mem) : Prop := Rel wq (CL μ) (MT μ 0)
/-- what can be given back: the j-th latest -/
def HI (wq : Prop) (μ : Mem) : Prop := ∃ nx K, nx < 5 ∧ K ≤ 5 ∧ μ 16 1 = nI nx ∧ μ 16 2 = nI K ∧ μ 89 11 = nI K ∧ ∀ j, j < K → Rel wq (CS μ ((nx + 4 - j) % 5)) (MT μ (K - j))
def BT (μ : Mem) : Prop := ∃ B, B ≤ 40 ∧ μ 53 1 = nI B ∧ μ 89 12 = nI B ∧ (∀ i, i < B → μ 54 i = μ 100 i) ∧ (μ 89 14 = 0 ∨ μ 89 14 = 1) ∧ (μ 89 15 = 0 ∨ μ 89 15 = 1) ∧ (μ 89 14 = 0 → B = 0) ∧ (μ 53 2 = if μ 89 14 = 0 then 0 else μ 89 15) ∧ (μ 53 2 = 1 → μ 9 6 = nI B ∧ PermF (μ 54) B)
def RI (μ : Mem) : Prop := (μ 61 10 = 0 ∨ μ 61 10 = 1) ∧ μ 61 10 = μ 89 33 ∧ (μ 61 10 = 1 → μ 61 11 = μ 115 0 ∧ μ 61 12 = μ 115 1 ∧ μ 61 13 = μ 115 2 ∧ μ 61 14 = μ 115 3)
def PR (μ : Mem) : Prop := ∀ i, i < 8 → μ 74 i = μ 101 i ∧ μ 75 i = μ 102 i ∧ (-100 ≤ μ 74 i ∧ μ 74 i ≤ 100) ∧ (-100 ≤ μ 75 i ∧ μ 75 i ≤ 100) ∧ μ 77 i = 1 ∧ μ 78 i = 0
def Inv (wq : Prop) (μ : Mem) : Prop := SH μ ∧ LV wq μ ∧ HI wq μ ∧ BT μ ∧ RI μ ∧ PR μ
theorem SH.ag2 {l js : List Nat} {μ μ' : Mem} (h : SH μ) (g : Ag l js μ μ') (hfo : μ' 1 3 = μ' 89 0) (hl : ∀ k ∈ [2, 3, 5, 6, 7, 8, 90, 91, 92], k ∉ l := by decide) : SH μ' := by
  have e2 := g.1 2 (by decide) (hl 2 (by decide))
  have e3 := g.1 3 (by decide) (hl 3 (by decide))
  have e4 := g.1 90 (by decide) (hl 90 (by decide))
  have e5 := g.1 91 (by decide) (hl 91 (by decide))
  have e6 := g.1 92 (by decide) (hl 92 (by decide))
  have e7 : ∀ s, s < 4 → rowS μ' s = rowS μ s := fun s hs => by
    have h4 : s = 0 ∨ s = 1 ∨ s = 2 ∨ s = 3 := by omega
    rcases h4 with rfl | rfl | rfl | rfl
    · exact g.1 5 (by decide) (hl 5 (by decide))
    · exact g.1 6 (by decide) (hl 6 (by decide))
    · exact g.1 7 (by decide) (hl 7 (by decide))
    · exact g.1 8 (by decide) (hl 8 (by decide))
  unfold SH
  rw [e2, e3, e4, e5, e6]
  refine ⟨hfo, fun s hs => ?_⟩
  rw [e7 s hs]
  exact h.2 s hs
theorem SH.ag {l js : List Nat} {μ μ' : Mem} (h : SH μ) (g : Ag l js μ μ') (hl : ∀ k ∈ [1, 2, 3, 5, 6, 7, 8, 90, 91, 92], k ∉ l := by decide) (hj : 0 ∉ js := by decide) : SH μ' :=
  h.ag2 g (by rw [g.1 1 (by decide) (hl 1 (by decide)), g.2 0 hj]; exact h.1) (fun k hk => hl k (List.mem_cons_of_mem _ hk))
theorem CL.ag {l js : List Nat} {μ μ' : Mem} (g : Ag l js μ μ') (hl : ∀ k ∈ [9, 10, 11, 12, 13, 14], k ∉ l := by decide) : CL μ' = CL μ := by
  unfold CL
  rw [g.1 9 (by decide) (hl 9 (by decide)), g.1 10 (by decide) (hl 10 (by decide)), g.1 11 (by decide) (hl 11 (by decide)), g.1 12 (by decide) (hl 12 (by decide)), g.1 13 (by decide) (hl 13 (by decide)), g.1 14 (by decide) (hl 14 (by decide))]
theorem MT.ag {l js : List Nat} {μ μ' : Mem} (k : Nat) (g : Ag l js μ μ') (hl : ∀ k ∈ [94, 95, 96, 97, 98, 99], k ∉ l := by decide) : MT μ' k = MT μ k := by
  unfold MT
  rw [g.1 94 (by decide) (hl 94 (by decide)), g.1 95 (by decide) (hl 95 (by decide)), g.1 96 (by decide) (hl 96 (by decide)), g.1 97 (by decide) (hl 97 (by decide)), g.1 98 (by decide) (hl 98 (by decide)), g.1 99 (by decide) (hl 99 (by decide))]
theorem CS.ag {l js : List Nat} {μ μ' : Mem} {j : Nat} (hj : j < 5) (g : Ag l js μ μ') (hl : ∀ k, k < 53 → 18 ≤ k → k ∉ l) : CS μ' j = CS μ j := by
  unfold CS
  rw [g.1 _ (by omega) (hl _ (by omega) (by omega)), g.1 _ (by omega) (hl (19 + 7 * j) (by omega) (by omega)), g.1 _ (by omega) (hl (20 + 7 * j) (by omega) (by omega)), g.1 _ (by omega) (hl (21 + 7 * j) (by omega) (by omega)), g.1 _ (by omega) (hl (22 + 7 * j) (by omega) (by omega)), g.1 _ (by omega) (hl (23 + 7 * j) (by omega) (by omega))]
theorem LV.ag {l js : List Nat} {μ μ' : Mem} (h : LV wq μ) (g : Ag l js μ μ') (hl : ∀ k ∈ [9, 10, 11, 12, 13, 14], k ∉ l := by decide) (hm : ∀ k ∈ [94, 95, 96, 97, 98, 99], k ∉ l := by decide) : LV wq μ' := by
  unfold LV
  rw [CL.ag g hl, MT.ag 0 g hm]
  exact h
theorem HI.ag {l js : List Nat} {μ μ' : Mem} (h : HI wq μ) (g : Ag l js μ μ') (hl : (∀ k, k < 53 → 18 ≤ k → k ∉ l) ∧ 16 ∉ l := by decide) (hm : ∀ k ∈ [94, 95, 96, 97, 98, 99], k ∉ l := by decide) (hj : 11 ∉ js := by decide) : HI wq μ' := by
  obtain ⟨nx, K, h1, h2, h3, h4, h5, h6⟩ := h
  refine ⟨nx, K, h1, h2, ?_, ?_, ?_, fun j hj => ?_⟩
  · rw [g.1 16 (by decide) hl.2]; exact h3
  · rw [g.1 16 (by decide) hl.2]; exact h4
  · rw [g.2 11 hj]; exact h5
  · rw [CS.ag (Nat.mod_lt _ (by decide)) g hl.1, MT.ag _ g hm]
    exact h6 j hj
theorem BT.ag {l js : List Nat} {μ μ' : Mem} (h : BT μ) (g : Ag l js μ μ') (h9 : μ' 9 6 = μ 9 6) (hl : ∀ k ∈ [53, 54, 100], k ∉ l := by decide) (hj : ∀ j ∈ [12, 14, 15], j ∉ js := by decide) : BT μ' := by
  unfold BT
  rw [g.1 53 (by decide) (hl 53 (by decide)), g.1 54 (by decide) (hl 54 (by decide)), g.1 100 (by decide) (hl 100 (by decide)), g.2 12 (hj 12 (by decide)), g.2 14 (hj 14 (by decide)), g.2 15 (hj 15 (by decide)), h9]
  exact h
theorem RI.ag {l js : List Nat} {μ μ' : Mem} (h : RI μ) (g : Ag l js μ μ') (hl : ∀ k ∈ [61, 115], k ∉ l := by decide) (hj : 33 ∉ js := by decide) : RI μ' := by
  unfold RI
  rw [g.1 61 (by decide) (hl 61 (by decide)), g.1 115 (by decide) (hl 115 (by decide)), g.2 33 hj]
  exact h
theorem PR.ag {l js : List Nat} {μ μ' : Mem} (h : PR μ) (g : Ag l js μ μ') (hl : ∀ k ∈ [74, 75, 77, 78, 101, 102], k ∉ l := by decide) : PR μ' := by
  unfold PR
  rw [g.1 74 (by decide) (hl 74 (by decide)), g.1 75 (by decide) (hl 75 (by decide)), g.1 77 (by decide) (hl 77 (by decide)), g.1 78 (by decide) (hl 78 (by decide)), g.1 101 (by decide) (hl 101 (by decide)), g.1 102 (by decide) (hl 102 (by decide))]
  exact h
/-- an op of both: the same answer, and all is as it should be again -/
def Op (wq : Prop) (f g : Mem → Option (Int32 × Mem)) : Prop := ∀ μ, Inv wq μ → ∃ r μ1 μ2, f μ = some (r, μ1) ∧ g μ1 = some (r, μ2) ∧ Inv wq μ2
/-- an op of both that comes back on both sides; the answers are alike only if wq is -/
def OpW (wq : Prop) (f g : Mem → Option (Int32 × Mem)) : Prop := ∀ μ, Inv wq μ → ∃ r r' μ1 μ2, f μ = some (r, μ1) ∧ g μ1 = some (r', μ2) ∧ Inv wq μ2 ∧ (wq → r = r')
theorem Op.w {f g : Mem → Option (Int32 × Mem)} (h : Op wq f g) : OpW wq f g := fun μ hI => by
  obtain ⟨r, μ1, μ2, h1, h2, h3⟩ := h μ hI
  exact ⟨r, r, μ1, μ2, h1, h2, h3, fun _ => rfl⟩
theorem OpW.op {f g : Mem → Option (Int32 × Mem)} (h : OpW wq f g) (q : wq) : Op wq f g := fun μ hI => by
  obtain ⟨r, r', μ1, μ2, h1, h2, h3, h4⟩ := h μ hI
  exact ⟨r, μ1, μ2, h1, by rw [h4 q]; exact h2, h3⟩
/-- the start -/
theorem inv0 : Inv wq mem0 := by
  refine ⟨⟨rfl, fun s hs => ?_⟩, ⟨0, by omega, rfl, rfl, fun i hi => by omega, fun i hi => by omega, fun i => i, fun i => i, fun i hi => by omega, fun i hi => by omega⟩, ⟨0, 0, by omega, by omega, rfl, rfl, rfl, fun j hj => by omega⟩, ⟨0, by omega, rfl, rfl, fun i hi => by omega, Or.inl rfl, Or.inl rfl, fun _ => rfl, rfl, fun h => absurd h (by decide)⟩, ⟨Or.inl rfl, rfl, fun h => absurd h (by decide)⟩, fun i hi => ?_⟩
  · have h4 : s = 0 ∨ s = 1 ∨ s = 2 ∨ s = 3 := by omega
    rcases h4 with rfl | rfl | rfl | rfl <;> exact ⟨rfl, rfl, Or.inl rfl, 0, by omega, rfl, fun i hi => by omega⟩
  · have h8 : i = 0 ∨ i = 1 ∨ i = 2 ∨ i = 3 ∨ i = 4 ∨ i = 5 ∨ i = 6 ∨ i = 7 := by omega
    rcases h8 with rfl | rfl | rfl | rfl | rfl | rfl | rfl | rfl <;> exact ⟨rfl, rfl, ⟨by decide, by decide⟩, ⟨by decide, by decide⟩, rfl, rfl⟩
end
section
/-! small tests -/
variable {wq : Prop}
theorem t_no {α : Sort _} {x : Int32} {n : Nat} {A B : α} (hn : n + 1 < 2 ^ 31) (h : x < 0 ∨ nI n < x) : (if x < 0 then A else if nI (n + 1) ≤ x then A else B) = A := by
  by_cases h0 : x < 0
  · rw [if_pos h0]
  · rw [if_neg h0, if_pos]
    rcases h with h | h
    · exact absurd h h0
    · rw [Int32.lt_iff_toInt_lt, nI_toInt (by omega)] at h
      rw [Int32.le_iff_toInt_le, nI_toInt (by omega)]
      omega
theorem t_yes {α : Sort _} {j n : Nat} {A B : α} (hn : n + 1 < 2 ^ 31) (h : j ≤ n) : (if nI j < 0 then A else if nI (n + 1) ≤ nI j then A else B) = B := by
  rw [if_neg (nI_pos (by omega)), if_neg (nI_ge (by omega) (by omega))]
theorem t2_no {α : Sort _} {x : Int32} {n : Nat} {A B : α} (hn : n < 2 ^ 31) (h : x < 0 ∨ nI n < x) : (if x < 0 then A else if nI n < x then A else B) = A := by
  by_cases h0 : x < 0
  · rw [if_pos h0]
  · rw [if_neg h0, if_pos]
    rcases h with h | h
    · exact absurd h h0
    · exact h
theorem t2_yes {α : Sort _} {j n : Nat} {A B : α} (hn : n < 2 ^ 31) (h : j ≤ n) : (if nI j < 0 then A else if nI n < nI j then A else B) = B := by
  rw [if_neg (nI_pos (by omega)), if_neg (nI_nlt h hn)]
theorem c_sh_no {F : Nat} {x : Int32} {μ : Mem} (h : x < 0 ∨ nI 3 < x) : fX8_isSheet F x μ = some (0, μ) := t_no (n := 3) (by decide) h
theorem c_sh_yes {F j : Nat} {μ : Mem} (h : j ≤ 3) : fX8_isSheet F (nI j) μ = some (1, μ) := t_yes (n := 3) (by decide) h
theorem c_fo_no {F : Nat} {x : Int32} {μ : Mem} (h : x < 0 ∨ nI 2 < x) : fX8_isForm F x μ = some (0, μ) := t_no (n := 2) (by decide) h
theorem c_fo_yes {F j : Nat} {μ : Mem} (h : j ≤ 2) : fX8_isForm F (nI j) μ = some (1, μ) := t_yes (n := 2) (by decide) h
theorem c_sp_no {F : Nat} {x : Int32} {μ : Mem} (h : x < 0 ∨ nI 100000 < x) : fX8_isSpan F x μ = some (0, μ) := t2_no (n := 100000) (by decide) h
theorem c_sp_yes {F j : Nat} {μ : Mem} (h : j ≤ 100000) : fX8_isSpan F (nI j) μ = some (1, μ) := t2_yes (n := 100000) (by decide) h
theorem c_de_no {F : Nat} {x : Int32} {μ : Mem} (h : x < 0 ∨ nI 399 < x) : fX8_isDegree F x μ = some (0, μ) := t2_no (n := 399) (by decide) h
theorem c_de_yes {F j : Nat} {μ : Mem} (h : j ≤ 399) : fX8_isDegree F (nI j) μ = some (1, μ) := t2_yes (n := 399) (by decide) h
theorem lN_toInt64 {n : Nat} (h : n < 2 ^ 31) : (Int64.ofNat n).toInt = (n : Int) := lN_toInt h
theorem m_in_no {F n : Nat} {x : Int32} {μ : Mem} (hn : n < 2 ^ 31) (h : x < 0 ∨ nI n < x) : fX9_in F x.toInt64 (Int64.ofNat 0) (Int64.ofNat n) μ = some (0, μ) := by
  unfold fX9_in
  simp only [Int64.lt_iff_toInt_lt, lN_toInt64 (show 0 < 2 ^ 31 by decide), lN_toInt64 hn, Int32.toInt_toInt64]
  rw [Int32.lt_iff_toInt_lt, Int32.lt_iff_toInt_lt, nI_toInt hn, Int32.toInt_zero] at h
  by_cases h0 : x.toInt < ((0 : Nat) : Int)
  · rw [if_pos h0, zr_0]
  · rw [if_neg h0, if_pos (by omega), zr_0]
theorem m_in_yes {F j n : Nat} {μ : Mem} (hn : n < 2 ^ 31) (h : j ≤ n) : fX9_in F (nI j).toInt64 (Int64.ofNat 0) (Int64.ofNat n) μ = some (1, μ) := by
  unfold fX9_in
  simp only [Int64.lt_iff_toInt_lt, lN_toInt64 (show 0 < 2 ^ 31 by decide), lN_toInt64 hn, Int32.toInt_toInt64, nI_toInt (show j < 2 ^ 31 by omega)]
  rw [if_neg (by omega), if_neg (by omega), zr_1]
theorem m_sh_no {F : Nat} {x : Int32} {μ : Mem} (h : x < 0 ∨ nI 3 < x) : fX9_isSheet F x μ = some (0, μ) := by
  unfold fX9_isSheet
  rw [show (0 : Int64) = Int64.ofNat 0 from rfl, show (3 : Int64) = Int64.ofNat 3 from rfl, m_in_no (by decide) h, cal_n, zr_0]
theorem m_sh_yes {F j : Nat} {μ : Mem} (h : j ≤ 3) : fX9_isSheet F (nI j) μ = some (1, μ) := by
  unfold fX9_isSheet
  rw [show (0 : Int64) = Int64.ofNat 0 from rfl, show (3 : Int64) = Int64.ofNat 3 from rfl, m_in_yes (by decide) h, cal_n, zr_1]
theorem m_fo_no {F : Nat} {x : Int32} {μ : Mem} (h : x < 0 ∨ nI 2 < x) : fX9_in F x.toInt64 0 2 μ = some (0, μ) := m_in_no (n := 2) (by decide) h
theorem m_fo_yes {F j : Nat} {μ : Mem} (h : j ≤ 2) : fX9_in F (nI j).toInt64 0 2 μ = some (1, μ) := m_in_yes (n := 2) (by decide) h
theorem m_sp_no {F : Nat} {x : Int32} {μ : Mem} (h : x < 0 ∨ nI 100000 < x) : fX9_in F x.toInt64 0 100000 μ = some (0, μ) := m_in_no (n := 100000) (by decide) h
theorem m_sp_yes {F j : Nat} {μ : Mem} (h : j ≤ 100000) : fX9_in F (nI j).toInt64 0 100000 μ = some (1, μ) := m_in_yes (n := 100000) (by decide) h
theorem m_de_no {F : Nat} {x : Int32} {μ : Mem} (h : x < 0 ∨ nI 399 < x) : fX9_in F x.toInt64 0 399 μ = some (0, μ) := m_in_no (n := 399) (by decide) h
theorem m_de_yes {F j : Nat} {μ : Mem} (h : j ≤ 399) : fX9_in F (nI j).toInt64 0 399 μ = some (1, μ) := m_in_yes (n := 399) (by decide) h
theorem one_ne : ¬ (1 : Int32) = 0 := by decide
/-! findings -/
theorem fnd {μ : Mem} {v : Int32} (h : Inv wq μ) : Inv wq (upM (upM μ 1 (upd (μ 1) 3 v)) 89 (upd (upM μ 1 (upd (μ 1) 3 v) 89) 0 v)) := by
  have g : Ag [1] [0] μ (upM (upM μ 1 (upd (μ 1) 3 v)) 89 (upd (upM μ 1 (upd (μ 1) 3 v) 89) 0 v)) := (Ag.up (by decide) (by decide)).tr (Ag.fl (by decide))
  obtain ⟨h1, h2, h3, h4, h5, h6⟩ := h
  refine ⟨h1.ag2 g rfl, h2.ag g, h3.ag g, h4.ag g rfl, h5.ag g, h6.ag g⟩
/-- the answer of a finding, on both sides -/
theorem fnd_op {μ : Mem} (h : Inv wq μ) (v : Int32) : ∃ r μ1 μ2, fX7_finding FF v μ = some (r, μ1) ∧ fX9_met FF v μ1 = some (r, μ2) ∧ Inv wq μ2 := ⟨_, _, _, rfl, rfl, fnd h⟩
theorem gt4 {s : Nat} (h : s < 4) : gt 4 s = 5 + s ∧ ln (5 + s) = 40 := (show ∀ s, s < 4 → gt 4 s = 5 + s ∧ ln (5 + s) = 40 by decide) s h
theorem SH.mk1 {μ μ' : Mem} (h : SH μ) {s : Nat} (hfo : μ' 1 3 = μ' 89 0) (h2 : ∀ i, i ≠ s → μ' 2 i = μ 2 i ∧ μ' 90 i = μ 90 i ∧ μ' 3 i = μ 3 i ∧ μ' 91 i = μ 91 i) (hr : ∀ i, i < 4 → i ≠ s → rowS μ' i = rowS μ i) (hit : ∀ x, (x < 40 * s ∨ 40 * s + 40 ≤ x) → μ' 92 x = μ 92 x)
    (hs : μ' 2 s = μ' 90 s ∧ μ' 3 s = μ' 91 s ∧ (μ' 2 s = -1 ∨ ∃ f, f ≤ 2 ∧ μ' 2 s = nI f) ∧ ∃ z, z ≤ 40 ∧ μ' 3 s = nI z ∧ ∀ i, i < z → rowS μ' s i = μ' 92 (40 * s + i)) : SH μ' := by
  refine ⟨hfo, fun i hi => ?_⟩
  by_cases e : i = s
  · rw [e]; exact hs
  · obtain ⟨e1, e2, e3, e4⟩ := h2 i e
    rw [e1, e2, e3, e4, hr i hi e]
    obtain ⟨a1, a2, a3, z, a4, a5, a6⟩ := h.2 i hi
    refine ⟨a1, a2, a3, z, a4, a5, fun j hj => ?_⟩
    rw [hit _ (by omega)]
    exact a6 j hj
/-! Arrays.fill -/
theorem fill_loop {F k : Nat} {v : Int32} {μ : Mem} : ∀ (d n i : Nat), i + d = ln k → d < n → fJ7_fill_53178_5 F k n v (nI i) (nI (ln k)) (upM μ k (fun j => if j < i then v else μ k j)) = some (upM μ k (fun j => if j < ln k then v else μ k j)) := by
  have hl := ln_le k
  intro d
  induction d with
  | zero =>
    intro n i hi hn
    obtain ⟨n, rfl⟩ : ∃ n', n = n' + 1 := ⟨n - 1, by omega⟩
    show fJ7_fill_53178_5_b F k _ _ _ _ _ = _
    unfold fJ7_fill_53178_5_b
    rw [if_pos (nI_le (by omega) (by omega)), show i = ln k by omega]
  | succ d ih =>
    intro n i hi hn
    obtain ⟨n, rfl⟩ : ∃ n', n = n' + 1 := ⟨n - 1, by omega⟩
    show fJ7_fill_53178_5_b F k _ _ _ _ _ = _
    unfold fJ7_fill_53178_5_b
    rw [if_neg (nI_ge (by omega) (by omega)), wr_n (by omega), nI_add1, upM_upM, upM_self]
    have e : upd (fun j => if j < i then v else μ k j) i v = fun j => if j < i + 1 then v else μ k j := by
      funext j
      unfold upd
      by_cases h1 : j = i
      · rw [if_pos h1, if_pos (by omega)]
      · rw [if_neg h1]
        dsimp only
        by_cases h2 : j < i
        · rw [if_pos h2, if_pos (by omega)]
        · rw [if_neg h2, if_neg (by omega)]
    rw [e]
    exact ih n (i + 1) (by omega) (by omega)
theorem fill_n {k : Nat} {v : Int32} {μ : Mem} : fJ7_fill_53178 FF k v μ = some (upM μ k (fun j => if j < ln k then v else μ k j)) := by
  have hl := ln_le k
  have h := fill_loop (F := FF) (k := k) (v := v) (μ := μ) (ln k) FF 0 (by omega) (by rw [FF_e]; omega)
  rw [show (fun j => if j < 0 then v else μ k j) = μ k from rfl, upM_id] at h
  exact h
theorem renew_n {s z : Nat} {f : Int32} {μ : Mem} (hs : s < 4) : fX7_renew FF (nI s) f (nI z) μ = some (upM (upM (upM μ 2 (upd (μ 2) s f)) 3 (upd (μ 3) s (nI z))) (5 + s) (fun j => if j < 40 then 0 else μ (5 + s) j)) := by
  obtain ⟨e1, e2⟩ := gt4 hs
  unfold fX7_renew
  rw [wr_n (by exact hs), wr_n (by exact hs), rr_n (by exact hs), fill_n, cav_n, e1, e2, upM_ne (by omega), upM_ne (by omega), upM_ne (by omega)]
theorem m_sheet_loop {F s z : Nat} {μ : Mem} (hs : s < 4) (hz : z ≤ 40) : ∀ (d n i : Nat), i + d = z → d < n → fX9_sheet_55 F n (nI s) (nI z) (nI i) (upM μ 92 (fun x => if 40 * s ≤ x ∧ x < 40 * s + i then 0 else μ 92 x)) = some (nI z, upM μ 92 (fun x => if 40 * s ≤ x ∧ x < 40 * s + z then 0 else μ 92 x)) := by
  intro d
  induction d with
  | zero =>
    intro n i hi hn
    obtain ⟨n, rfl⟩ : ∃ n', n = n' + 1 := ⟨n - 1, by omega⟩
    show fX9_sheet_55_b F _ _ _ _ _ = _
    unfold fX9_sheet_55_b
    rw [if_pos (nI_le (by omega) (by omega)), show i = z by omega]
  | succ d ih =>
    intro n i hi hn
    obtain ⟨n, rfl⟩ : ∃ n', n = n' + 1 := ⟨n - 1, by omega⟩
    show fX9_sheet_55_b F _ _ _ _ _ = _
    unfold fX9_sheet_55_b
    rw [if_neg (nI_ge (by omega) (by omega)), show (40 : Int32) * nI s + nI i = nI (40 * s + i) from by rw [show (40 : Int32) = nI 40 from rfl, pk_mul, nI_add], wr_n (by show _ < 160; omega), nI_add1, upM_upM, upM_self]
    have e : upd (fun x => if 40 * s ≤ x ∧ x < 40 * s + i then 0 else μ 92 x) (40 * s + i) 0 = fun x => if 40 * s ≤ x ∧ x < 40 * s + (i + 1) then 0 else μ 92 x := by
      funext j
      unfold upd
      by_cases h1 : j = 40 * s + i
      · rw [if_pos h1, if_pos (by omega)]
      · rw [if_neg h1]
        dsimp only
        by_cases h2 : 40 * s ≤ j ∧ j < 40 * s + i
        · rw [if_pos h2, if_pos (by omega)]
        · rw [if_neg h2, if_neg (by omega)]
    rw [e]
    exact ih n (i + 1) (by omega) (by omega)
theorem if_m {α : Type} {A B : α} {p q : Prop} [Decidable p] [Decidable q] (h : p ↔ q) : (if p then A else B) = if q then A else B := by
  by_cases e : p
  · rw [if_pos e, if_pos (h.mp e)]
  · rw [if_neg e, if_neg (fun x => e (h.mpr x))]
theorem m_sheet_n {s z : Nat} {f : Int32} {μ : Mem} (hs : s < 4) (hz : z ≤ 40) : fX9_sheet_55 FF FF (nI s) (nI z) 0 μ = some (nI z, upM μ 92 (fun x => if 40 * s ≤ x ∧ x < 40 * s + z then 0 else μ 92 x)) := by
  have hm := m_sheet_loop (F := FF) (s := s) (z := z) (μ := μ) hs hz z FF 0 (by omega) (by rw [FF_e]; omega)
  rw [show (fun x => if 40 * s ≤ x ∧ x < 40 * s + 0 then (0 : Int32) else μ 92 x) = μ 92 from funext (fun x => if_neg (by omega)), upM_id] at hm
  exact hm
theorem op_sheet (a b c : Int32) : Op wq (fX8_sheet FF a b c) (fX9_sheet FF a b c) := by
  intro μ hI
  unfold fX8_sheet fX9_sheet
  rcases small a 3 (by decide) with h | ⟨s, hs, rfl⟩
  · exact ⟨_, _, _, by rw [c_sh_no h, cal_n, if_pos rfl], by rw [m_sh_no h, cal_n, if_pos rfl], hI⟩
  rcases small b 2 (by decide) with h | ⟨f, hf, rfl⟩
  · exact ⟨_, _, _, by rw [c_sh_yes hs, cal_n, if_neg one_ne, c_fo_no h, cal_n, if_pos rfl], by rw [m_sh_yes hs, cal_n, if_neg one_ne, m_fo_no h, cal_n, if_pos rfl], hI⟩
  by_cases h40 : c ≤ 40
  · by_cases h0 : 0 ≤ c
    · obtain ⟨z, hz, rfl⟩ : ∃ z, z ≤ 40 ∧ c = nI z := nI_of2 (M := 40) rfl (by rw [Int32.lt_iff_toInt_lt]; rw [Int32.le_iff_toInt_le] at h0; omega) h40
      refine ⟨nI z, _, _, by rw [c_sh_yes hs, cal_n, if_neg one_ne, c_fo_yes hf, cal_n, if_neg one_ne, if_pos h40, if_pos h0, renew_n (by omega), cav_n], by rw [m_sh_yes hs, cal_n, if_neg one_ne, m_fo_yes hf, cal_n, if_neg one_ne, if_pos h40, if_pos h0, wr_n (by show s < 4; omega), wr_n (by show s < 4; omega), m_sheet_n (f := 0) (by omega) hz], ?_⟩
      generalize hμ1 : upM (upM (upM μ 2 (upd (μ 2) s (nI f))) 3 (upd (μ 3) s (nI z))) (5 + s) (fun j => if j < 40 then 0 else μ (5 + s) j) = μ1
      have k : ∀ i, i ≠ 2 → i ≠ 3 → i ≠ 5 + s → μ1 i = μ i := fun i h2 h3 h5 => by rw [← hμ1, upM_ne h5, upM_ne h3, upM_ne h2]
      have k2 : μ1 2 = upd (μ 2) s (nI f) := by rw [← hμ1, upM_ne (by omega)]; rfl
      have k3 : μ1 3 = upd (μ 3) s (nI z) := by rw [← hμ1, upM_ne (by omega)]; rfl
      have k5 : μ1 (5 + s) = fun j => if j < 40 then 0 else μ (5 + s) j := by rw [← hμ1, upM_self]
      have g : Ag [2, 3, 5, 6, 7, 8, 90, 91, 92] [] μ (upM (upM (upM μ1 90 (upd (μ1 90) s (nI f))) 91 (upd (upM μ1 90 (upd (μ1 90) s (nI f)) 91) s (nI z))) 92 (fun x => if 40 * s ≤ x ∧ x < 40 * s + z then 0 else upM (upM μ1 90 (upd (μ1 90) s (nI f))) 91 (upd (upM μ1 90 (upd (μ1 90) s (nI f)) 91) s (nI z)) 92 x)) := by
        refine Ag.tr (b := μ1) ⟨fun i h9 hi => k i (fun q => hi (by rw [q]; decide)) (fun q => hi (by rw [q]; decide)) (fun q => hi ?_), fun j _ => by rw [k 89 (by decide) (by decide) (by omega)]⟩ (((Ag.up (by decide) (by decide)).tr (Ag.up (by decide) (by decide))).tr (Ag.up (by decide) (by decide)))
        have h4 : s = 0 ∨ s = 1 ∨ s = 2 ∨ s = 3 := by omega
        rcases h4 with rfl | rfl | rfl | rfl <;> rw [q] <;> decide
      obtain ⟨h1, h2, h3, h4, h5, h6⟩ := hI
      refine ⟨h1.mk1 (s := s) ?_ (fun i hi => ?_) (fun i hi hs => ?_) (fun x hx => ?_) ?_, h2.ag g, h3.ag g, h4.ag g (by rw [g.at 9]), h5.ag g, h6.ag g⟩
      · rw [g.at 1, g.fi 0]; exact h1.1
      · refine ⟨?_, ?_, ?_, ?_⟩
        · show μ1 2 i = _; rw [k2, upd_ne hi]
        · show upd (μ1 90) s _ i = _; rw [upd_ne hi, k 90 (by decide) (by decide) (by omega)]
        · show μ1 3 i = _; rw [k3, upd_ne hi]
        · show upd (μ1 91) s _ i = _; rw [upd_ne hi, k 91 (by decide) (by decide) (by omega)]
      · unfold rowS
        rw [upM_ne (by omega), upM_ne (by omega), upM_ne (by omega), k _ (by omega) (by omega) (by omega)]
      · show (if 40 * s ≤ x ∧ x < 40 * s + z then (0 : Int32) else μ1 92 x) = _
        rw [if_neg (by omega), k 92 (by decide) (by decide) (by omega)]
      · refine ⟨?_, ?_, Or.inr ⟨f, hf, ?_⟩, z, hz, ?_, fun i hi => ?_⟩
        · show μ1 2 s = upd (μ1 90) s _ s; rw [k2, upd_s, upd_s]
        · show μ1 3 s = upd (μ1 91) s _ s; rw [k3, upd_s, upd_s]
        · show μ1 2 s = _; rw [k2, upd_s]
        · show μ1 3 s = _; rw [k3, upd_s]
        · unfold rowS
          rw [upM_ne (by omega), upM_ne (by omega), upM_ne (by omega), k5, upM_self]
          dsimp only
          rw [if_pos (by omega), if_pos (by omega)]
    · rw [c_sh_yes hs, cal_n, if_neg one_ne, c_fo_yes hf, cal_n, if_neg one_ne, if_pos h40, if_neg h0]
      simp only [m_sh_yes hs, cal_n, if_neg one_ne, m_fo_yes hf, if_pos h40, if_neg h0]
      exact fnd_op hI 5
  · exact ⟨_, _, _, by rw [c_sh_yes hs, cal_n, if_neg one_ne, c_fo_yes hf, cal_n, if_neg one_ne, if_neg h40], by rw [m_sh_yes hs, cal_n, if_neg one_ne, m_fo_yes hf, cal_n, if_neg one_ne, if_neg h40], hI⟩
end
section
variable {wq : Prop}
theorem sub_toInt {x y : Int32} (h1 : -2147483648 ≤ x.toInt - y.toInt) (h2 : x.toInt - y.toInt < 2147483648) : (x - y).toInt = x.toInt - y.toInt := by
  rw [Int32.toInt_sub]
  exact Int.bmod_eq_of_le (by omega) (by omega)
theorem add_toInt {x y : Int32} (h1 : -2147483648 ≤ x.toInt + y.toInt) (h2 : x.toInt + y.toInt < 2147483648) : (x + y).toInt = x.toInt + y.toInt := by
  rw [Int32.toInt_add]
  exact Int.bmod_eq_of_le (by omega) (by omega)
theorem i32_lo (x : Int32) : -2147483648 ≤ x.toInt ∧ x.toInt < 2147483648 := ⟨Int32.le_toInt x, Int32.toInt_lt x⟩
theorem toInt_0 : (0 : Int32).toInt = 0 := rfl
theorem toInt_1 : (1 : Int32).toInt = 1 := rfl
theorem toInt_m1 : (-1 : Int32).toInt = -1 := rfl
theorem of_toInt {x : Int32} {n : Nat} (h : x.toInt = n) (hn : n < 2 ^ 31) : x = nI n := Int32.toInt_inj.mp (by rw [h, nI_toInt hn])
/-- an index that a row has, or not -/
theorem ix (x : Int32) (z : Nat) (hz : z < 2 ^ 31) : (∃ i, i < z ∧ x = nI i) ∨ (x.toInt < 0 ∨ (z : Int) ≤ x.toInt) := by
  rcases pk_ix x hz with h | h | h
  · right; left; rw [Int32.lt_iff_toInt_lt, toInt_0] at h; exact h
  · right; right; rw [Int32.le_iff_toInt_le, nI_toInt hz] at h; exact h
  · exact Or.inl h
theorem c_has_yes {F s z i n : Nat} {μ : Mem} (hs : s < 4) (hz : z ≤ 40) (h3 : μ 3 s = nI z) (h : i + n ≤ z) : fX7_hasItems F (nI s) (nI i) (nI n) μ = some (1, μ) := by
  unfold fX7_hasItems
  rw [if_neg (nI_pos (by omega)), if_neg (nI_pos (by omega)), rd_n (by exact hs), h3, nI_sub (by omega), if_neg (nI_nlt (by omega) (by omega)), zr_1]
theorem c_has_no {F s z : Nat} {x n : Int32} {μ : Mem} (hs : s < 4) (hz : z ≤ 40) (h3 : μ 3 s = nI z) (h : x.toInt < 0 ∨ n.toInt < 0 ∨ (z : Int) < x.toInt + n.toInt) : fX7_hasItems F (nI s) x n μ = some (0, μ) := by
  unfold fX7_hasItems
  by_cases h1 : x < 0
  · rw [if_pos h1, zr_0]
  by_cases h2 : n < 0
  · rw [if_neg h1, if_pos h2, zr_0]
  rw [Int32.lt_iff_toInt_lt, toInt_0] at h1 h2
  rw [if_neg (by rw [Int32.lt_iff_toInt_lt, toInt_0]; exact h1), if_neg (by rw [Int32.lt_iff_toInt_lt, toInt_0]; exact h2), rd_n (by exact hs), h3, if_pos, zr_0]
  have h4 := i32_lo n
  have h5 : (nI z).toInt = z := nI_toInt (by omega)
  rw [Int32.lt_iff_toInt_lt, sub_toInt (by omega) (by omega), h5]
  omega
theorem c_look_lost {F s : Nat} {f x : Int32} {μ : Mem} (hs : s < 4) (h : μ 2 s = -1) : fX7_lookAt F (nI s) f x μ = some (1, μ) := by
  unfold fX7_lookAt fX7_isLost
  rw [rd_n (by exact hs), if_pos h, zr_1, cal_n, if_neg one_ne]
theorem c_look_cast {F s : Nat} {f x : Int32} {μ : Mem} (hs : s < 4) (h : ¬ μ 2 s = -1) (hf : ¬ μ 2 s = f) : fX7_lookAt F (nI s) f x μ = some (3, μ) := by
  unfold fX7_lookAt fX7_isLost
  rw [rd_n (by exact hs), if_neg h, zr_0, cal_n, if_pos rfl, rd_n (by exact hs), if_neg hf]
theorem c_look_no {F s z : Nat} {f x : Int32} {μ : Mem} (hs : s < 4) (hz : z ≤ 40) (h3 : μ 3 s = nI z) (h : ¬ μ 2 s = -1) (hf : μ 2 s = f) (hx : x.toInt < 0 ∨ (z : Int) ≤ x.toInt) : fX7_lookAt F (nI s) f x μ = some (2, μ) := by
  unfold fX7_lookAt fX7_isLost
  rw [rd_n (by exact hs), if_neg h, zr_0, cal_n, if_pos rfl, rd_n (by exact hs), if_pos hf, c_has_no hs hz h3 (by rw [toInt_1]; omega), cal_n, if_pos rfl]
theorem c_look_yes {F s z i : Nat} {f : Int32} {μ : Mem} (hs : s < 4) (hz : z ≤ 40) (h3 : μ 3 s = nI z) (h : ¬ μ 2 s = -1) (hf : μ 2 s = f) (hi : i < z) : fX7_lookAt F (nI s) f (nI i) μ = some (0, μ) := by
  unfold fX7_lookAt fX7_isLost
  rw [rd_n (by exact hs), if_neg h, zr_0, cal_n, if_pos rfl, rd_n (by exact hs), if_pos hf, show (1 : Int32) = nI 1 from rfl, c_has_yes hs hz h3 (by omega), cal_n, if_neg (by decide)]
theorem neg_lost : ¬ (0 : Int32) ≤ -1 := by decide
theorem m_lack_lost {F s : Nat} {f x : Int32} {μ : Mem} (hs : s < 4) (h : μ 90 s = -1) : fX9_lacks F (nI s) f x μ = fX9_met F 1 μ := by
  unfold fX9_lacks
  rw [rd_n (by exact hs), h, if_neg neg_lost]
  rfl
theorem m_lack_cast {F s : Nat} {f x : Int32} {μ : Mem} (hs : s < 4) (h : 0 ≤ μ 90 s) (hf : ¬ μ 90 s = f) : fX9_lacks F (nI s) f x μ = fX9_met F 3 μ := by
  unfold fX9_lacks
  rw [rd_n (by exact hs), if_pos h, rd_n (by exact hs), if_neg hf]
  rfl
theorem m_in_z {F z : Nat} {x : Int32} {μ : Mem} (hz : z ≤ 40) : fX9_in F x.toInt64 0 ((nI z - 1).toInt64) μ = some (if 0 ≤ x.toInt ∧ x.toInt < z then 1 else 0, μ) := by
  have h5 : (nI z).toInt = z := nI_toInt (by omega)
  have e : (nI z - 1).toInt = (z : Int) - 1 := by rw [sub_toInt (by rw [h5, toInt_1]; omega) (by rw [h5, toInt_1]; omega), h5, toInt_1]
  unfold fX9_in
  simp only [Int64.lt_iff_toInt_lt, Int32.toInt_toInt64, e, show (0 : Int64).toInt = 0 from rfl]
  by_cases h0 : x.toInt < 0
  · rw [if_pos h0, if_neg (by omega), zr_0]
  · rw [if_neg h0]
    by_cases h1 : (z : Int) - 1 < x.toInt
    · rw [if_pos h1, if_neg (by omega), zr_0]
    · rw [if_neg h1, if_pos (by omega), zr_1]
theorem m_lack_no {F s z : Nat} {f x : Int32} {μ : Mem} (hs : s < 4) (hz : z ≤ 40) (h3 : μ 91 s = nI z) (h : 0 ≤ μ 90 s) (hf : μ 90 s = f) (hx : x.toInt < 0 ∨ (z : Int) ≤ x.toInt) : fX9_lacks F (nI s) f x μ = fX9_met F 2 μ := by
  unfold fX9_lacks
  rw [rd_n (by exact hs), if_pos h, rd_n (by exact hs), if_pos hf, rd_n (by exact hs), h3, m_in_z hz, if_neg (by omega), cal_n, if_pos rfl]
  rfl
theorem m_lack_yes {F s z i : Nat} {f : Int32} {μ : Mem} (hs : s < 4) (hz : z ≤ 40) (h3 : μ 91 s = nI z) (h : 0 ≤ μ 90 s) (hf : μ 90 s = f) (hi : i < z) : fX9_lacks F (nI s) f (nI i) μ = some (0, μ) := by
  have e : (nI i).toInt = i := nI_toInt (by omega)
  unfold fX9_lacks
  rw [rd_n (by exact hs), if_pos h, rd_n (by exact hs), if_pos hf, rd_n (by exact hs), h3, m_in_z hz, if_pos (by omega), cal_n, if_neg one_ne]
theorem fo_ok {μ : Mem} {s : Nat} (h : μ 2 s = -1 ∨ ∃ f, f ≤ 2 ∧ μ 2 s = nI f) : (μ 2 s = -1) ∨ (¬ μ 2 s = -1 ∧ (0 : Int32) ≤ μ 2 s ∧ ∃ f, f ≤ 2 ∧ μ 2 s = nI f) := by
  rcases h with h | ⟨f, hf, h⟩
  · exact Or.inl h
  · refine Or.inr ⟨?_, ?_, f, hf, h⟩
    · rw [h]
      intro q
      have := congrArg Int32.toInt q
      rw [nI_toInt (by omega), toInt_m1] at this
      omega
    · rw [h]; exact nI_pos' (by omega)
theorem ag5 {s : Nat} (hs : s < 4) {μ : Mem} {g : Nat → Int32} : Ag [5, 6, 7, 8, 92, 93] [] μ (upM μ (5 + s) g) := by
  have h4 : s = 0 ∨ s = 1 ∨ s = 2 ∨ s = 3 := by omega
  rcases h4 with rfl | rfl | rfl | rfl <;> exact Ag.up (by decide) (by decide)
theorem SH.it {μ μ' : Mem} (h : SH μ) (g : Ag [5, 6, 7, 8, 92, 93] [] μ μ') {t : Nat} (hr : ∀ i, i < 4 → i ≠ t → rowS μ' i = rowS μ i) (hit : ∀ x, (x < 40 * t ∨ 40 * t + 40 ≤ x) → μ' 92 x = μ 92 x) (ht : t < 4) (hs : ∀ z, z ≤ 40 → μ 3 t = nI z → ∀ i, i < z → rowS μ' t i = μ' 92 (40 * t + i)) : SH μ' := by
  refine h.mk1 (s := t) (by rw [g.at 1, g.fi 0]; exact h.1) (fun i _ => ⟨by rw [g.at 2], by rw [g.at 90], by rw [g.at 3], by rw [g.at 91]⟩) hr hit ?_
  rw [g.at 2, g.at 90, g.at 3, g.at 91]
  obtain ⟨a1, a2, a3, z, a4, a5, a6⟩ := h.2 t ht
  exact ⟨a1, a2, a3, z, a4, a5, hs z a4 a5⟩
theorem Inv.it {μ μ' : Mem} (h : Inv wq μ) (g : Ag [5, 6, 7, 8, 92, 93] [] μ μ') (hs : SH μ') : Inv wq μ' := by
  obtain ⟨h1, h2, h3, h4, h5, h6⟩ := h
  exact ⟨hs, h2.ag g, h3.ag g, h4.ag g (by rw [g.at 9]), h5.ag g, h6.ag g⟩
theorem op_lose (a : Int32) : Op wq (fX8_lose FF a) (fX9_lose FF a) := by
  intro μ hI
  unfold fX8_lose fX9_lose
  rcases small a 3 (by decide) with h | ⟨s, hs, rfl⟩
  · exact ⟨_, _, _, by rw [c_sh_no h, cal_n, if_pos rfl], by rw [m_sh_no h, cal_n, if_pos rfl], hI⟩
  have hs4 : s < 4 := by omega
  obtain ⟨a1, a2, a3, z, a4, a5, a6⟩ := hI.1.2 s hs4
  rcases fo_ok a3 with h | ⟨h, h0, f, hf, hff⟩
  · rw [c_sh_yes hs, cal_n, if_neg one_ne]
    simp only [m_sh_yes hs, cal_n, if_neg one_ne]
    unfold fX7_isLost
    rw [rd_n (by exact hs4), if_pos h, zr_1, cal_n, if_neg one_ne]
    refine ⟨_, _, _, rfl, ?_, fnd hI (v := 1)⟩
    rw [rd_n (by exact hs4)]
    show (if 0 ≤ μ 90 s then _ else _) = _
    rw [← a1, h, if_neg neg_lost]
    rfl
  · rw [c_sh_yes hs, cal_n, if_neg one_ne]
    simp only [m_sh_yes hs, cal_n, if_neg one_ne]
    unfold fX7_isLost
    rw [rd_n (by exact hs4), if_neg h, zr_0, cal_n, if_pos rfl, wr_n (by exact hs4), rd_n (by exact hs4)]
    refine ⟨nI z, upM μ 2 (upd (μ 2) s (-1)), upM (upM μ 2 (upd (μ 2) s (-1))) 90 (upd (μ 90) s (-1)), by rw [upM_ne (by decide), a5], ?_, ?_⟩
    · rw [rd_n (by exact hs4)]
      show (if 0 ≤ μ 90 s then _ else _) = _
      rw [← a1, if_pos h0, wr_n (by exact hs4), rd_n (by exact hs4)]
      show some (μ 91 s, _) = _
      rw [← a2, a5]
      rfl
    · have g : Ag [2, 90] [] μ (upM (upM μ 2 (upd (μ 2) s (-1))) 90 (upd (μ 90) s (-1))) := (Ag.up (by decide) (by decide)).tr (Ag.up (by decide) (by decide))
      obtain ⟨h1, h2, h3, h4, h5, h6⟩ := hI
      refine ⟨h1.mk1 (s := s) h1.1 (fun i hi => ⟨?_, ?_, rfl, rfl⟩) (fun i hi hs => ?_) (fun x hx => rfl) ?_, h2.ag g, h3.ag g, h4.ag g (by rw [g.at 9]), h5.ag g, h6.ag g⟩
      · show upd (μ 2) s (-1) i = _; rw [upd_ne hi]
      · show upd (μ 90) s (-1) i = _; rw [upd_ne hi]
      · unfold rowS
        rw [upM_ne (by omega), upM_ne (by omega)]
      · refine ⟨?_, a2, Or.inl ?_, z, a4, a5, fun i hi => ?_⟩
        · show upd (μ 2) s (-1) s = upd (μ 90) s (-1) s; rw [upd_s, upd_s]
        · show upd (μ 2) s (-1) s = _; rw [upd_s]
        · unfold rowS
          rw [upM_ne (by omega), upM_ne (by omega)]
          exact a6 i hi
theorem op_get (a b c : Int32) : Op wq (fX8_get FF a b c) (fX9_get FF a b c) := by
  intro μ hI
  unfold fX8_get fX9_get
  rcases small a 3 (by decide) with h | ⟨s, hs, rfl⟩
  · exact ⟨_, _, _, by rw [c_sh_no h, cal_n, if_pos rfl], by rw [m_sh_no h, cal_n, if_pos rfl], hI⟩
  rcases small b 2 (by decide) with h | ⟨f, hf, rfl⟩
  · exact ⟨_, _, _, by rw [c_sh_yes hs, cal_n, if_neg one_ne, c_fo_no h, cal_n, if_pos rfl], by rw [m_sh_yes hs, cal_n, if_neg one_ne, m_fo_no h, cal_n, if_pos rfl], hI⟩
  have hs4 : s < 4 := by omega
  obtain ⟨a1, a2, a3, z, a4, a5, a6⟩ := hI.1.2 s hs4
  simp only [c_sh_yes hs, m_sh_yes hs, cal_n, if_neg one_ne, c_fo_yes hf, m_fo_yes hf]
  rcases fo_ok a3 with h | ⟨h, h0, f2, hf2, hff⟩
  · rw [c_look_lost hs4 h, cal_n, if_neg one_ne]
    exact ⟨_, _, _, rfl, by rw [m_lack_lost hs4 (by exact a1.symm.trans h)]; rfl, fnd hI⟩
  by_cases hc : μ 2 s = nI f
  · rcases ix c z (by omega) with ⟨i, hi, rfl⟩ | hx
    · rw [c_look_yes hs4 a4 a5 h hc hi, cal_n, if_pos rfl, rr_n (by exact hs4), (gt4 hs4).1, rd_n (by rw [(gt4 hs4).2]; omega)]
      refine ⟨_, _, _, rfl, ?_, hI⟩
      rw [show (40 : Int32) * nI s + nI i = nI (40 * s + i) from by rw [show (40 : Int32) = nI 40 from rfl, pk_mul, nI_add], m_lack_yes hs4 a4 (a2.symm.trans a5) (by rw [← a1]; exact h0) (a1.symm.trans hc) hi, cal_n, if_pos rfl, rd_n (by show _ < 160; omega), ← a6 i hi]
      rfl
    · rw [c_look_no hs4 a4 a5 h hc hx, cal_n, if_neg (by decide)]
      exact ⟨_, _, _, rfl, by rw [m_lack_no (z := z) hs4 a4 (by exact a2.symm.trans a5) (by show 0 ≤ μ 90 s; rw [← a1]; exact h0) (by exact a1.symm.trans hc) hx]; rfl, fnd hI⟩
  · rw [c_look_cast hs4 h hc, cal_n, if_neg (by decide)]
    exact ⟨_, _, _, rfl, by rw [m_lack_cast hs4 (by show 0 ≤ μ 90 s; rw [← a1]; exact h0) (by show ¬ μ 90 s = _; rw [← a1]; exact hc)]; rfl, fnd hI⟩
end
section
variable {wq : Prop}
theorem cut_n {F f : Nat} {x : Int32} {μ : Mem} (hf : f ≤ 2) : fX8_cutToForm F (nI f) x μ = some (if f = 0 then x.toInt8.toInt32 else if f = 1 then x.toInt16.toInt32 else x, μ) := by
  have h3 : f = 0 ∨ f = 1 ∨ f = 2 := by omega
  rcases h3 with rfl | rfl | rfl <;> rfl
theorem mul40 {s i : Nat} : (40 : Int32) * nI s + nI i = nI (40 * s + i) := by rw [show (40 : Int32) = nI 40 from rfl, pk_mul, nI_add]
theorem op_put (a b c d : Int32) : Op wq (fX8_put FF a b c d) (fX9_put FF a b c d) := by
  intro μ hI
  unfold fX8_put fX9_put
  rcases small a 3 (by decide) with h | ⟨s, hs, rfl⟩
  · exact ⟨_, _, _, by rw [c_sh_no h, cal_n, if_pos rfl], by rw [m_sh_no h, cal_n, if_pos rfl], hI⟩
  rcases small b 2 (by decide) with h | ⟨f, hf, rfl⟩
  · exact ⟨_, _, _, by rw [c_sh_yes hs, cal_n, if_neg one_ne, c_fo_no h, cal_n, if_pos rfl], by rw [m_sh_yes hs, cal_n, if_neg one_ne, m_fo_no h, cal_n, if_pos rfl], hI⟩
  have hs4 : s < 4 := by omega
  obtain ⟨a1, a2, a3, z, a4, a5, a6⟩ := hI.1.2 s hs4
  simp only [c_sh_yes hs, m_sh_yes hs, cal_n, if_neg one_ne, c_fo_yes hf, m_fo_yes hf]
  rcases fo_ok a3 with h | ⟨h, h0, f2, hf2, hff⟩
  · rw [c_look_lost hs4 h, cal_n, if_neg one_ne]
    exact ⟨_, _, _, rfl, by rw [m_lack_lost hs4 (by exact a1.symm.trans h)]; rfl, fnd hI⟩
  by_cases hc : μ 2 s = nI f
  · rcases ix c z (by omega) with ⟨i, hi, rfl⟩ | hx
    · rw [c_look_yes hs4 a4 a5 h hc hi, cal_n, if_pos rfl, rr_n (by exact hs4), (gt4 hs4).1, cut_n hf, cal_n, wr_n (by rw [(gt4 hs4).2]; omega)]
      generalize hv : (if f = 0 then d.toInt8.toInt32 else if f = 1 then d.toInt16.toInt32 else d) = v
      refine ⟨1, upM μ (5 + s) (upd (μ (5 + s)) i v), upM (upM μ (5 + s) (upd (μ (5 + s)) i v)) 92 (upd (μ 92) (40 * s + i) v), rfl, ?_, ?_⟩
      · have k : ∀ j, j ≠ 5 + s → upM μ (5 + s) (upd (μ (5 + s)) i v) j = μ j := fun j hj => upM_ne hj
        rw [m_lack_yes hs4 a4 (by rw [k 91 (by omega)]; exact a2.symm.trans a5) (by rw [k 90 (by omega), ← a1]; exact h0) (by rw [k 90 (by omega)]; exact a1.symm.trans hc) hi, cal_n, if_pos rfl, mul40]
        have h3 : f = 0 ∨ f = 1 ∨ f = 2 := by omega
        have hlt : 40 * s + i < ln 92 := by show _ < 160; omega
        rcases h3 with rfl | rfl | rfl
        · rw [if_pos (show nI 0 = 0 from rfl), wr_n hlt, k 92 (by omega), ← hv]; rfl
        · rw [if_neg (show ¬ nI 1 = 0 by decide), if_pos (show nI 1 = 1 from rfl), wr_n hlt, k 92 (by omega), ← hv]; rfl
        · rw [if_neg (show ¬ nI 2 = 0 by decide), if_neg (show ¬ nI 2 = 1 by decide), wr_n hlt, k 92 (by omega), ← hv]; rfl
      · have g : Ag [5, 6, 7, 8, 92, 93] [] μ (upM (upM μ (5 + s) (upd (μ (5 + s)) i v)) 92 (upd (μ 92) (40 * s + i) v)) := (ag5 hs4).tr (Ag.up (by decide) (by decide))
        refine hI.it g (hI.1.it g (t := s) (fun j hj hjs => ?_) (fun x hx => ?_) hs4 (fun z' hz' e j hj => ?_))
        · unfold rowS
          rw [upM_ne (by omega), upM_ne (by omega)]
        · rw [upM_self, upd_ne (by omega)]
        · have ez : z' = z := nI_inj (by omega) (by omega) (e.symm.trans a5)
          subst ez
          unfold rowS
          rw [upM_ne (by omega), upM_self, upM_self]
          by_cases e2 : j = i
          · rw [e2, upd_s, upd_s]
          · rw [upd_ne e2, upd_ne (by omega)]
            exact a6 j hj
    · rw [c_look_no hs4 a4 a5 h hc hx, cal_n, if_neg (by decide)]
      exact ⟨_, _, _, rfl, by rw [m_lack_no (z := z) hs4 a4 (by exact a2.symm.trans a5) (by show 0 ≤ μ 90 s; rw [← a1]; exact h0) (by exact a1.symm.trans hc) hx]; rfl, fnd hI⟩
  · rw [c_look_cast hs4 h hc, cal_n, if_neg (by decide)]
    exact ⟨_, _, _, rfl, by rw [m_lack_cast hs4 (by show 0 ≤ μ 90 s; rw [← a1]; exact h0) (by show ¬ μ 90 s = _; rw [← a1]; exact hc)]; rfl, fnd hI⟩
theorem m_cp1_loop {F s i t j n : Nat} {μ : Mem} (hs : s < 4) (hn : n ≤ 40) (hi : i + n ≤ 40) : ∀ (d q k : Nat), k + d = n → d < q → fX9_copy_120 F q (nI s) (nI i) (nI t) (nI j) (nI n) (nI k) (upM μ 93 (fun x => if x < k then μ 92 (40 * s + i + x) else μ 93 x)) = fX9_copy_157 F F (nI t) (nI j) (nI n) 0 (upM μ 93 (fun x => if x < n then μ 92 (40 * s + i + x) else μ 93 x)) := by
  intro d
  induction d with
  | zero =>
    intro q k hk hq
    obtain ⟨q, rfl⟩ : ∃ n', q = n' + 1 := ⟨q - 1, by omega⟩
    show fX9_copy_120_b F _ _ _ _ _ _ _ _ = _
    unfold fX9_copy_120_b
    rw [if_pos (nI_le (by omega) (by omega)), show k = n by omega]
  | succ d ih =>
    intro q k hk hq
    obtain ⟨q, rfl⟩ : ∃ n', q = n' + 1 := ⟨q - 1, by omega⟩
    show fX9_copy_120_b F _ _ _ _ _ _ _ _ = _
    unfold fX9_copy_120_b
    rw [if_neg (nI_ge (by omega) (by omega)), mul40, nI_add, rd_n (by show _ < 160; omega), wr_n (by show _ < 40; omega), nI_add1, upM_upM, upM_self, upM_ne (by decide)]
    have e : upd (fun x => if x < k then μ 92 (40 * s + i + x) else μ 93 x) k (μ 92 (40 * s + i + k)) = fun x => if x < k + 1 then μ 92 (40 * s + i + x) else μ 93 x := by
      funext x
      unfold upd
      by_cases h1 : x = k
      · rw [if_pos h1, if_pos (by omega), h1]
      · rw [if_neg h1]
        dsimp only
        by_cases h2 : x < k
        · rw [if_pos h2, if_pos (by omega)]
        · rw [if_neg h2, if_neg (by omega)]
    rw [e]
    exact ih q (k + 1) (by omega) (by omega)
theorem m_cp2_loop {F t j n : Nat} {μ : Mem} {g : Nat → Int32} (ht : t < 4) (hn : n ≤ 40) (hj : j + n ≤ 40) (hg : μ 93 = g) : ∀ (d q k : Nat), k + d = n → d < q → fX9_copy_157 F q (nI t) (nI j) (nI n) (nI k) (upM μ 92 (fun x => if 40 * t + j ≤ x ∧ x < 40 * t + j + k then g (x - (40 * t + j)) else μ 92 x)) = some (1, upM μ 92 (fun x => if 40 * t + j ≤ x ∧ x < 40 * t + j + n then g (x - (40 * t + j)) else μ 92 x)) := by
  intro d
  induction d with
  | zero =>
    intro q k hk hq
    obtain ⟨q, rfl⟩ : ∃ n', q = n' + 1 := ⟨q - 1, by omega⟩
    show fX9_copy_157_b F _ _ _ _ _ _ = _
    unfold fX9_copy_157_b
    rw [if_pos (nI_le (by omega) (by omega)), show k = n by omega]
  | succ d ih =>
    intro q k hk hq
    obtain ⟨q, rfl⟩ : ∃ n', q = n' + 1 := ⟨q - 1, by omega⟩
    show fX9_copy_157_b F _ _ _ _ _ _ = _
    unfold fX9_copy_157_b
    rw [if_neg (nI_ge (by omega) (by omega)), rd_n (by show _ < 40; omega), mul40, nI_add, wr_n (by show _ < 160; omega), nI_add1, upM_upM, upM_self, upM_ne (by decide), hg]
    have e : upd (fun x => if 40 * t + j ≤ x ∧ x < 40 * t + j + k then g (x - (40 * t + j)) else μ 92 x) (40 * t + j + k) (g k) = fun x => if 40 * t + j ≤ x ∧ x < 40 * t + j + (k + 1) then g (x - (40 * t + j)) else μ 92 x := by
      funext x
      unfold upd
      by_cases h1 : x = 40 * t + j + k
      · rw [if_pos h1, if_pos (by omega), h1, show 40 * t + j + k - (40 * t + j) = k by omega]
      · rw [if_neg h1]
        dsimp only
        by_cases h2 : 40 * t + j ≤ x ∧ x < 40 * t + j + k
        · rw [if_pos h2, if_pos (by omega)]
        · rw [if_neg h2, if_neg (by omega)]
    rw [e]
    exact ih q (k + 1) (by omega) (by omega)
theorem m_cp {s i t j n : Nat} {μ : Mem} (hs : s < 4) (ht : t < 4) (hi : i + n ≤ 40) (hj : j + n ≤ 40) : ∃ μ', fX9_copy_120 FF FF (nI s) (nI i) (nI t) (nI j) (nI n) 0 μ = some (1, μ') ∧ (∀ k, k ≠ 92 → k ≠ 93 → μ' k = μ k) ∧ ∀ x, μ' 92 x = if 40 * t + j ≤ x ∧ x < 40 * t + j + n then μ 92 (40 * s + i + (x - (40 * t + j))) else μ 92 x := by
  have h1 := m_cp1_loop (F := FF) (s := s) (i := i) (t := t) (j := j) (n := n) (μ := μ) hs (by omega) hi n FF 0 (by omega) (by rw [FF_e]; omega)
  rw [show (fun x => if x < 0 then μ 92 (40 * s + i + x) else μ 93 x) = μ 93 from rfl, upM_id] at h1
  generalize hμ : upM μ 93 (fun x => if x < n then μ 92 (40 * s + i + x) else μ 93 x) = μ1 at h1
  have h2 := m_cp2_loop (F := FF) (t := t) (j := j) (n := n) (μ := μ1) (g := μ1 93) ht (by omega) hj rfl n FF 0 (by omega) (by rw [FF_e]; omega)
  rw [show (fun x => if 40 * t + j ≤ x ∧ x < 40 * t + j + 0 then μ1 93 (x - (40 * t + j)) else μ1 92 x) = μ1 92 from funext (fun x => if_neg (by omega)), upM_id] at h2
  refine ⟨_, h1.trans h2, fun k h92 h93 => ?_, fun x => ?_⟩
  · rw [upM_ne h92, ← hμ, upM_ne h93]
  · rw [upM_self, ← hμ, upM_self, upM_ne (by decide)]
    by_cases h : 40 * t + j ≤ x ∧ x < 40 * t + j + n
    · rw [if_pos h, if_pos h, if_pos (by omega)]
    · rw [if_neg h, if_neg h]
theorem lost_lt : (-1 : Int32) < 0 := by decide
theorem add64 {x y : Int32} : (x.toInt64 + y.toInt64).toInt = x.toInt + y.toInt := by
  have h1 := i32_lo x
  have h2 := i32_lo y
  rw [Int64.toInt_add, Int32.toInt_toInt64, Int32.toInt_toInt64]
  exact Int.bmod_eq_of_le (by omega) (by omega)
theorem op_copy (a b c d e : Int32) : Op wq (fX8_copy FF a b c d e) (fX9_copy FF a b c d e) := by
  intro μ hI
  unfold fX8_copy fX9_copy fX8_copy_39 fX8_copy_107
  rcases small a 3 (by decide) with h | ⟨s, hs, rfl⟩
  · exact ⟨_, _, _, by rw [c_sh_no h, cal_n, if_pos rfl], by rw [m_sh_no h, cal_n, if_pos rfl], hI⟩
  rcases small c 3 (by decide) with h | ⟨t, ht, rfl⟩
  · exact ⟨_, _, _, by rw [c_sh_yes hs, cal_n, if_neg one_ne, c_sh_no h, cal_n, if_pos rfl], by rw [m_sh_yes hs, cal_n, if_neg one_ne, m_sh_no h, cal_n, if_pos rfl], hI⟩
  have hs4 : s < 4 := by omega
  have ht4 : t < 4 := by omega
  obtain ⟨a1, a2, a3, z, a4, a5, a6⟩ := hI.1.2 s hs4
  obtain ⟨b1, b2, b3, w, b4, b5, b6⟩ := hI.1.2 t ht4
  simp only [c_sh_yes hs, m_sh_yes hs, c_sh_yes ht, m_sh_yes ht, cal_n, if_neg one_ne]
  unfold fX7_isLost
  rcases fo_ok a3 with h | ⟨h, h0, f, hf, hff⟩
  · rw [rd_n (by exact hs4), if_pos h, zr_1, cal_n, if_neg one_ne]
    refine ⟨_, _, _, rfl, ?_, fnd hI (v := 1)⟩
    rw [rd_n (by exact hs4)]
    show (if μ 90 s < 0 then _ else _) = _
    rw [← a1, h, if_pos lost_lt]
    rfl
  rw [rd_n (by exact hs4), if_neg h, zr_0, cal_n, if_pos rfl]
  have h0' : ¬ μ 90 s < 0 := by
    rw [← a1, Int32.lt_iff_toInt_lt, toInt_0]
    rw [Int32.le_iff_toInt_le, toInt_0] at h0
    omega
  rcases fo_ok b3 with k | ⟨k, k0, f2, hf2, hff2⟩
  · rw [rd_n (by exact ht4), if_pos k, zr_1, cal_n, if_neg one_ne]
    refine ⟨_, _, _, rfl, ?_, fnd hI (v := 1)⟩
    rw [rd_n (by exact hs4)]
    show (if μ 90 s < 0 then _ else _) = _
    rw [if_neg h0', rd_n (by exact ht4)]
    show (if 0 ≤ μ 90 t then _ else _) = _
    rw [← b1, k, if_neg neg_lost]
    rfl
  rw [rd_n (by exact ht4), if_neg k, zr_0, cal_n, if_pos rfl, rd_n (by exact hs4), rd_n (by exact ht4)]
  by_cases hst : μ 2 s = μ 2 t
  · rw [if_pos hst]
    by_cases hix : (0 ≤ b.toInt ∧ 0 ≤ e.toInt ∧ b.toInt + e.toInt ≤ z) ∧ (0 ≤ d.toInt ∧ d.toInt + e.toInt ≤ w)
    · obtain ⟨n, hn, rfl⟩ : ∃ n : Nat, n ≤ 40 ∧ e = nI n := ⟨e.toInt.toNat, by omega, of_toInt (by omega) (by omega)⟩
      obtain ⟨i, hi, rfl⟩ : ∃ n : Nat, n ≤ 40 ∧ b = nI n := ⟨b.toInt.toNat, by omega, of_toInt (by omega) (by omega)⟩
      obtain ⟨j, hj, rfl⟩ : ∃ n : Nat, n ≤ 40 ∧ d = nI n := ⟨d.toInt.toNat, by omega, of_toInt (by omega) (by omega)⟩
      rw [nI_toInt (by omega), nI_toInt (by omega), nI_toInt (by omega)] at hix
      have hiz : i + n ≤ z := by omega
      have hjw : j + n ≤ w := by omega
      rw [c_has_yes hs4 a4 a5 hiz, cal_n, if_neg one_ne, c_has_yes ht4 b4 b5 hjw, cal_n, if_neg one_ne, rr_n (by exact hs4), rr_n (by exact ht4), (gt4 hs4).1, (gt4 ht4).1, cpy_n (by rw [(gt4 hs4).2]; omega) (by rw [(gt4 ht4).2]; omega)]
      generalize hμ1 : upM μ (5 + t) (va_cpy (μ (5 + s)) (μ (5 + t)) i j n) = μ1
      have kk : ∀ q, q ≠ 5 + t → μ1 q = μ q := fun q hq => by rw [← hμ1, upM_ne hq]
      obtain ⟨μ2, m1, m2, m3⟩ := m_cp (s := s) (i := i) (t := t) (j := j) (n := n) (μ := μ1) hs4 ht4 (by omega) (by omega)
      refine ⟨1, μ1, μ2, rfl, ?_, ?_⟩
      · rw [rd_n (by exact hs4), kk 90 (by omega), if_neg h0', rd_n (by exact ht4), kk 90 (by omega), if_pos (by rw [← b1]; exact k0), rd_n (by exact hs4), rd_n (by exact ht4), kk 90 (by omega), if_pos (by rw [← a1, ← b1]; exact hst), if_neg (nI_pos (by omega)), if_neg (nI_pos (by omega)), if_neg (nI_pos (by omega)), rd_n (by exact hs4), kk 91 (by omega), if_neg, rd_n (by exact ht4), kk 91 (by omega), if_pos]
        · exact m1
        · rw [Int64.le_iff_toInt_le, add64, Int32.toInt_toInt64, ← b2, b5, nI_toInt (by omega), nI_toInt (by omega), nI_toInt (by omega)]
          omega
        · rw [Int64.lt_iff_toInt_lt, add64, Int32.toInt_toInt64, ← a2, a5, nI_toInt (by omega), nI_toInt (by omega), nI_toInt (by omega)]
          omega
      · have g : Ag [5, 6, 7, 8, 92, 93] [] μ μ2 := by
          refine Ag.tr (b := μ1) (hμ1 ▸ ag5 ht4) ⟨fun q h9 hq => m2 q (fun x => hq (by rw [x]; decide)) (fun x => hq (by rw [x]; decide)), fun q _ => by rw [m2 89 (by decide) (by decide)]⟩
        refine hI.it g (hI.1.it g (t := t) (fun q hq hqt => ?_) (fun x hx => ?_) ht4 (fun z' hz' e q hq => ?_))
        · unfold rowS
          rw [m2 _ (by omega) (by omega), kk _ (by omega)]
        · rw [m3, if_neg (by omega), kk 92 (by omega)]
        · have ez : z' = w := nI_inj (by omega) (by omega) (e.symm.trans b5)
          subst ez
          unfold rowS
          rw [m2 _ (by omega) (by omega), m3, ← hμ1, upM_self, upM_ne (by omega)]
          unfold va_cpy
          by_cases hq2 : j ≤ q ∧ q < j + n
          · rw [if_pos hq2, if_pos (by omega), show 40 * t + q - (40 * t + j) = q - j by omega, show 40 * s + i + (q - j) = 40 * s + (i + (q - j)) by omega]
            exact a6 _ (by omega)
          · rw [if_neg hq2, if_neg (by omega)]
            exact b6 q hq
    · have hm : ∀ μ1, μ1 90 = μ 90 → μ1 91 = μ 91 → rd μ1 90 (nI s) (fun v5 => if v5 < 0 then cal (fX9_met FF 1 μ1) fun r7 m6 => some (r7, m6) else rd μ1 90 (nI t) fun v8 => if 0 ≤ v8 then rd μ1 90 (nI s) fun v9 => rd μ1 90 (nI t) fun v10 => if v9 = v10 then if b < 0 then cal (fX9_met FF 2 μ1) fun r12 m11 => some (r12, m11) else if d < 0 then cal (fX9_met FF 2 μ1) fun r14 m13 => some (r14, m13) else if e < 0 then cal (fX9_met FF 2 μ1) fun r16 m15 => some (r16, m15) else rd μ1 91 (nI s) fun v17 => if v17.toInt64 < b.toInt64 + e.toInt64 then cal (fX9_met FF 2 μ1) fun r19 m18 => some (r19, m18) else rd μ1 91 (nI t) fun v20 => if d.toInt64 + e.toInt64 ≤ v20.toInt64 then fX9_copy_120 FF FF (nI s) b (nI t) d e 0 μ1 else cal (fX9_met FF 2 μ1) fun r22 m21 => some (r22, m21) else cal (fX9_met FF 4 μ1) fun r24 m23 => some (r24, m23) else cal (fX9_met FF 1 μ1) fun r26 m25 => some (r26, m25)) = fX9_met FF 2 μ1 := by
        intro μ1 e1 e2
        rw [rd_n (by exact hs4), e1, if_neg h0', rd_n (by exact ht4), e1, if_pos (by rw [← b1]; exact k0), rd_n (by exact hs4), rd_n (by exact ht4), e1, if_pos (by rw [← a1, ← b1]; exact hst)]
        by_cases q1 : b < 0
        · rw [if_pos q1]; rfl
        by_cases q2 : d < 0
        · rw [if_neg q1, if_pos q2]; rfl
        by_cases q3 : e < 0
        · rw [if_neg q1, if_neg q2, if_pos q3]; rfl
        rw [if_neg q1, if_neg q2, if_neg q3, rd_n (by exact hs4), e2, ← a2, a5]
        by_cases q4 : (nI z).toInt64 < b.toInt64 + e.toInt64
        · rw [if_pos q4]; rfl
        rw [if_neg q4, rd_n (by exact ht4), e2, ← b2, b5, if_neg]
        · rfl
        · intro q5
          rw [Int32.lt_iff_toInt_lt, toInt_0] at q1 q2 q3
          rw [Int64.lt_iff_toInt_lt, add64, Int32.toInt_toInt64, nI_toInt (by omega)] at q4
          rw [Int64.le_iff_toInt_le, add64, Int32.toInt_toInt64, nI_toInt (by omega)] at q5
          exact hix ⟨⟨by omega, by omega, by omega⟩, by omega, by omega⟩
      by_cases hiz : 0 ≤ b.toInt ∧ 0 ≤ e.toInt ∧ b.toInt + e.toInt ≤ z
      · obtain ⟨n, hn, rfl⟩ : ∃ n : Nat, n ≤ 40 ∧ e = nI n := ⟨e.toInt.toNat, by omega, of_toInt (by omega) (by omega)⟩
        obtain ⟨i, hi, rfl⟩ : ∃ n : Nat, n ≤ 40 ∧ b = nI n := ⟨b.toInt.toNat, by omega, of_toInt (by omega) (by omega)⟩
        rw [nI_toInt (by omega), nI_toInt (by omega)] at hiz
        rw [c_has_yes hs4 a4 a5 (by omega), cal_n, if_neg one_ne, c_has_no ht4 b4 b5 (by rw [nI_toInt (by omega), nI_toInt (by omega)] at hix; rw [nI_toInt (by omega)]; omega), cal_n, if_pos rfl]
        exact ⟨_, _, _, rfl, hm (upM μ 1 (upd (μ 1) 3 2)) rfl rfl, fnd hI⟩
      · rw [c_has_no hs4 a4 a5 (by omega), cal_n, if_pos rfl]
        exact ⟨_, _, _, rfl, hm (upM μ 1 (upd (μ 1) 3 2)) rfl rfl, fnd hI⟩
  · rw [if_neg hst]
    refine ⟨_, _, _, rfl, ?_, fnd hI (v := 4)⟩
    rw [rd_n (by exact hs4)]
    show (if μ 90 s < 0 then _ else _) = _
    rw [if_neg h0', rd_n (by exact ht4)]
    show (if 0 ≤ μ 90 t then _ else _) = _
    rw [← b1, if_pos k0, rd_n (by exact hs4), rd_n (by exact ht4)]
    show (if μ 90 s = μ 90 t then _ else _) = _
    rw [if_neg (by rw [← a1, ← b1]; exact hst)]
    rfl
end
section
/-! what is kept, and given back -/
theorem cp1 {m : Mem} {a b N : Nat} (h : m a 6 = nI N) (hN : N ≤ 40) (ha : isLv a) (hb : isLv b) {c : Nat} (hc : c < 5) : ∃ m' : Mem, (∀ {α : Type} (f : Mem → Option α), cpy m (b + 1 + c) 0 (a + 1 + c) 0 (m a 6) f = f m') ∧ (∀ k, k ≠ a + 1 + c → m' k = m k) ∧ ∀ i, i < N → m' (a + 1 + c) i = m (b + 1 + c) i := by
  have la := (ha.2.2 c (by omega)).2.2.2
  have lb := (hb.2.2 c (by omega)).2.2.2
  refine ⟨upM m (a + 1 + c) (va_cpy (m (b + 1 + c)) (m (a + 1 + c)) 0 0 N), fun f => ?_, fun k hk => upM_ne hk, fun i hi => ?_⟩
  · rw [h]
    exact cpy_n (i := 0) (j := 0) (n := N) (by rw [lb]; omega) (by rw [la]; omega)
  · rw [upM_self]
    unfold va_cpy
    rw [if_pos (by omega)]
    congr 1
    omega
theorem c_become {a b N : Nat} {μ : Mem} (ha : isLv a) (hb : isLv b) (hab : a + 7 ≤ b ∨ b + 7 ≤ a) (h : μ b 6 = nI N) (hN : N ≤ 40) : ∃ μ' : Mem, fX3_become FF a b μ = some μ' ∧ (∀ k, (k < a ∨ a + 6 ≤ k) → μ' k = μ k) ∧ μ' a 6 = nI N ∧ ∀ c, c < 5 → ∀ i, i < N → μ' (a + 1 + c) i = μ (b + 1 + c) i := by
  have h0 : upM μ a (upd (μ a) 6 (μ b 6)) a 6 = nI N := by rw [upM_self, upd_s, h]
  obtain ⟨m1, f1, g1, e1⟩ := cp1 h0 hN ha hb (c := 0) (by omega)
  obtain ⟨m2, f2, g2, e2⟩ := cp1 (m := m1) (by rw [g1 _ (by omega)]; exact h0) hN ha hb (c := 1) (by omega)
  obtain ⟨m3, f3, g3, e3⟩ := cp1 (m := m2) (by rw [g2 _ (by omega), g1 _ (by omega)]; exact h0) hN ha hb (c := 2) (by omega)
  obtain ⟨m4, f4, g4, e4⟩ := cp1 (m := m3) (by rw [g3 _ (by omega), g2 _ (by omega), g1 _ (by omega)]; exact h0) hN ha hb (c := 3) (by omega)
  obtain ⟨m5, f5, g5, e5⟩ := cp1 (m := m4) (by rw [g4 _ (by omega), g3 _ (by omega), g2 _ (by omega), g1 _ (by omega)]; exact h0) hN ha hb (c := 4) (by omega)
  refine ⟨m5, ?_, fun k hk => ?_, ?_, fun c hc i hi => ?_⟩
  · unfold fX3_become
    rw [st_n, f1, f2, f3, f4, f5]
  · rw [g5 _ (by omega), g4 _ (by omega), g3 _ (by omega), g2 _ (by omega), g1 _ (by omega), upM_ne (by omega)]
  · rw [g5 _ (by omega), g4 _ (by omega), g3 _ (by omega), g2 _ (by omega), g1 _ (by omega)]
    exact h0
  · have hc5 : c = 0 ∨ c = 1 ∨ c = 2 ∨ c = 3 ∨ c = 4 := by omega
    rcases hc5 with rfl | rfl | rfl | rfl | rfl
    · rw [g5 _ (by omega), g4 _ (by omega), g3 _ (by omega), g2 _ (by omega), e1 i hi, upM_ne (by omega)]
    · rw [g5 _ (by omega), g4 _ (by omega), g3 _ (by omega), e2 i hi, g1 _ (by omega), upM_ne (by omega)]
    · rw [g5 _ (by omega), g4 _ (by omega), e3 i hi, g2 _ (by omega), g1 _ (by omega), upM_ne (by omega)]
    · rw [g5 _ (by omega), e4 i hi, g3 _ (by omega), g2 _ (by omega), g1 _ (by omega), upM_ne (by omega)]
    · rw [e5 i hi, g4 _ (by omega), g3 _ (by omega), g2 _ (by omega), g1 _ (by omega), upM_ne (by omega)]
theorem slotLv {j : Nat} (h : j < 5) : isLv (18 + 7 * j) ∧ gt 17 j = 18 + 7 * j := by
  have h5 : j = 0 ∨ j = 1 ∨ j = 2 ∨ j = 3 ∨ j = 4 := by omega
  rcases h5 with rfl | rfl | rfl | rfl | rfl <;> exact ⟨isLv_all _ (by decide), rfl⟩
def KC (nx K N : Nat) (μ μ' : Mem) : Prop := μ' 16 1 = nI ((nx + 1) % 5) ∧ μ' 16 2 = nI (min (K + 1) 5) ∧ (CS μ' nx).1 = nI N ∧ Eq5 N (CS μ' nx) (CL μ) ∧ ∀ j, j < 5 → j ≠ nx → CS μ' j = CS μ j
theorem cl_keep {nx K N : Nat} {μ : Mem} (hnx : nx < 5) (hK : K ≤ 5) (h1 : μ 16 1 = nI nx) (h2 : μ 16 2 = nI K) (h9 : μ 9 6 = nI N) (hN : N ≤ 40) : ∃ μ', fX2_keep FF μ = some μ' ∧ (∀ k, k ≠ 16 → (k < 18 ∨ 53 ≤ k) → μ' k = μ k) ∧ KC nx K N μ μ' := by
  obtain ⟨q1, q2⟩ := slotLv hnx
  obtain ⟨m, f1, f2, f3, f4⟩ := c_become (μ := μ) q1 isLv_9 (by omega) h9 hN
  have e16 : m 16 = μ 16 := f2 16 (by omega)
  have step : ∀ z, z = nI ((nx + 1) % 5) → fX2_keep_34 FF z m = some (upM m 16 (upd (upd (μ 16) 1 z) 2 (nI (min (K + 1) 5)))) := by
    intro z hz
    unfold fX2_keep_34
    rw [st_n, st_n, upM_upM, upM_self, e16]
    have e : imin ((upd (μ 16) 1 z 2) + 1) 5 = nI (min (K + 1) 5) := by
      rw [upd_ne (by decide), h2, nI_add1, show (5 : Int32) = nI 5 from rfl, imin_n (by omega) (by omega)]
    rw [e]
  refine ⟨upM m 16 (upd (upd (μ 16) 1 (nI ((nx + 1) % 5))) 2 (nI (min (K + 1) 5))), ?_, fun k hk hk2 => ?_, ?_, ?_, ?_, fun i hi => ?_, fun j hj hjn => ?_⟩
  · unfold fX2_keep
    rw [h1, rr_n (by show nx < 5; omega), q2, f1, cav_n, e16, h1, nI_add1, show (5 : Int32) = nI 5 from rfl, ifle (by omega) (by omega)]
    by_cases h : 5 ≤ nx + 1
    · rw [if_pos h, step 0 (by rw [show (nx + 1) % 5 = 0 by omega]; rfl), show nI ((nx + 1) % 5) = 0 from by rw [show (nx + 1) % 5 = 0 by omega]; rfl]
    · rw [if_neg h, step _ (by rw [show (nx + 1) % 5 = nx + 1 by omega]), show (nx + 1) % 5 = nx + 1 by omega]
  · rw [upM_ne hk, f2 k (by omega)]
  · rw [upM_self, upd_ne (by decide), upd_s]
  · rw [upM_self, upd_s]
  · show upM m 16 _ (18 + 7 * nx) 6 = _
    rw [upM_ne (by omega)]; exact f3
  · have g : ∀ c, c < 5 → upM m 16 (upd (upd (μ 16) 1 (nI ((nx + 1) % 5))) 2 (nI (min (K + 1) 5))) (19 + c + 7 * nx) i = μ (10 + c) i := fun c hc => by
      rw [upM_ne (by omega), show 19 + c + 7 * nx = 18 + 7 * nx + 1 + c by omega, f4 c hc i hi, show 9 + 1 + c = 10 + c by omega]
    exact ⟨g 0 (by omega), g 1 (by omega), g 2 (by omega), g 3 (by omega), g 4 (by omega)⟩
  · unfold CS
    rw [upM_ne (by omega), upM_ne (by omega), upM_ne (by omega), upM_ne (by omega), upM_ne (by omega), upM_ne (by omega), f2 _ (by omega), f2 _ (by omega), f2 _ (by omega), f2 _ (by omega), f2 _ (by omega), f2 _ (by omega)]
def MS (k : Nat) (μ μ' : Mem) : Prop := (MT μ' k).1 = (MT μ k).1 ∧ Eq5 40 (MT μ' k) (MT μ k)
theorem MS.tr {k : Nat} {a b c : Mem} (h1 : MS k a b) (h2 : MS k b c) : MS k a c := ⟨h2.1.trans h1.1, h2.2.tr h1.2⟩
theorem MS.rf {k : Nat} {a : Mem} : MS k a a := ⟨rfl, fun _ _ => ⟨rfl, rfl, rfl, rfl, rfl⟩⟩
theorem Eq5.less {n N : Nat} {a b : LT} (h : Eq5 N a b) (hn : n ≤ N) : Eq5 n a b := fun i hi => h i (by omega)
theorem MS.of {k : Nat} {μ μ' : Mem} (h : MT μ' k = MT μ k) : MS k μ μ' := ⟨by rw [h], fun _ _ => by rw [h]; exact ⟨rfl, rfl, rfl, rfl, rfl⟩⟩
def cpm (a b i : Nat) (f : Nat → Int32) : Nat → Int32 := fun x => if 40 * b ≤ x ∧ x < 40 * b + i then f (40 * a + (x - 40 * b)) else f x
theorem cpm_0 {a b : Nat} {f : Nat → Int32} : cpm a b 0 f = f := funext fun x => if_neg (by omega)
theorem cpm_s {a b i : Nat} {f : Nat → Int32} (hab : a ≠ b) (hi : i < 40) : upd (cpm a b i f) (40 * b + i) (cpm a b i f (40 * a + i)) = cpm a b (i + 1) f := by
  have e : cpm a b i f (40 * a + i) = f (40 * a + i) := if_neg (by omega)
  rw [e]
  funext x
  unfold upd cpm
  by_cases h1 : x = 40 * b + i
  · rw [if_pos h1, if_pos (by omega), h1, show 40 * b + i - 40 * b = i by omega]
  · rw [if_neg h1]
    by_cases h2 : 40 * b ≤ x ∧ x < 40 * b + i
    · rw [if_pos h2, if_pos (by omega)]
    · rw [if_neg h2, if_neg (by omega)]
def cpA (a b i : Nat) (μ : Mem) : Mem := upM (upM (upM (upM (upM μ 95 (cpm a b i (μ 95))) 96 (cpm a b i (μ 96))) 97 (cpm a b i (μ 97))) 98 (cpm a b i (μ 98))) 99 (cpm a b i (μ 99))
theorem cpA_o {a b i k : Nat} {μ : Mem} (h : k < 95 ∨ 100 ≤ k) : cpA a b i μ k = μ k := by
  unfold cpA
  rw [upM_ne (by omega), upM_ne (by omega), upM_ne (by omega), upM_ne (by omega), upM_ne (by omega)]
theorem cpA_i {a b i k : Nat} {μ : Mem} (h : 95 ≤ k ∧ k < 100) : cpA a b i μ k = cpm a b i (μ k) := by
  have h5 : k = 95 ∨ k = 96 ∨ k = 97 ∨ k = 98 ∨ k = 99 := by omega
  rcases h5 with rfl | rfl | rfl | rfl | rfl <;> rfl
theorem upM_ext {μ μ' : Mem} (h : ∀ k, μ k = μ' k) : μ = μ' := funext h
theorem cpA_step {a b i : Nat} {μ : Mem} (hab : a ≠ b) (hi : i < 40) : upM (upM (upM (upM (upM (cpA a b i μ) 95 (upd (cpA a b i μ 95) (40 * b + i) (cpA a b i μ 95 (40 * a + i)))) 96 (upd (cpA a b i μ 96) (40 * b + i) (cpA a b i μ 96 (40 * a + i)))) 97 (upd (cpA a b i μ 97) (40 * b + i) (cpA a b i μ 97 (40 * a + i)))) 98 (upd (cpA a b i μ 98) (40 * b + i) (cpA a b i μ 98 (40 * a + i)))) 99 (upd (cpA a b i μ 99) (40 * b + i) (cpA a b i μ 99 (40 * a + i))) = cpA a b (i + 1) μ := by
  apply upM_ext
  intro k
  by_cases h : 95 ≤ k ∧ k < 100
  · rw [cpA_i h]
    have h5 : k = 95 ∨ k = 96 ∨ k = 97 ∨ k = 98 ∨ k = 99 := by omega
    rcases h5 with rfl | rfl | rfl | rfl | rfl <;> exact cpm_s hab hi
  · rw [upM_ne (by omega), upM_ne (by omega), upM_ne (by omega), upM_ne (by omega), upM_ne (by omega), cpA_o (by omega), cpA_o (by omega)]
theorem m_cpa_loop {F a b N : Nat} {μ : Mem} (ha : a < 6) (hb : b < 6) (hab : a ≠ b) (hN : N ≤ 40) (h : μ 94 a = nI N) : ∀ (d n i : Nat), i + d = N → d < n → fX9_copyAll_14 F n (nI a) (nI b) (nI i) (cpA a b i μ) = some (cpA a b N μ) := by
  intro d
  induction d with
  | zero =>
    intro n i hi hn
    obtain ⟨n, rfl⟩ : ∃ n', n = n' + 1 := ⟨n - 1, by omega⟩
    show fX9_copyAll_14_b F _ _ _ _ _ = _
    unfold fX9_copyAll_14_b
    rw [rd_n (by show a < 6; omega), cpA_o (by omega), h, if_pos (nI_le (by omega) (by omega)), show i = N by omega]
  | succ d ih =>
    intro n i hi hn
    obtain ⟨n, rfl⟩ : ∃ n', n = n' + 1 := ⟨n - 1, by omega⟩
    show fX9_copyAll_14_b F _ _ _ _ _ = _
    unfold fX9_copyAll_14_b
    rw [rd_n (by show a < 6; omega), cpA_o (by omega), h, if_neg (nI_ge (by omega) (by omega))]
    rw [mul40, mul40, rd_n (by show _ < 240; omega), wr_n (by show _ < 240; omega), rd_n (by show _ < 240; omega), wr_n (by show _ < 240; omega), rd_n (by show _ < 240; omega), wr_n (by show _ < 240; omega), rd_n (by show _ < 240; omega), wr_n (by show _ < 240; omega), rd_n (by show _ < 240; omega), wr_n (by show _ < 240; omega), nI_add1]
    have e := cpA_step (μ := μ) hab (show i < 40 by omega)
    exact (congrArg (fun m => fX9_copyAll_14 F n (nI a) (nI b) (nI (i + 1)) m) e).trans (ih n (i + 1) (by omega) (by omega))
theorem cpA_0 {a b : Nat} {μ : Mem} : cpA a b 0 μ = μ := by
  apply upM_ext
  intro k
  by_cases h : 95 ≤ k ∧ k < 100
  · rw [cpA_i h, cpm_0]
  · rw [cpA_o (by omega)]
theorem m_copyAll {a b N : Nat} {μ : Mem} (ha : a < 6) (hb : b < 6) (hab : a ≠ b) (hN : N ≤ 40) (h : μ 94 a = nI N) : ∃ μ', fX9_copyAll FF (nI a) (nI b) μ = some μ' ∧ Ag [94, 95, 96, 97, 98, 99] [] μ μ' ∧ (MT μ' b).1 = nI N ∧ Eq5 N (MT μ' b) (MT μ a) ∧ ∀ k, k ≠ b → MS k μ μ' := by
  refine ⟨cpA a b N (upM μ 94 (upd (μ 94) b (nI N))), ?_, ⟨fun k h9 hk => ?_, fun j _ => ?_⟩, ?_, fun i hi => ?_, fun k hk => ⟨?_, fun i hi => ?_⟩⟩
  · unfold fX9_copyAll
    rw [rd_n (by show a < 6; omega), wr_n (by show b < 6; omega), h]
    have hl := m_cpa_loop (F := FF) (μ := upM μ 94 (upd (μ 94) b (nI N))) ha hb hab hN (by rw [upM_self, upd_ne hab]; exact h) N FF 0 (by omega) (by rw [FF_e]; omega)
    rw [cpA_0] at hl
    exact hl
  · have hk2 : k < 94 ∨ 100 ≤ k := by
      have : k ≠ 94 ∧ k ≠ 95 ∧ k ≠ 96 ∧ k ≠ 97 ∧ k ≠ 98 ∧ k ≠ 99 := by simpa using hk
      omega
    rw [cpA_o (by omega), upM_ne (by omega)]
  · rw [cpA_o (by omega), upM_ne (by omega)]
  · show cpA a b N (upM μ 94 (upd (μ 94) b (nI N))) 94 b = nI N
    rw [cpA_o (by omega), upM_self, upd_s]
  · have g : ∀ c, 95 ≤ c → c < 100 → cpA a b N (upM μ 94 (upd (μ 94) b (nI N))) c (40 * b + i) = μ c (40 * a + i) := fun c h1 h2 => by
      rw [cpA_i ⟨h1, h2⟩, upM_ne (by omega)]
      unfold cpm
      rw [if_pos (by omega), show 40 * b + i - 40 * b = i by omega]
    exact ⟨g 95 (by omega) (by omega), g 96 (by omega) (by omega), g 97 (by omega) (by omega), g 98 (by omega) (by omega), g 99 (by omega) (by omega)⟩
  · show cpA a b N (upM μ 94 (upd (μ 94) b (nI N))) 94 k = μ 94 k
    rw [cpA_o (by omega), upM_self, upd_ne hk]
  · have g : ∀ c, 95 ≤ c → c < 100 → cpA a b N (upM μ 94 (upd (μ 94) b (nI N))) c (40 * k + i) = μ c (40 * k + i) := fun c h1 h2 => by
      rw [cpA_i ⟨h1, h2⟩, upM_ne (by omega)]
      unfold cpm
      rw [if_neg (by omega)]
    exact ⟨g 95 (by omega) (by omega), g 96 (by omega) (by omega), g 97 (by omega) (by omega), g 98 (by omega) (by omega), g 99 (by omega) (by omega)⟩
end
section
variable {wq : Prop}
def srcK (K i : Nat) : Nat := if K = 5 then i + 1 else i
def KM (K N : Nat) (μ μ' : Mem) : Prop := μ' 89 11 = nI (min (K + 1) 5) ∧ (MT μ' (min (K + 1) 5)).1 = nI N ∧ Eq5 N (MT μ' (min (K + 1) 5)) (MT μ 0) ∧ ∀ i, 1 ≤ i → i < min (K + 1) 5 → ∀ n, n ≤ 40 → (MT μ (srcK K i)).1 = nI n → (MT μ' i).1 = nI n ∧ Eq5 n (MT μ' i) (MT μ (srcK K i))
theorem MT_fl {k : Nat} {μ : Mem} {g : Nat → Int32} : MT (upM μ 89 g) k = MT μ k := rfl
theorem m_keep_34 {K N : Nat} {μ : Mem} (hK : K < 5) (h : μ 89 11 = nI K) (hN : N ≤ 40) (h0 : μ 94 0 = nI N) : ∃ μ', fX9_keep_34 FF μ = some μ' ∧ Ag [94, 95, 96, 97, 98, 99] [11] μ μ' ∧ μ' 89 11 = nI (K + 1) ∧ (MT μ' (K + 1)).1 = nI N ∧ Eq5 N (MT μ' (K + 1)) (MT μ 0) ∧ ∀ k, k ≠ K + 1 → MS k μ μ' := by
  obtain ⟨m, f1, f2, f3, f4, f5⟩ := m_copyAll (a := 0) (b := K + 1) (N := N) (μ := upM μ 89 (upd (μ 89) 11 (nI (K + 1)))) (by omega) (by omega) (by omega) hN h0
  refine ⟨m, ?_, (Ag.fl (by decide)).tr (f2.mono (fun _ h => h) (fun _ h => by cases h)), ?_, f3, f4, f5⟩
  · unfold fX9_keep_34
    rw [st_n, h, nI_add1, show (upM μ 89 (upd (μ 89) 11 (nI (K + 1))) 89 11) = nI (K + 1) from rfl]
    exact (congrArg (fun o => cav o (fun m2 => some m2)) f1).trans rfl
  · rw [f2.fi 11]
    rfl
theorem m_keep {K N : Nat} {μ : Mem} (hK : K ≤ 5) (h : μ 89 11 = nI K) (hN : N ≤ 40) (h0 : μ 94 0 = nI N) (hs : ∀ i, 1 ≤ i → i ≤ K → ∃ n, n ≤ 40 ∧ μ 94 i = nI n) : ∃ μ', fX9_keep FF μ = some μ' ∧ Ag [94, 95, 96, 97, 98, 99] [11] μ μ' ∧ MS 0 μ μ' ∧ KM K N μ μ' := by
  by_cases h5 : K = 5
  · subst h5
    obtain ⟨n2, l2, s2⟩ := hs 2 (by omega) (by omega)
    obtain ⟨n3, l3, s3⟩ := hs 3 (by omega) (by omega)
    obtain ⟨n4, l4, s4⟩ := hs 4 (by omega) (by omega)
    obtain ⟨n5, l5, s5⟩ := hs 5 (by omega) (by omega)
    obtain ⟨m1, a1, a2, a3, a4, a5⟩ := m_copyAll (a := 2) (b := 1) (μ := μ) (by omega) (by omega) (by omega) l2 s2
    obtain ⟨m2, b1, b2, b3, b4, b5⟩ := m_copyAll (a := 3) (b := 2) (μ := m1) (by omega) (by omega) (by omega) l3 ((a5 3 (by omega)).1.trans s3)
    obtain ⟨m3, c1, c2, c3, c4, c5⟩ := m_copyAll (a := 4) (b := 3) (μ := m2) (by omega) (by omega) (by omega) l4 (((b5 4 (by omega)).1.trans (a5 4 (by omega)).1).trans s4)
    obtain ⟨m4, d1, d2, d3, d4, d5⟩ := m_copyAll (a := 5) (b := 4) (μ := m3) (by omega) (by omega) (by omega) l5 ((((c5 5 (by omega)).1.trans (b5 5 (by omega)).1).trans (a5 5 (by omega)).1).trans s5)
    have t0 : ∀ k, k ≠ 1 → k ≠ 2 → k ≠ 3 → k ≠ 4 → MS k μ m4 := fun k h1 h2 h3 h4 => (((a5 k h1).tr (b5 k h2)).tr (c5 k h3)).tr (d5 k h4)
    obtain ⟨m5, e1, e2, e3, e4, e5, e6⟩ := m_keep_34 (K := 4) (N := N) (μ := upM m4 89 (upd (m4 89) 11 4)) (by omega) rfl hN ((t0 0 (by omega) (by omega) (by omega) (by omega)).1.trans h0)
    have g : Ag [94, 95, 96, 97, 98, 99] [] μ m4 := ((a2.tr b2).tr c2).tr d2
    have e6' : ∀ k, k ≠ 5 → MS k m4 m5 := fun k hk => e6 k hk
    have hi : ∀ n i, 1 ≤ i → i < 5 → n ≤ 40 → (MT μ (i + 1)).1 = nI n → (MT m5 i).1 = nI n ∧ Eq5 n (MT m5 i) (MT μ (i + 1)) := by
      intro n i i1 i5 hn hz
      have q : i = 1 ∨ i = 2 ∨ i = 3 ∨ i = 4 := by omega
      rcases q with rfl | rfl | rfl | rfl
      · have ez : n = n2 := nI_inj (by omega) (by omega) (hz.symm.trans s2)
        subst ez
        have w : MS 1 m1 m5 := (((b5 1 (by omega)).tr (c5 1 (by omega))).tr (d5 1 (by omega))).tr (e6' 1 (by omega))
        exact ⟨w.1.trans a3, (w.2.less hn).tr a4⟩
      · have ez : n = n3 := nI_inj (by omega) (by omega) (hz.symm.trans s3)
        subst ez
        have w : MS 2 m2 m5 := ((c5 2 (by omega)).tr (d5 2 (by omega))).tr (e6' 2 (by omega))
        exact ⟨w.1.trans b3, ((w.2.less hn).tr b4).tr ((a5 3 (by omega)).2.less hn)⟩
      · have ez : n = n4 := nI_inj (by omega) (by omega) (hz.symm.trans s4)
        subst ez
        have w : MS 3 m3 m5 := (d5 3 (by omega)).tr (e6' 3 (by omega))
        exact ⟨w.1.trans c3, ((w.2.less hn).tr c4).tr ((((a5 4 (by omega)).tr (b5 4 (by omega))).2).less hn)⟩
      · have ez : n = n5 := nI_inj (by omega) (by omega) (hz.symm.trans s5)
        subst ez
        have w : MS 4 m4 m5 := e6' 4 (by omega)
        exact ⟨w.1.trans d3, ((w.2.less hn).tr d4).tr (((((a5 5 (by omega)).tr (b5 5 (by omega))).tr (c5 5 (by omega))).2).less hn)⟩
    refine ⟨m5, ?_, (g.mono (fun _ h => h) (fun _ h => by cases h)).tr ((Ag.fl (by decide)).tr e2), (t0 0 (by omega) (by omega) (by omega) (by omega)).tr (e6' 0 (by omega)), e3, e4, ?_, fun i i1 i5 n hn hz => hi n i i1 i5 hn hz⟩
    · have loop : ∀ q, (∃ n, q = n + 1 + 1 + 1 + 1 + 1) → fX9_keep_10 FF q (nI 1) μ = fX9_keep_34 FF (upM m4 89 (upd (m4 89) 11 4)) := by
        rintro q ⟨n, rfl⟩
        show fX9_keep_10_b FF (fX9_keep_10 FF (n + 1 + 1 + 1 + 1)) (nI 1) μ = _
        unfold fX9_keep_10_b
        rw [if_neg (show ¬ (5 : Int32) ≤ nI 1 by decide), nI_add1, a1, cav_n]
        show fX9_keep_10_b FF (fX9_keep_10 FF (n + 1 + 1 + 1)) (nI 2) m1 = _
        unfold fX9_keep_10_b
        rw [if_neg (show ¬ (5 : Int32) ≤ nI 2 by decide), nI_add1, b1, cav_n]
        show fX9_keep_10_b FF (fX9_keep_10 FF (n + 1 + 1)) (nI 3) m2 = _
        unfold fX9_keep_10_b
        rw [if_neg (show ¬ (5 : Int32) ≤ nI 3 by decide), nI_add1, c1, cav_n]
        show fX9_keep_10_b FF (fX9_keep_10 FF (n + 1)) (nI 4) m3 = _
        unfold fX9_keep_10_b
        rw [if_neg (show ¬ (5 : Int32) ≤ nI 4 by decide), nI_add1, d1, cav_n]
        show fX9_keep_10_b FF (fX9_keep_10 FF n) (nI 5) m4 = _
        unfold fX9_keep_10_b
        rw [if_pos (show (5 : Int32) ≤ nI 5 by decide), st_n]
      unfold fX9_keep
      rw [if_pos (by rw [h]; rfl), show (1 : Int32) = nI 1 from rfl, loop FF ⟨FF - 5, by have := FF_e; omega⟩]
      exact e1
    · exact e5.tr ((t0 0 (by omega) (by omega) (by omega) (by omega)).2.less hN)
  · obtain ⟨m, f1, f2, f3, f4, f5, f6⟩ := m_keep_34 (K := K) (N := N) (by omega) h hN h0
    have em : min (K + 1) 5 = K + 1 := by omega
    refine ⟨m, ?_, f2, f6 0 (by omega), by rw [em]; exact f3, by rw [em]; exact f4, by rw [em]; exact f5, fun i i1 i2 n hn hz => ?_⟩
    · unfold fX9_keep
      rw [h, if_neg]
      · exact f1
      · intro q
        exact h5 (nI_inj (by omega) (by omega) q)
    · unfold srcK at hz ⊢
      rw [if_neg h5] at hz ⊢
      exact ⟨(f6 i (by omega)).1.trans hz, (f6 i (by omega)).2.less hn⟩
/-- what is kept stays alike -/
theorem HI.kept {nx K N : Nat} {μ μ' : Mem} (hnx : nx < 5) (hK : K ≤ 5) (hj : ∀ j, j < K → Rel wq (CS μ ((nx + 4 - j) % 5)) (MT μ (K - j))) (hL : RelN wq N (CL μ) (MT μ 0)) (hc : KC nx K N μ μ') (hm : KM K N μ μ') : HI wq μ' := by
  obtain ⟨c1, c2, c3, c4, c5⟩ := hc
  obtain ⟨m1, m2, m3, m4⟩ := hm
  refine ⟨(nx + 1) % 5, min (K + 1) 5, Nat.mod_lt _ (by omega), by omega, c1, c2, m1, fun j hj2 => ?_⟩
  by_cases h0 : j = 0
  · subst h0
    rw [show ((nx + 1) % 5 + 4 - 0) % 5 = nx by omega, Nat.sub_zero]
    exact ⟨N, hL.congr (c3.trans hL.2.1.symm) (m2.trans hL.2.2.1.symm) c4 m3⟩
  · have e : ((nx + 1) % 5 + 4 - j) % 5 = (nx + 4 - (j - 1)) % 5 := by omega
    rw [e, c5 _ (Nat.mod_lt _ (by omega)) (by omega)]
    obtain ⟨n, hn⟩ := hj (j - 1) (by omega)
    have hs : srcK K (min (K + 1) 5 - j) = K - (j - 1) := by
      unfold srcK
      by_cases h5 : K = 5
      · rw [if_pos h5]; omega
      · rw [if_neg h5]; omega
    obtain ⟨q1, q2⟩ := m4 (min (K + 1) 5 - j) (by omega) (by omega) n hn.1 (by rw [hs]; exact hn.2.2.1)
    rw [hs] at q2
    exact ⟨n, hn.congr rfl (q1.trans hn.2.2.1.symm) (fun _ _ => ⟨rfl, rfl, rfl, rfl, rfl⟩) q2⟩
theorem HI.sizes {nx K : Nat} {μ : Mem} (hj : ∀ j, j < K → Rel wq (CS μ ((nx + 4 - j) % 5)) (MT μ (K - j))) : ∀ i, 1 ≤ i → i ≤ K → ∃ n, n ≤ 40 ∧ μ 94 i = nI n := by
  intro i h1 h2
  obtain ⟨n, hn⟩ := hj (K - i) (by omega)
  rw [show K - (K - i) = i by omega] at hn
  exact ⟨n, hn.1, hn.2.2.1⟩
theorem KC.ag {nx K N : Nat} {μ μ1 μ2 : Mem} (hnx : nx < 5) (h : KC nx K N μ μ1) (e : ∀ k, (k = 16 ∨ (18 ≤ k ∧ k < 53)) → μ2 k = μ1 k) : KC nx K N μ μ2 := by
  have ec : ∀ j, j < 5 → CS μ2 j = CS μ1 j := fun j hj => by
    unfold CS
    rw [e _ (by omega), e _ (by omega), e _ (by omega), e _ (by omega), e _ (by omega), e _ (by omega)]
  obtain ⟨c1, c2, c3, c4, c5⟩ := h
  refine ⟨by rw [e 16 (by omega)]; exact c1, by rw [e 16 (by omega)]; exact c2, by rw [ec nx hnx]; exact c3, by rw [ec nx hnx]; exact c4, fun j hj hn => by rw [ec j hj]; exact c5 j hj hn⟩
theorem KM.ag {K N : Nat} {μ μ1 μ2 : Mem} (hN40 : N ≤ 40) (h : KM K N μ μ1) (e11 : μ2 89 11 = μ1 89 11) (e : ∀ k, 1 ≤ k → k ≤ 5 → MS k μ1 μ2) : KM K N μ μ2 := by
  obtain ⟨m1, m2, m3, m4⟩ := h

  refine ⟨e11.trans m1, (e _ (by omega) (by omega)).1.trans m2, ?_, fun i i1 i2 n hn hz => ?_⟩
  · exact ((e (min (K + 1) 5) (by omega) (by omega)).2.less hN40).tr m3
  · obtain ⟨q1, q2⟩ := m4 i i1 i2 n hn hz
    exact ⟨(e i i1 (by omega)).1.trans q1, ((e i i1 (by omega)).2.less hn).tr q2⟩
end
section
/-! an op that keeps what was, on both sides -/
variable {wq : Prop}
theorem keepOp {μ : Mem} (hI : Inv wq μ) : ∃ N μc, RelN wq N (CL μ) (MT μ 0) ∧ fX2_keep FF μ = some μc ∧ (∀ k, k ≠ 16 → (k < 18 ∨ 53 ≤ k) → μc k = μ k) ∧ ∀ μ1, (∀ k, 89 ≤ k → μ1 k = μ k) → (∀ k, (k = 16 ∨ (18 ≤ k ∧ k < 53)) → μ1 k = μc k) →
    ∃ μm, fX9_keep FF μ1 = some μm ∧ Ag [94, 95, 96, 97, 98, 99] [11] μ1 μm ∧ MS 0 μ1 μm ∧ ∀ μ2, (∀ k, (k = 16 ∨ (18 ≤ k ∧ k < 53)) → μ2 k = μm k) → μ2 89 11 = μm 89 11 → (∀ k, 1 ≤ k → k ≤ 5 → MS k μm μ2) → HI wq μ2 := by
  obtain ⟨-, ⟨N, hL⟩, ⟨nx, K, h1, h2, h3, h4, h5, h6⟩, -⟩ := hI
  obtain ⟨μc, c1, c2, c3⟩ := cl_keep (N := N) h1 h2 h3 h4 hL.2.1 hL.1
  refine ⟨N, μc, hL, c1, c2, fun μ1 e1 e2 => ?_⟩
  have em : ∀ k, MT μ1 k = MT μ k := fun k => by
    unfold MT
    rw [e1 94 (by omega), e1 95 (by omega), e1 96 (by omega), e1 97 (by omega), e1 98 (by omega), e1 99 (by omega)]
  obtain ⟨μm, m1, m2, m3, m4⟩ := m_keep (μ := μ1) (K := K) (N := N) h2 (by rw [e1 89 (by omega)]; exact h5) hL.1 (by rw [e1 94 (by omega)]; exact hL.2.2.1) (by rw [e1 94 (by omega)]; exact HI.sizes h6)
  refine ⟨μm, m1, m2, m3, fun μ2 g1 g2 g3 => ?_⟩
  have km : KM K N μ μm := by
    obtain ⟨k1, k2, k3, k4⟩ := m4
    refine ⟨k1, k2, by rw [← em]; exact k3, fun i i1 i2 n hn hz => ?_⟩
    rw [← em] at hz ⊢
    exact k4 i i1 i2 n hn hz
  refine HI.kept h1 h2 h6 hL (KC.ag h1 c3 (fun k hk => ?_)) (KM.ag hL.1 km g2 g3)
  have hk2 : k ≠ 89 ∧ k ∉ [94, 95, 96, 97, 98, 99] := by
    refine ⟨by omega, ?_⟩
    simp only [List.mem_cons, List.not_mem_nil, or_false, not_or]
    omega
  rw [g1 k hk, m2.1 k hk2.1 hk2.2, e2 k hk]
/-! loaves that come -/
def apnd (N i : Nat) (a f : Nat → Int32) : Nat → Int32 := fun x => if N ≤ x ∧ x < N + i then a (x - N) else f x
theorem apnd_0 {N : Nat} {a f : Nat → Int32} : apnd N 0 a f = f := funext fun x => if_neg (by omega)
theorem apnd_s {N i : Nat} {a f : Nat → Int32} : upd (apnd N i a f) (N + i) (a i) = apnd N (i + 1) a f := by
  funext x
  unfold upd apnd
  by_cases h1 : x = N + i
  · rw [if_pos h1, if_pos (by omega), h1, show N + i - N = i by omega]
  · rw [if_neg h1]
    by_cases h2 : N ≤ x ∧ x < N + i
    · rw [if_pos h2, if_pos (by omega)]
    · rw [if_neg h2, if_neg (by omega)]
theorem apnd_lo {N i x : Nat} {a f : Nat → Int32} (h : x < N) : apnd N i a f x = f x := if_neg (by omega)
theorem apnd_hi {N i x : Nat} {a f : Nat → Int32} (h : x < i) : apnd N i a f (N + x) = a x := by
  unfold apnd
  rw [if_pos (by omega), show N + x - N = x by omega]
theorem apnd_out {N i x : Nat} {a f : Nat → Int32} (h : N + i ≤ x) : apnd N i a f x = f x := if_neg (by omega)
def zz : Nat → Int32 := fun _ => 0
def oo (N : Nat) : Nat → Int32 := fun j => nI (N + j)
def cAdd (N i : Nat) (a b : Nat → Int32) (μ : Mem) : Mem := upM (upM (upM (upM (upM (upM μ 10 (apnd N i a (μ 10))) 11 (apnd N i b (μ 11))) 12 (apnd N i zz (μ 12))) 13 (apnd N i zz (μ 13))) 14 (apnd N i (oo N) (μ 14))) 9 (upd (μ 9) 6 (nI (N + i)))
theorem cAdd_o {N i k : Nat} {a b : Nat → Int32} {μ : Mem} (h : k < 9 ∨ 15 ≤ k) : cAdd N i a b μ k = μ k := by
  unfold cAdd
  rw [upM_ne (by omega), upM_ne (by omega), upM_ne (by omega), upM_ne (by omega), upM_ne (by omega), upM_ne (by omega)]
theorem upd_upd {f : Nat → Int32} {k : Nat} {x y : Int32} : upd (upd f k x) k y = upd f k y := by
  funext j
  unfold upd
  by_cases h : j = k
  · rw [if_pos h, if_pos h]
  · rw [if_neg h, if_neg h, if_neg h]
theorem upd_id {f : Nat → Int32} {k : Nat} {x : Int32} (h : f k = x) : upd f k x = f := by
  funext j
  unfold upd
  by_cases e : j = k
  · rw [if_pos e, e, h]
  · rw [if_neg e]
theorem cAdd_0 {N : Nat} {a b : Nat → Int32} {μ : Mem} (h : μ 9 6 = nI N) : cAdd N 0 a b μ = μ := by
  apply upM_ext
  intro k
  by_cases hk : 9 ≤ k ∧ k < 15
  · have h6 : k = 9 ∨ k = 10 ∨ k = 11 ∨ k = 12 ∨ k = 13 ∨ k = 14 := by omega
    rcases h6 with rfl | rfl | rfl | rfl | rfl | rfl
    · exact upd_id h
    · exact apnd_0
    · exact apnd_0
    · exact apnd_0
    · exact apnd_0
    · exact apnd_0 (a := oo N)
  · exact cAdd_o (by omega)
theorem c_add {F N i : Nat} {a b : Nat → Int32} {μ : Mem} (hN : N + i < 40) : fX3_add F (a i) (b i) (cAdd N i a b μ) = some (cAdd N (i + 1) a b μ) := by
  unfold fX3_add
  rw [show cAdd N i a b μ 9 6 = nI (N + i) from rfl, wr_n (by show N + i < 40; omega)]
  rw [show ∀ g, upM (cAdd N i a b μ) 10 g 9 6 = nI (N + i) from fun _ => rfl, wr_n (by show N + i < 40; omega)]
  rw [show ∀ g h, upM (upM (cAdd N i a b μ) 10 g) 11 h 9 6 = nI (N + i) from fun _ _ => rfl, wr_n (by show N + i < 40; omega)]
  rw [show ∀ g h j, upM (upM (upM (cAdd N i a b μ) 10 g) 11 h) 12 j 9 6 = nI (N + i) from fun _ _ _ => rfl, wr_n (by show N + i < 40; omega)]
  rw [show ∀ g h j l, upM (upM (upM (upM (cAdd N i a b μ) 10 g) 11 h) 12 j) 13 l 9 6 = nI (N + i) from fun _ _ _ _ => rfl, wr_n (by show N + i < 40; omega)]
  rw [show ∀ g h j l o, upM (upM (upM (upM (upM (cAdd N i a b μ) 10 g) 11 h) 12 j) 13 l) 14 o 9 6 = nI (N + i) from fun _ _ _ _ _ => rfl, st_n, nI_add1]
  congr 1
  apply upM_ext
  intro k
  by_cases hk : 9 ≤ k ∧ k < 15
  · have h6 : k = 9 ∨ k = 10 ∨ k = 11 ∨ k = 12 ∨ k = 13 ∨ k = 14 := by omega
    rcases h6 with rfl | rfl | rfl | rfl | rfl | rfl
    · exact upd_upd
    · exact apnd_s
    · exact apnd_s
    · exact apnd_s
    · exact apnd_s
    · exact apnd_s (a := oo N)
  · rw [upM_ne (by omega), upM_ne (by omega), upM_ne (by omega), upM_ne (by omega), upM_ne (by omega), upM_ne (by omega), cAdd_o (by omega), cAdd_o (by omega)]
def mAdd (N i : Nat) (a b : Nat → Int32) (μ : Mem) : Mem := upM (upM (upM (upM (upM (upM (upM μ 95 (apnd N i a (μ 95))) 96 (apnd N i b (μ 96))) 97 (apnd N i zz (μ 97))) 98 (apnd N i zz (μ 98))) 99 (apnd N i (oo N) (μ 99))) 94 (upd (μ 94) 0 (nI (N + i)))) 89 (if i = 0 then μ 89 else upd (μ 89) 15 0)
theorem mAdd_o {N i k : Nat} {a b : Nat → Int32} {μ : Mem} (h : k ≠ 89 ∧ (k < 94 ∨ 100 ≤ k)) : mAdd N i a b μ k = μ k := by
  unfold mAdd
  rw [upM_ne (by omega), upM_ne (by omega), upM_ne (by omega), upM_ne (by omega), upM_ne (by omega), upM_ne (by omega), upM_ne (by omega)]
theorem mAdd_0 {N : Nat} {a b : Nat → Int32} {μ : Mem} (h : μ 94 0 = nI N) : mAdd N 0 a b μ = μ := by
  apply upM_ext
  intro k
  by_cases h9 : k = 89
  · subst h9; rfl
  by_cases hk : 94 ≤ k ∧ k < 100
  · have h6 : k = 94 ∨ k = 95 ∨ k = 96 ∨ k = 97 ∨ k = 98 ∨ k = 99 := by omega
    rcases h6 with rfl | rfl | rfl | rfl | rfl | rfl
    · exact upd_id h
    · exact apnd_0
    · exact apnd_0
    · exact apnd_0
    · exact apnd_0
    · exact apnd_0 (a := oo N)
  · exact mAdd_o (by omega)
theorem m_come {F N i : Nat} {a b : Nat → Int32} {μ : Mem} (hN : N + i < 40) : fX9_come F (a i) (b i) (mAdd N i a b μ) = some (mAdd N (i + 1) a b μ) := by
  have hl : N + i < 240 := by omega
  unfold fX9_come
  rw [show (0 : Int32) = nI 0 from rfl, rd_n (by decide), show mAdd N i a b μ 94 0 = nI (N + i) from rfl, wr_n hl, wr_n hl, wr_n hl, wr_n hl, wr_n hl, rd_n (by decide), show ∀ g h j l o, upM (upM (upM (upM (upM (mAdd N i a b μ) 95 g) 96 h) 97 j) 98 l) 99 o 94 0 = nI (N + i) from fun _ _ _ _ _ => rfl, wr_n (by decide), st_n, nI_add1]
  congr 1
  apply upM_ext
  intro k
  by_cases h9 : k = 89
  · subst h9
    show upd (mAdd N i a b μ 89) 15 0 = if i + 1 = 0 then μ 89 else upd (μ 89) 15 0
    rw [if_neg (by omega)]
    show upd (if i = 0 then μ 89 else upd (μ 89) 15 0) 15 0 = _
    by_cases h0 : i = 0
    · rw [if_pos h0]
    · rw [if_neg h0, upd_upd]
  by_cases hk : 94 ≤ k ∧ k < 100
  · have h6 : k = 94 ∨ k = 95 ∨ k = 96 ∨ k = 97 ∨ k = 98 ∨ k = 99 := by omega
    rcases h6 with rfl | rfl | rfl | rfl | rfl | rfl
    · exact upd_upd
    · exact apnd_s
    · exact apnd_s
    · exact apnd_s
    · exact apnd_s
    · exact apnd_s (a := oo N)
  · rw [upM_ne (by omega), upM_ne (by omega), upM_ne (by omega), upM_ne (by omega), upM_ne (by omega), upM_ne (by omega), upM_ne (by omega), mAdd_o (by omega), mAdd_o (by omega)]
theorem PermF.add {f : Nat → Int32} {N n : Nat} (h : PermF f N) : PermF (apnd N n (oo N) f) (N + n) := by
  obtain ⟨σ, τ, h1, h2⟩ := h
  refine ⟨fun i => if i < N then σ i else i, fun i => if i < N then τ i else i, fun i hi => ?_, fun i hi => ?_⟩
  · by_cases h : i < N
    · obtain ⟨a, b, c⟩ := h1 i h
      simp only [if_pos h, if_pos a]
      exact ⟨by omega, by rw [apnd_lo h]; exact b, c⟩
    · simp only [if_neg h]
      refine ⟨hi, ?_, trivial⟩
      have e : i = N + (i - N) := by omega
      rw [e, apnd_hi (by omega)]
      rfl
  · by_cases h : i < N
    · obtain ⟨a, b⟩ := h2 i h
      simp only [if_pos h, if_pos a]
      exact ⟨by omega, b⟩
    · simp only [if_neg h]
      exact ⟨hi, trivial⟩
/-- all is alike behind loaves that came -/
theorem LV.add {N n : Nat} {a b : Nat → Int32} {μ μ' : Mem} (h : RelN wq N (CL μ) (MT μ 0)) (hn : N + n ≤ 40) (ha : ∀ i, i < n → ∃ x, x ≤ 100000 ∧ a i = nI x) (hb : ∀ i, i < n → ∃ x, x ≤ 100000 ∧ b i = nI x) (hc : CL μ' = CL (cAdd N n a b μ)) (hm : (MT μ' 0).1 = nI (N + n)) (he : Eq5 (N + n) (MT μ' 0) (nI (N + n), apnd N n a (MT μ 0).2.1, apnd N n b (MT μ 0).2.2.1, apnd N n zz (MT μ 0).2.2.2.1, apnd N n zz (MT μ 0).2.2.2.2.1, apnd N n (oo N) (MT μ 0).2.2.2.2.2)) : RelN wq (N + n) (CL μ') (MT μ' 0) := by
  have hz := (RelN.okb h).add (n := n)
  obtain ⟨h1, h2, h3, h4, h5, h6⟩ := h
  rw [hc]
  have hi : ∀ i, i < N + n → i < N ∨ ∃ j, j < n ∧ i = N + j := fun i hi => by
    by_cases h : i < N
    · exact Or.inl h
    · exact Or.inr ⟨i - N, by omega, by omega⟩
  refine ⟨hn, rfl, hm, EqW.congr ?_ (fun _ _ => ⟨rfl, rfl, rfl, rfl, rfl⟩) he, fun i hi2 => ?_, h6.add⟩
  · intro i hi2
    rcases hi i hi2 with h | ⟨j, hj, rfl⟩
    · obtain ⟨q1, q2, q3, q4, q5, -⟩ := h4 i h
      refine ⟨?_, ?_, ?_, ?_, fun hq => ?_, hz⟩
      · show apnd N n a (μ 10) i = apnd N n a _ i; rw [apnd_lo h, apnd_lo h]; exact q1
      · show apnd N n b (μ 11) i = apnd N n b _ i; rw [apnd_lo h, apnd_lo h]; exact q2
      · show apnd N n zz (μ 12) i = apnd N n zz _ i; rw [apnd_lo h, apnd_lo h]; exact q3
      · show apnd N n zz (μ 13) i = apnd N n zz _ i; rw [apnd_lo h, apnd_lo h]; exact q4
      · show apnd N n (oo N) (μ 14) i = apnd N n (oo N) _ i; rw [apnd_lo h, apnd_lo h]; exact q5 hq
    · refine ⟨?_, ?_, ?_, ?_, fun _ => ?_, hz⟩
      · show apnd N n a (μ 10) (N + j) = apnd N n a _ (N + j); rw [apnd_hi hj, apnd_hi hj]
      · show apnd N n b (μ 11) (N + j) = apnd N n b _ (N + j); rw [apnd_hi hj, apnd_hi hj]
      · show apnd N n zz (μ 12) (N + j) = apnd N n zz _ (N + j); rw [apnd_hi hj, apnd_hi hj]
      · show apnd N n zz (μ 13) (N + j) = apnd N n zz _ (N + j); rw [apnd_hi hj, apnd_hi hj]
      · show apnd N n (oo N) (μ 14) (N + j) = apnd N n (oo N) _ (N + j); rw [apnd_hi hj, apnd_hi hj]
  · rcases hi i hi2 with h | ⟨j, hj, rfl⟩
    · obtain ⟨q1, q2, q3, q4⟩ := h5 i h
      refine ⟨?_, ?_, ?_, ?_⟩
      · show ∃ x, x ≤ 100000 ∧ apnd N n a (μ 10) i = nI x; rw [apnd_lo h]; exact q1
      · show ∃ x, x ≤ 100000 ∧ apnd N n b (μ 11) i = nI x; rw [apnd_lo h]; exact q2
      · show ∃ x, x ≤ 399 ∧ apnd N n zz (μ 12) i = nI x; rw [apnd_lo h]; exact q3
      · show ∃ x, x ≤ 399 ∧ apnd N n zz (μ 13) i = nI x; rw [apnd_lo h]; exact q4
    · refine ⟨?_, ?_, ?_, ?_⟩
      · show ∃ x, x ≤ 100000 ∧ apnd N n a (μ 10) (N + j) = nI x; rw [apnd_hi hj]; exact ha j hj
      · show ∃ x, x ≤ 100000 ∧ apnd N n b (μ 11) (N + j) = nI x; rw [apnd_hi hj]; exact hb j hj
      · show ∃ x, x ≤ 399 ∧ apnd N n zz (μ 12) (N + j) = nI x; rw [apnd_hi hj]; exact ⟨0, by omega, rfl⟩
      · show ∃ x, x ≤ 399 ∧ apnd N n zz (μ 13) (N + j) = nI x; rw [apnd_hi hj]; exact ⟨0, by omega, rfl⟩
end
section
variable {wq : Prop}
def LL : List Nat := List.range' 9 45 ++ List.range' 94 6
theorem ag_of {μ μ' : Mem} {js : List Nat} (e : ∀ k, (k < 9 ∨ 54 ≤ k) → (k < 94 ∨ 100 ≤ k) → k ≠ 89 → μ' k = μ k) (ej : ∀ j, j ∉ js → μ' 89 j = μ 89 j) : Ag LL js μ μ' := by
  refine ⟨fun k h9 hk => ?_, ej⟩
  simp only [LL, List.mem_append, List.mem_range'_1, not_or, not_and] at hk
  exact e k (by omega) (by omega) h9
theorem BT.stale {μ μ' : Mem} (h : BT μ) (e54 : μ' 54 = μ 54) (e100 : μ' 100 = μ 100) (e1 : μ' 53 1 = μ 53 1) (e2 : μ' 53 2 = 0) (e12 : μ' 89 12 = μ 89 12) (e14 : μ' 89 14 = μ 89 14) (e15 : μ' 89 15 = 0) : BT μ' := by
  obtain ⟨B, b1, b2, b3, b4, b5, b6, b7, b8, b9⟩ := h
  refine ⟨B, b1, e1.trans b2, e12.trans b3, by rw [e54, e100]; exact b4, by rw [e14]; exact b5, Or.inl e15, by rw [e14]; exact b7, ?_, fun q => ?_⟩
  · rw [e2, e15]
    by_cases h : μ' 89 14 = 0
    · rw [if_pos h]
    · rw [if_neg h]
  · rw [e2] at q
    exact absurd q (by decide)
theorem BT.same {μ μ' : Mem} (h : BT μ) (e54 : μ' 54 = μ 54) (e100 : μ' 100 = μ 100) (e53 : μ' 53 = μ 53) (e12 : μ' 89 12 = μ 89 12) (e14 : μ' 89 14 = μ 89 14) (e15 : μ' 89 15 = μ 89 15) (e9 : μ' 9 6 = μ 9 6) : BT μ' := by
  unfold BT
  rw [e54, e100, e53, e12, e14, e15, e9]
  exact h
theorem MS_mAdd {N n k : Nat} {a b : Nat → Int32} {μ : Mem} (hN : N + n ≤ 40) (hk : 1 ≤ k) : MS k μ (mAdd N n a b μ) := by
  refine ⟨?_, fun i hi => ?_⟩
  · show upd (μ 94) 0 _ k = μ 94 k
    rw [upd_ne (by omega)]
  · refine ⟨?_, ?_, ?_, ?_, ?_⟩
    · show apnd N n a (μ 95) (40 * k + i) = μ 95 (40 * k + i); exact apnd_out (by omega)
    · show apnd N n b (μ 96) (40 * k + i) = μ 96 (40 * k + i); exact apnd_out (by omega)
    · show apnd N n zz (μ 97) (40 * k + i) = μ 97 (40 * k + i); exact apnd_out (by omega)
    · show apnd N n zz (μ 98) (40 * k + i) = μ 98 (40 * k + i); exact apnd_out (by omega)
    · show apnd N n (oo N) (μ 99) (40 * k + i) = μ 99 (40 * k + i); exact apnd_out (by omega)
theorem Eq5.of_MS0 {N n : Nat} {a b : Nat → Int32} {μ μm : Mem} (h : MS 0 μ μm) (hn : N + n ≤ 40) : Eq5 (N + n) (MT (mAdd N n a b μm) 0) (nI (N + n), apnd N n a (MT μ 0).2.1, apnd N n b (MT μ 0).2.2.1, apnd N n zz (MT μ 0).2.2.2.1, apnd N n zz (MT μ 0).2.2.2.2.1, apnd N n (oo N) (MT μ 0).2.2.2.2.2) := by
  have key : ∀ (f : Nat → Int32) (g g' : Nat → Int32) (i : Nat), i < 40 → (∀ x, x < 40 → g (40 * 0 + x) = g' x) → apnd N n f g (40 * 0 + i) = apnd N n f g' i := by
    intro f g g' i hi hg
    unfold apnd
    rw [show 40 * 0 + i = i by omega]
    by_cases h : N ≤ i ∧ i < N + n
    · rw [if_pos h, if_pos h]
    · rw [if_neg h, if_neg h]
      have := hg i hi
      rw [show 40 * 0 + i = i by omega] at this
      exact this
  intro i hi
  refine ⟨?_, ?_, ?_, ?_, ?_⟩
  · exact key a (μm 95) _ i (by omega) (fun x hx => (h.2 x hx).1)
  · exact key b (μm 96) _ i (by omega) (fun x hx => (h.2 x hx).2.1)
  · exact key zz (μm 97) _ i (by omega) (fun x hx => (h.2 x hx).2.2.1)
  · exact key zz (μm 98) _ i (by omega) (fun x hx => (h.2 x hx).2.2.2.1)
  · exact key (oo N) (μm 99) _ i (by omega) (fun x hx => (h.2 x hx).2.2.2.2)
/-- behind n loaves that came on both sides -/
theorem Inv.add {N n : Nat} {a b : Nat → Int32} {μ μc μ1 μm μ2 : Mem} (hI : Inv wq μ) (hL : RelN wq N (CL μ) (MT μ 0)) (hn : N + n ≤ 40) (h1 : 1 ≤ n) (ha : ∀ i, i < n → ∃ x, x ≤ 100000 ∧ a i = nI x) (hb : ∀ i, i < n → ∃ x, x ≤ 100000 ∧ b i = nI x)
    (hc : ∀ k, k ≠ 16 → (k < 18 ∨ 53 ≤ k) → μc k = μ k) (e1 : μ1 = upM (cAdd N n a b μc) 53 (upd (μ 53) 2 0)) (hg : Ag [94, 95, 96, 97, 98, 99] [11] μ1 μm) (hms : MS 0 μ1 μm) (hH : ∀ μ2, (∀ k, (k = 16 ∨ (18 ≤ k ∧ k < 53)) → μ2 k = μm k) → μ2 89 11 = μm 89 11 → (∀ k, 1 ≤ k → k ≤ 5 → MS k μm μ2) → HI wq μ2) (e2 : μ2 = mAdd N n a b μm) : Inv wq μ2 := by
  have k1 : ∀ k, 89 ≤ k → μ1 k = μ k := fun k hk => by rw [e1, upM_ne (by omega), cAdd_o (by omega), hc k (by omega) (by omega)]
  have f89 : ∀ j, j ≠ 11 → j ≠ 15 → μ2 89 j = μ 89 j := fun j h11 h15 => by
    rw [e2]
    show (if n = 0 then μm 89 else upd (μm 89) 15 0) j = _
    rw [if_neg (by omega), upd_ne h15, hg.2 j (by simpa using h11), k1 89 (by omega)]
  have far : ∀ k, k ≠ 89 → (k < 94 ∨ 100 ≤ k) → μ2 k = μ1 k := fun k h9 hk => by
    rw [e2, mAdd_o ⟨h9, hk⟩]
    refine hg.1 k h9 ?_
    simp only [List.mem_cons, List.not_mem_nil, or_false, not_or]
    omega
  have g : Ag LL [11, 15] μ μ2 := by
    refine ag_of (fun k h1 h2 h9 => ?_) (fun j hj => ?_)
    · rw [far k h9 h2, e1, upM_ne (by omega), cAdd_o (by omega), hc k (by omega) (by omega)]
    · simp only [List.mem_cons, List.not_mem_nil, or_false, not_or] at hj
      exact f89 j hj.1 hj.2
  obtain ⟨i1, i2, i3, i4, i5, i6⟩ := hI
  have hcl : CL μ2 = CL (cAdd N n a b μ) := by
    have e : ∀ k, 9 ≤ k → k < 15 → μ2 k = cAdd N n a b μ k := fun k q1 q2 => by
      rw [far k (by omega) (by omega), e1, upM_ne (by omega)]
      have h6 : k = 9 ∨ k = 10 ∨ k = 11 ∨ k = 12 ∨ k = 13 ∨ k = 14 := by omega
      have ec : ∀ j, 9 ≤ j → j < 15 → μc j = μ j := fun j q3 q4 => hc j (by omega) (by omega)
      rcases h6 with rfl | rfl | rfl | rfl | rfl | rfl
      · show upd (μc 9) 6 _ = upd (μ 9) 6 _; rw [ec 9 (by omega) (by omega)]
      · show apnd N n a (μc 10) = apnd N n a (μ 10); rw [ec 10 (by omega) (by omega)]
      · show apnd N n b (μc 11) = apnd N n b (μ 11); rw [ec 11 (by omega) (by omega)]
      · show apnd N n zz (μc 12) = apnd N n zz (μ 12); rw [ec 12 (by omega) (by omega)]
      · show apnd N n zz (μc 13) = apnd N n zz (μ 13); rw [ec 13 (by omega) (by omega)]
      · show apnd N n (oo N) (μc 14) = apnd N n (oo N) (μ 14); rw [ec 14 (by omega) (by omega)]
    unfold CL
    rw [e 9 (by omega) (by omega), e 10 (by omega) (by omega), e 11 (by omega) (by omega), e 12 (by omega) (by omega), e 13 (by omega) (by omega), e 14 (by omega) (by omega)]
  have hm0 : MS 0 μ μm := by
    have : MS 0 μ μ1 := MS.of (by
      unfold MT
      rw [k1 94 (by omega), k1 95 (by omega), k1 96 (by omega), k1 97 (by omega), k1 98 (by omega), k1 99 (by omega)])
    exact this.tr hms
  refine ⟨i1.ag g, ⟨N + n, LV.add hL hn ha hb hcl (by rw [e2]; rfl) (by rw [e2]; exact Eq5.of_MS0 hm0 hn)⟩, hH μ2 (fun k hk => ?_) ?_ (fun k q1 q2 => by rw [e2]; exact MS_mAdd hn q1), ?_, i5.ag g, i6.ag g⟩
  · rw [e2, mAdd_o (by omega)]
  · rw [e2]
    show (if n = 0 then μm 89 else upd (μm 89) 15 0) 11 = _
    rw [if_neg (by omega), upd_ne (by decide)]
  · have e53 : μ2 53 = upd (μ 53) 2 0 := by rw [far 53 (by omega) (by omega), e1, upM_self]
    refine i4.stale (g.at 54) (g.at 100) (by rw [e53, upd_ne (by decide)]) (by rw [e53, upd_s]) (f89 12 (by decide) (by decide)) (f89 14 (by decide) (by decide)) ?_
    rw [e2]
    show (if n = 0 then μm 89 else upd (μm 89) 15 0) 15 = _
    rw [if_neg (by omega), upd_s]
theorem op_loaf (a b : Int32) : Op wq (fX8_loaf FF a b) (fX9_loaf FF a b) := by
  intro μ hI
  unfold fX8_loaf fX9_loaf
  rcases small a 100000 (by decide) with h | ⟨x, hx, rfl⟩
  · exact ⟨_, _, _, by rw [c_sp_no h, cal_n, if_pos rfl], by rw [m_sp_no h, cal_n, if_pos rfl], hI⟩
  rcases small b 100000 (by decide) with h | ⟨y, hy, rfl⟩
  · exact ⟨_, _, _, by rw [c_sp_yes hx, cal_n, if_neg one_ne, c_sp_no h, cal_n, if_pos rfl], by rw [m_sp_yes hx, cal_n, if_neg one_ne, m_sp_no h, cal_n, if_pos rfl], hI⟩
  obtain ⟨N, μc, hL, c1, c2, c3⟩ := keepOp hI
  have h9 : μ 9 6 = nI N := hL.2.1
  have h94 : μ 94 0 = nI N := hL.2.2.1
  have hN := hL.1
  simp only [c_sp_yes hx, m_sp_yes hx, c_sp_yes hy, m_sp_yes hy, cal_n, if_neg one_ne]
  rw [h9, show (40 : Int32) = nI 40 from rfl, iflt (by omega) (by omega)]
  by_cases h40 : N < 40
  · rw [if_pos h40, c1, cav_n]
    have ea : fX3_add FF (nI x) (nI y) μc = some (cAdd N 1 (fun _ => nI x) (fun _ => nI y) μc) := by
      have e := c_add (F := FF) (N := N) (i := 0) (a := fun _ => nI x) (b := fun _ => nI y) (μ := μc) (by omega)
      rw [cAdd_0 (by rw [c2 9 (by omega) (by omega)]; exact h9)] at e
      exact e
    have e53 : cAdd N 1 (fun _ => nI x) (fun _ => nI y) μc 53 = μ 53 := by rw [cAdd_o (by omega), c2 53 (by omega) (by omega)]
    rw [ea, cav_n, st_n, e53]
    obtain ⟨μm, m1, m2, m3, m4⟩ := c3 (upM (cAdd N 1 (fun _ => nI x) (fun _ => nI y) μc) 53 (upd (μ 53) 2 0)) (fun k hk => by rw [upM_ne (by omega), cAdd_o (by omega), c2 k (by omega) (by omega)]) (fun k hk => by rw [upM_ne (by omega), cAdd_o (by omega)])
    refine ⟨nI N, upM (cAdd N 1 (fun _ => nI x) (fun _ => nI y) μc) 53 (upd (μ 53) 2 0), mAdd N 1 (fun _ => nI x) (fun _ => nI y) μm, ?_, ?_, Inv.add hI hL (by omega) (by omega) (fun _ _ => ⟨x, hx, rfl⟩) (fun _ _ => ⟨y, hy, rfl⟩) c2 rfl m2 m3 m4 rfl⟩
    · rw [show upM (cAdd N 1 (fun _ => nI x) (fun _ => nI y) μc) 53 (upd (μ 53) 2 0) 9 6 = nI (N + 1) from rfl, show (1 : Int32) = nI 1 from rfl, nI_sub (by omega), show N + 1 - 1 = N by omega]
    · have h94m : μm 94 0 = nI N := by
        have := m3.1
        rw [show (MT μm 0).1 = μm 94 0 from rfl] at this
        rw [this]
        show upM (cAdd N 1 (fun _ => nI x) (fun _ => nI y) μc) 53 (upd (μ 53) 2 0) 94 0 = _
        rw [upM_ne (by omega), cAdd_o (by omega), c2 94 (by omega) (by omega)]
        exact h94
      have ec : fX9_come FF (nI x) (nI y) μm = some (mAdd N 1 (fun _ => nI x) (fun _ => nI y) μm) := by
        have e := m_come (F := FF) (N := N) (i := 0) (a := fun _ => nI x) (b := fun _ => nI y) (μ := μm) (by omega)
        rw [mAdd_0 h94m] at e
        exact e
      rw [show (0 : Int32) = nI 0 from rfl, rd_n (by decide)]
      rw [show upM (cAdd N 1 (fun _ => nI x) (fun _ => nI y) μc) 53 (upd (μ 53) 2 (nI 0)) 94 0 = nI N from by rw [upM_ne (by omega), cAdd_o (by omega), c2 94 (by omega) (by omega)]; exact h94]
      rw [ifeq (by omega) (by omega), if_neg (by omega)]
      rw [show (nI 0) = (0 : Int32) from rfl, m1, cav_n, ec, cav_n, show (0 : Int32) = nI 0 from rfl, rd_n (by decide), show mAdd N 1 (fun _ => nI x) (fun _ => nI y) μm 94 0 = nI (N + 1) from rfl, show (1 : Int32) = nI 1 from rfl, nI_sub (by omega), show N + 1 - 1 = N by omega]
  · rw [if_neg h40]
    refine ⟨_, _, _, rfl, ?_, hI⟩
    rw [show (0 : Int32) = nI 0 from rfl, rd_n (by decide), h94, ifeq (by omega) (by omega), if_pos (by omega)]
end
section
/-! calls that change nothing -/
variable {wq : Prop}
theorem RelN.eqs {N : Nat} {μ : Mem} (h : RelN wq N (CL μ) (MT μ 0)) {i : Nat} (hi : i < N) : μ 10 i = μ 95 i ∧ μ 11 i = μ 96 i ∧ μ 12 i = μ 97 i ∧ μ 13 i = μ 98 i ∧ (wq → μ 14 i = μ 99 i) := by
  have e := h.2.2.2.1 i hi
  have z : 40 * 0 + i = i := by omega
  obtain ⟨a, b, c, d, f, -⟩ := e
  have t : ∀ k, (fun j => μ k (40 * 0 + j)) i = μ k i := fun k => by show μ k (40 * 0 + i) = _; rw [z]
  exact ⟨a.trans (t 95), b.trans (t 96), c.trans (t 97), d.trans (t 98), fun q => (f q).trans (t 99)⟩
theorem RelN.oko {N : Nat} {μ : Mem} (h : RelN wq N (CL μ) (MT μ 0)) : PermF (μ 99) N := h.okb.congr (fun i _ => by show μ 99 i = μ 99 (40 * 0 + i); rw [show 40 * 0 + i = i by omega])
theorem c_lf_yes {F N i : Nat} {μ : Mem} (h : μ 9 6 = nI N) (hN : N ≤ 40) (hi : i < N) : fX3_has F (nI i) μ = some (1, μ) := by
  unfold fX3_has
  rw [if_neg (nI_pos (by omega)), h, if_neg (nI_ge hi (by omega)), zr_1]
theorem c_lf_no {F N : Nat} {x : Int32} {μ : Mem} (h : μ 9 6 = nI N) (hN : N ≤ 40) (hx : x.toInt < 0 ∨ (N : Int) ≤ x.toInt) : fX3_has F x μ = some (0, μ) := by
  unfold fX3_has
  rw [h]
  by_cases h0 : x < 0
  · rw [if_pos h0, zr_0]
  · rw [if_neg h0, if_pos, zr_0]
    rw [Int32.lt_iff_toInt_lt, toInt_0] at h0
    rw [Int32.le_iff_toInt_le, nI_toInt (by omega)]
    omega
theorem m_lf_yes {F N i : Nat} {μ : Mem} (h : μ 94 0 = nI N) (hN : N ≤ 40) (hi : i < N) : fX9_isLoaf F (nI i) μ = some (1, μ) := by
  have e : (nI i).toInt = i := nI_toInt (by omega)
  unfold fX9_isLoaf
  rw [show (0 : Int32) = nI 0 from rfl, rd_n (by decide), h, m_in_z hN, if_pos (by omega), cal_n, zr_1]
theorem m_lf_no {F N : Nat} {x : Int32} {μ : Mem} (h : μ 94 0 = nI N) (hN : N ≤ 40) (hx : x.toInt < 0 ∨ (N : Int) ≤ x.toInt) : fX9_isLoaf F x μ = some (0, μ) := by
  unfold fX9_isLoaf
  rw [show (0 : Int32) = nI 0 from rfl, rd_n (by decide), h, m_in_z hN, if_neg (by omega), cal_n, zr_0]
  rfl
theorem op_at (a : Int32) : OpW wq (fX8_at FF a) (fX9_at FF a) := by
  intro μ hI
  obtain ⟨N, hL⟩ := hI.2.1
  have h9 : μ 9 6 = nI N := hL.2.1
  have h94 : μ 94 0 = nI N := hL.2.2.1
  have hN := hL.1
  unfold fX8_at fX9_at
  rcases ix a N (by omega) with ⟨i, hi, rfl⟩ | h
  · refine ⟨μ 14 i, μ 99 i, μ, μ, ?_, ?_, hI, (hL.eqs hi).2.2.2.2⟩
    · rw [c_lf_yes h9 hN hi, cal_n, if_neg one_ne, rd_n (by show i < 40; omega)]
    · rw [m_lf_yes h94 hN hi, cal_n, if_neg one_ne, rd_n (by show i < 240; omega)]
  · exact ⟨_, _, _, _, by rw [c_lf_no h9 hN h, cal_n, if_pos rfl], by rw [m_lf_no h94 hN h, cal_n, if_pos rfl], hI, fun _ => rfl⟩
theorem op_best (a : Int32) : Op wq (fX8_best FF a) (fX9_best FF a) := by
  intro μ hI
  obtain ⟨B, b1, b2, b3, b4, b5, b6, b7, b8, b9⟩ := hI.2.2.2.1
  unfold fX8_best fX9_best
  rcases ix a B (by omega) with ⟨i, hi, rfl⟩ | h
  · have h14 : ¬ μ 89 14 = 0 := fun q => by have := b7 q; omega
    have e : (nI i).toInt = i := nI_toInt (by omega)
    refine ⟨μ 54 i, μ, μ, ?_, ?_, hI⟩
    · rw [if_neg (nI_pos (by omega)), b2, if_neg (nI_ge hi (by omega)), rd_n (by show i < 40; omega)]
    · rw [if_neg h14, b3, m_in_z b1, if_pos (by omega), cal_n, if_neg one_ne, rd_n (by show i < 40; omega), b4 i hi]
  · refine ⟨-1, μ, μ, ?_, ?_, hI⟩
    · by_cases h0 : a < 0
      · rw [if_pos h0]
      · rw [if_neg h0, b2, if_pos]
        rw [Int32.lt_iff_toInt_lt, toInt_0] at h0
        rw [Int32.le_iff_toInt_le, nI_toInt (by omega)]
        omega
    · by_cases h14 : μ 89 14 = 0
      · rw [if_pos h14]
      · rw [if_neg h14, b3, m_in_z b1, if_neg (by omega), cal_n, if_pos rfl]
theorem op_rings (a : Int32) : Op wq (fX8_rings FF a) (fX9_rings FF a) := by
  intro μ hI
  obtain ⟨r1, r2, r3⟩ := hI.2.2.2.2.1
  unfold fX8_rings fX9_rings
  rcases r1 with h | h
  · exact ⟨_, _, _, by rw [if_pos h], by rw [if_pos (r2.symm.trans h)], hI⟩
  · have h0 : ¬ μ 61 10 = 0 := by rw [h]; decide
    have h0' : ¬ μ 89 33 = 0 := by rw [← r2]; exact h0
    obtain ⟨q1, q2, q3, q4⟩ := r3 h
    simp only [if_neg h0, if_neg h0']
    rcases small a 3 (by decide) with hx | ⟨s, hs, rfl⟩
    · have n0 : ¬ a = 0 := fun q => small_no (n := 3) (by decide) hx (by rw [q]; decide)
      have n1 : ¬ a = 1 := fun q => small_no (n := 3) (by decide) hx (by rw [q]; decide)
      have n2 : ¬ a = 2 := fun q => small_no (n := 3) (by decide) hx (by rw [q]; decide)
      have n3 : ¬ a = 3 := fun q => small_no (n := 3) (by decide) hx (by rw [q]; decide)
      exact ⟨_, _, _, by rw [if_neg n0, if_neg n1, if_neg n2, if_neg n3], by rw [if_neg h0', show (0 : Int64) = Int64.ofNat 0 from rfl, show (3 : Int64) = Int64.ofNat 3 from rfl, m_in_no (by decide) hx, cal_n, if_pos rfl], hI⟩
    · have hm : cal (fX9_in FF (nI s).toInt64 0 3 μ) (fun r2 m1 => if r2 = 0 then some ((-2 : Int32), m1) else rd m1 115 (nI s) fun v3 => some (v3, m1)) = some (μ 115 s, μ) := by
        rw [show (0 : Int64) = Int64.ofNat 0 from rfl, show (3 : Int64) = Int64.ofNat 3 from rfl, m_in_yes (by decide) hs, cal_n, if_neg one_ne, rd_n (by show s < 4; omega)]
      have h4 : s = 0 ∨ s = 1 ∨ s = 2 ∨ s = 3 := by omega
      rcases h4 with rfl | rfl | rfl | rfl
      · exact ⟨_, _, _, if_pos rfl, by rw [if_neg h0', hm, q1], hI⟩
      · exact ⟨_, _, _, (if_neg (show ¬ nI 1 = 0 by decide)).trans (if_pos rfl), by rw [if_neg h0', hm, q2], hI⟩
      · exact ⟨_, _, _, ((if_neg (show ¬ nI 2 = 0 by decide)).trans (if_neg (show ¬ nI 2 = 1 by decide))).trans (if_pos rfl), by rw [if_neg h0', hm, q3], hI⟩
      · exact ⟨_, _, _, (((if_neg (show ¬ nI 3 = 0 by decide)).trans (if_neg (show ¬ nI 3 = 1 by decide))).trans (if_neg (show ¬ nI 3 = 2 by decide))).trans (if_pos rfl), by rw [if_neg h0', hm, q4], hI⟩
theorem m_mix {N : Nat} {μ : Mem} (hN : μ 94 0 = nI N) (hk : N ≤ 40) : fX9_allMix FF μ = some (sumF (μ 95) N, μ) := m_mix_loop hN hk N FF 0 (by omega) (by rw [FF_e]; omega)
theorem m_bake_loop {F N : Nat} {μ : Mem} (hN : μ 94 0 = nI N) (hk : N ≤ 40) : ∀ (d n i : Nat), i + d = N → d < n → fX9_allBake_4 F n (sumF (μ 96) i) (nI i) μ = some (sumF (μ 96) N, μ) := by
  intro d
  induction d with
  | zero =>
    intro n i hi hn
    obtain ⟨n, rfl⟩ : ∃ n', n = n' + 1 := ⟨n - 1, by omega⟩
    show fX9_allBake_4_b F _ _ _ μ = _
    unfold fX9_allBake_4_b
    rw [show (0 : Int32) = nI 0 from rfl, rd_n (by decide), hN, if_pos (nI_le (by omega) (by omega)), show i = N by omega]
  | succ d ih =>
    intro n i hi hn
    obtain ⟨n, rfl⟩ : ∃ n', n = n' + 1 := ⟨n - 1, by omega⟩
    show fX9_allBake_4_b F _ _ _ μ = _
    unfold fX9_allBake_4_b
    rw [show (0 : Int32) = nI 0 from rfl, rd_n (by decide), hN, if_neg (nI_ge (by omega) (by omega)), rd_n (by show i < 240; omega), nI_add1]
    exact ih n (i + 1) (by omega) (by omega)
theorem m_bake {N : Nat} {μ : Mem} (hN : μ 94 0 = nI N) (hk : N ≤ 40) : fX9_allBake FF μ = some (sumF (μ 96) N, μ) := m_bake_loop hN hk N FF 0 (by omega) (by rw [FF_e]; omega)
theorem op_count (a : Int32) : Op wq (fX8_count FF a) (fX9_count FF a) := by
  intro μ hI
  obtain ⟨N, hL⟩ := hI.2.1
  have h9 : μ 9 6 = nI N := hL.2.1
  have h94 : μ 94 0 = nI N := hL.2.2.1
  have hN := hL.1
  unfold fX8_count fX9_count
  by_cases c0 : a = 0
  · exact ⟨_, _, _, by rw [if_pos c0], by rw [if_pos c0, show (0 : Int32) = nI 0 from rfl, rd_n (by decide), h94, h9], hI⟩
  by_cases c1 : a = 1
  · exact ⟨_, _, _, by rw [if_neg c0, if_pos c1, c_sum h9 (by show N ≤ 40; omega), cal_n], by rw [if_neg c0, if_pos c1, m_mix h94 hN, cal_n, sumF_congr (fun i hi => (hL.eqs hi).1)], hI⟩
  by_cases c2 : a = 2
  · exact ⟨_, _, _, by rw [if_neg c0, if_neg c1, if_pos c2, c_sum h9 (by show N ≤ 40; omega), cal_n], by rw [if_neg c0, if_neg c1, if_pos c2, m_bake h94 hN, cal_n, sumF_congr (fun i hi => (hL.eqs hi).2.1)], hI⟩
  by_cases c3 : a = 3
  · obtain ⟨B, b1, b2, b3, b4, b5, b6, b7, b8, b9⟩ := hI.2.2.2.1
    rw [if_neg c0, if_neg c1, if_neg c2, if_pos c3]
    simp only [if_neg c0, if_neg c1, if_neg c2, if_pos c3]
    rw [b8]
    by_cases h14 : μ 89 14 = 0
    · simp only [if_pos h14]
      exact ⟨_, _, _, by rw [if_pos trivial], by rw [if_pos h14], hI⟩
    · simp only [if_neg h14]
      by_cases h15 : μ 89 15 = 0
      · exact ⟨_, _, _, by rw [if_pos h15], by rw [if_neg h14, if_pos h15], hI⟩
      · exact ⟨_, _, _, by rw [if_neg h15], by rw [if_neg h14, if_neg h15], hI⟩
  by_cases c4 : a = 4
  · obtain ⟨nx, K, k1, k2, k3, k4, k5, k6⟩ := hI.2.2.1
    exact ⟨_, _, _, by rw [if_neg c0, if_neg c1, if_neg c2, if_neg c3, if_pos c4], by rw [if_neg c0, if_neg c1, if_neg c2, if_neg c3, if_pos c4, k5, k4], hI⟩
  by_cases c5 : a = 5
  · exact ⟨_, _, _, by rw [if_neg c0, if_neg c1, if_neg c2, if_neg c3, if_neg c4, if_pos c5], by rw [if_neg c0, if_neg c1, if_neg c2, if_neg c3, if_neg c4, if_pos c5, hI.1.1], hI⟩
  exact ⟨_, _, _, by rw [if_neg c0, if_neg c1, if_neg c2, if_neg c3, if_neg c4, if_neg c5], by rw [if_neg c0, if_neg c1, if_neg c2, if_neg c3, if_neg c4, if_neg c5], hI⟩
theorem c_pr {F : Nat} {x : Int32} {μ : Mem} : fX8_isPrice F x μ = some (if -100 ≤ x.toInt ∧ x.toInt ≤ 100 then 1 else 0, μ) := by
  unfold fX8_isPrice
  rw [if_m (q := x.toInt < -100) (by rw [Int32.lt_iff_toInt_lt]; exact Iff.rfl)]
  by_cases h : x.toInt < -100
  · rw [if_pos h, if_neg (by omega), zr_0]
  · rw [if_neg h, if_m (q := 100 < x.toInt) (by rw [Int32.lt_iff_toInt_lt]; exact Iff.rfl)]
    by_cases h2 : 100 < x.toInt
    · rw [if_pos h2, if_neg (by omega), zr_0]
    · rw [if_neg h2, if_pos (by omega), zr_1]
theorem m_pr {F : Nat} {x : Int32} {μ : Mem} : fX9_in F x.toInt64 (-100) 100 μ = some (if -100 ≤ x.toInt ∧ x.toInt ≤ 100 then 1 else 0, μ) := by
  unfold fX9_in
  rw [if_m (q := x.toInt < -100) (by rw [Int64.lt_iff_toInt_lt, Int32.toInt_toInt64]; exact Iff.rfl)]
  by_cases h : x.toInt < -100
  · rw [if_pos h, if_neg (by omega), zr_0]
  · rw [if_neg h, if_m (q := 100 < x.toInt) (by rw [Int64.lt_iff_toInt_lt, Int32.toInt_toInt64]; exact Iff.rfl)]
    by_cases h2 : 100 < x.toInt
    · rw [if_pos h2, if_neg (by omega), zr_0]
    · rw [if_neg h2, if_pos (by omega), zr_1]
theorem op_price (a b c : Int32) : Op wq (fX8_price FF a b c) (fX9_price FF a b c) := by
  intro μ hI
  unfold fX8_price fX9_price
  rw [show (0 : Int64) = Int64.ofNat 0 from rfl, show (7 : Int64) = Int64.ofNat 7 from rfl]
  rcases small a 7 (by decide) with h | ⟨s, hs, rfl⟩
  · exact ⟨_, _, _, t_no (n := 7) (by decide) h, by rw [m_in_no (by decide) h, cal_n, if_pos rfl], hI⟩
  rw [if_neg (nI_pos (by omega)), show (8 : Int32) = nI 8 from rfl, if_neg (nI_ge (by omega) (by omega)), c_pr]
  simp only [m_in_yes (show 7 < 2 ^ 31 by decide) hs, cal_n, if_neg one_ne, m_pr]
  by_cases hb : -100 ≤ b.toInt ∧ b.toInt ≤ 100
  · simp only [if_pos hb, if_neg one_ne, c_pr, cal_n]
    by_cases hc : -100 ≤ c.toInt ∧ c.toInt ≤ 100
    · simp only [if_pos hc, if_neg one_ne]
      have s8 : s < ln 74 := by show s < 8; omega
      refine ⟨1, upM (upM μ 74 (upd (μ 74) s b)) 75 (upd (μ 75) s c), upM (upM (upM (upM μ 74 (upd (μ 74) s b)) 75 (upd (μ 75) s c)) 101 (upd (μ 101) s b)) 102 (upd (μ 102) s c), by rw [wr_n s8, wr_n (by exact s8)]; rfl, by rw [wr_n (by exact s8), wr_n (by exact s8)]; rfl, ?_⟩
      have g : Ag [74, 75, 101, 102] [] μ (upM (upM (upM (upM μ 74 (upd (μ 74) s b)) 75 (upd (μ 75) s c)) 101 (upd (μ 101) s b)) 102 (upd (μ 102) s c)) := (((Ag.up (by decide) (by decide)).tr (Ag.up (by decide) (by decide))).tr (Ag.up (by decide) (by decide))).tr (Ag.up (by decide) (by decide))
      obtain ⟨i1, i2, i3, i4, i5, i6⟩ := hI
      refine ⟨i1.ag g, i2.ag g, i3.ag g, i4.ag g (by rw [g.at 9]), i5.ag g, fun i hi => ?_⟩
      show upd (μ 74) s b i = upd (μ 101) s b i ∧ upd (μ 75) s c i = upd (μ 102) s c i ∧ (-100 ≤ upd (μ 74) s b i ∧ upd (μ 74) s b i ≤ 100) ∧ (-100 ≤ upd (μ 75) s c i ∧ upd (μ 75) s c i ≤ 100) ∧ μ 77 i = 1 ∧ μ 78 i = 0
      obtain ⟨p1, p2, p3, p4, p5, p6⟩ := i6 i hi
      by_cases e : i = s
      · subst e
        rw [upd_s, upd_s, upd_s, upd_s]
        refine ⟨rfl, rfl, ?_, ?_, p5, p6⟩
        · rw [Int32.le_iff_toInt_le, Int32.le_iff_toInt_le]; exact hb
        · rw [Int32.le_iff_toInt_le, Int32.le_iff_toInt_le]; exact hc
      · rw [upd_ne e, upd_ne e, upd_ne e, upd_ne e]
        exact ⟨p1, p2, p3, p4, p5, p6⟩
    · simp only [if_neg hc]
      exact ⟨_, _, _, by rw [if_pos trivial], by rw [if_pos trivial], hI⟩
  · simp only [if_neg hb]
    exact ⟨_, _, _, by rw [if_pos trivial], by rw [if_pos trivial], hI⟩
end
