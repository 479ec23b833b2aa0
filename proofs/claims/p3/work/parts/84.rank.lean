/-! the number of a row among all rows in order -/
def inp (ρ : Nat → Nat) : Nat → Nat → Prop
  | 0, _ => False
  | k + 1, v => ρ k = v ∨ inp ρ k v
noncomputable def nin (ρ : Nat → Nat) (k : Nat) : Nat → Nat
  | 0 => 0
  | m + 1 => nin ρ k m + @ite _ (inp ρ k m) (Classical.propDecidable _) 0 1
theorem nin_y {ρ : Nat → Nat} {k m : Nat} (h : inp ρ k m) : nin ρ k (m + 1) = nin ρ k m := by
  show nin ρ k m + @ite _ (inp ρ k m) (Classical.propDecidable _) 0 1 = _
  rw [if_pos h, Nat.add_zero]
theorem nin_n {ρ : Nat → Nat} {k m : Nat} (h : ¬ inp ρ k m) : nin ρ k (m + 1) = nin ρ k m + 1 := by
  show nin ρ k m + @ite _ (inp ρ k m) (Classical.propDecidable _) 0 1 = _
  rw [if_neg h]
theorem inp_iff {ρ : Nat → Nat} {v : Nat} : ∀ {k : Nat}, inp ρ k v ↔ ∃ j, j < k ∧ ρ j = v
  | 0 => ⟨fun h => h.elim, fun ⟨j, h, _⟩ => by omega⟩
  | k + 1 => by
    constructor
    · intro h
      rcases h with h | h
      · exact ⟨k, by omega, h⟩
      · obtain ⟨j, h1, h2⟩ := inp_iff.mp h
        exact ⟨j, by omega, h2⟩
    · rintro ⟨j, h1, h2⟩
      by_cases c : j = k
      · exact Or.inl (by rw [← c]; exact h2)
      · exact Or.inr (inp_iff.mpr ⟨j, by omega, h2⟩)
theorem nin_0 {ρ : Nat → Nat} : ∀ m, nin ρ 0 m = m
  | 0 => rfl
  | m + 1 => by rw [nin_n (show ¬ inp ρ 0 m from fun h => h), nin_0 m]
theorem nin_s {ρ : Nat → Nat} {k : Nat} (h : ∀ j, j < k → ρ j ≠ ρ k) : ∀ m, nin ρ (k + 1) m + (if ρ k < m then 1 else 0) = nin ρ k m
  | 0 => rfl
  | m + 1 => by
    have ih := nin_s h m
    by_cases c : inp ρ k m
    · have c2 : ρ k ≠ m := fun q => by
        obtain ⟨j, h1, h2⟩ := inp_iff.mp c
        exact h j h1 (h2.trans q.symm)
      rw [nin_y c, nin_y (show inp ρ (k + 1) m from Or.inr c), ← ih]
      by_cases d : ρ k < m
      · rw [if_pos d, if_pos (by omega)]
      · rw [if_neg d, if_neg (by omega)]
    · rw [nin_n c, ← ih]
      by_cases c2 : ρ k = m
      · rw [nin_y (show inp ρ (k + 1) m from Or.inl c2), if_pos (by omega), if_neg (by omega)]
      · rw [nin_n (show ¬ inp ρ (k + 1) m from fun q => q.elim c2 c)]
        by_cases d : ρ k < m
        · rw [if_pos d, if_pos (by omega)]
        · rw [if_neg d, if_neg (by omega)]
theorem nin_mono {ρ : Nat → Nat} {k a : Nat} : ∀ d, nin ρ k a ≤ nin ρ k (a + d)
  | 0 => Nat.le_refl _
  | d + 1 => by
    have ih := nin_mono (ρ := ρ) (k := k) (a := a) d
    rw [← Nat.add_assoc]
    by_cases c : inp ρ k (a + d)
    · rw [nin_y c]; exact ih
    · rw [nin_n c]; omega
theorem nin_lt {ρ : Nat → Nat} {k a b : Nat} (h : ¬ inp ρ k a) (hab : a < b) : nin ρ k a + 1 ≤ nin ρ k b := by
  have := nin_mono (ρ := ρ) (k := k) (a := a + 1) (b - (a + 1))
  rw [show a + 1 + (b - (a + 1)) = b by omega, nin_n h] at this
  exact this
theorem inp_congr {ρ ρ' : Nat → Nat} {k v : Nat} (h : ∀ j, j < k → ρ j = ρ' j) : inp ρ k v ↔ inp ρ' k v := by
  rw [inp_iff, inp_iff]
  constructor
  · rintro ⟨j, h1, h2⟩
    exact ⟨j, h1, (h j h1).symm.trans h2⟩
  · rintro ⟨j, h1, h2⟩
    exact ⟨j, h1, (h j h1).trans h2⟩
theorem nin_congr {ρ ρ' : Nat → Nat} {k : Nat} (h : ∀ j, j < k → ρ j = ρ' j) : ∀ m, nin ρ k m = nin ρ' k m
  | 0 => rfl
  | m + 1 => by
    by_cases c : inp ρ k m
    · rw [nin_y c, nin_y ((inp_congr h).mp c), nin_congr h m]
    · rw [nin_n c, nin_n (fun q => c ((inp_congr h).mpr q)), nin_congr h m]
def Inj (N : Nat) (ρ : Nat → Nat) : Prop := (∀ i, i < N → ρ i < N) ∧ ∀ i j, i < j → j < N → ρ i ≠ ρ j
theorem nin_N {N : Nat} {ρ : Nat → Nat} (h : Inj N ρ) : ∀ k, k ≤ N → nin ρ k N + k = N
  | 0, _ => nin_0 N
  | k + 1, hk => by
    have ih := nin_N h k (by omega)
    have s := nin_s (ρ := ρ) (k := k) (fun j hj => h.2 j k hj (by omega)) N
    rw [if_pos (h.1 k (by omega))] at s
    omega
noncomputable def cod (ρ : Nat → Nat) (k : Nat) : Nat := nin ρ k (ρ k)
theorem cod_b {N k : Nat} {ρ : Nat → Nat} (h : Inj N ρ) (hk : k < N) : cod ρ k + 1 ≤ N - k := by
  have a := nin_N h k (by omega)
  have b := nin_lt (ρ := ρ) (k := k) (a := ρ k) (b := N) (fun q => by
    obtain ⟨j, h1, h2⟩ := inp_iff.mp q
    exact h.2 j k h1 hk h2) (h.1 k hk)
  show nin ρ k (ρ k) + 1 ≤ _
  omega
noncomputable def hor (N : Nat) (ρ : Nat → Nat) : Nat → Nat
  | 0 => 0
  | i + 1 => hor N ρ i * (N - i) + cod ρ i
theorem hor_congr {N : Nat} {ρ ρ' : Nat → Nat} : ∀ {k : Nat}, (∀ j, j < k → ρ j = ρ' j) → hor N ρ k = hor N ρ' k
  | 0, _ => rfl
  | k + 1, h => by
    show hor N ρ k * (N - k) + nin ρ k (ρ k) = hor N ρ' k * (N - k) + nin ρ' k (ρ' k)
    rw [hor_congr (fun j hj => h j (by omega)), nin_congr (fun j hj => h j (by omega)), h k (by omega)]
theorem hor_lt {N i : Nat} {ρ ρ' : Nat → Nat} (h1 : Inj N ρ) (hi : i < N) (he : ∀ j, j < i → ρ j = ρ' j) (hlt : ρ i < ρ' i) : ∀ d, i + 1 + d ≤ N → hor N ρ (i + 1 + d) + 1 ≤ hor N ρ' (i + 1 + d)
  | 0, _ => by
    show hor N ρ i * (N - i) + nin ρ i (ρ i) + 1 ≤ hor N ρ' i * (N - i) + nin ρ' i (ρ' i)
    rw [← hor_congr he, ← nin_congr he]
    have := nin_lt (ρ := ρ) (k := i) (fun q => by
      obtain ⟨j, a, b⟩ := inp_iff.mp q
      exact h1.2 j i a hi b) hlt
    omega
  | d + 1, hd => by
    have ih := hor_lt h1 hi he hlt d (by omega)
    have cb := cod_b h1 (k := i + 1 + d) (by omega)
    show hor N ρ (i + 1 + d) * (N - (i + 1 + d)) + cod ρ (i + 1 + d) + 1 ≤ hor N ρ' (i + 1 + d) * (N - (i + 1 + d)) + cod ρ' (i + 1 + d)
    have m := Nat.mul_le_mul_right (N - (i + 1 + d)) ih
    rw [Nat.add_mul, Nat.one_mul] at m
    omega
def fac (N s : Nat) : Nat → Nat
  | 0 => 1
  | k + 1 => if k < s then 1 else fac N s k * (N - k)
theorem hor_b {N s : Nat} {ρ : Nat → Nat} (h : Inj N ρ) (hs : ∀ k, k < s → ρ k = 0) : ∀ k, k ≤ N → hor N ρ k + 1 ≤ fac N s k ∧ (k ≤ s → hor N ρ k = 0)
  | 0, _ => ⟨Nat.le_refl _, fun _ => rfl⟩
  | k + 1, hk => by
    have ih := hor_b h hs k (by omega)
    have cb := cod_b h (k := k) (by omega)
    have e : hor N ρ (k + 1) = hor N ρ k * (N - k) + cod ρ k := rfl
    by_cases c : k < s
    · have z : hor N ρ (k + 1) = 0 := by
        rw [e, ih.2 (by omega), Nat.zero_mul]
        show 0 + nin ρ k (ρ k) = 0
        rw [hs k c]
        rfl
      exact ⟨by show _ ≤ if k < s then 1 else _; rw [if_pos c, z]; exact Nat.le_refl _, fun _ => z⟩
    · refine ⟨?_, fun q => by omega⟩
      show _ ≤ if k < s then 1 else fac N s k * (N - k)
      rw [if_neg c, e]
      have m := Nat.mul_le_mul_right (N - k) ih.1
      rw [Nat.add_mul, Nat.one_mul] at m
      omega
noncomputable def rkR (N : Nat) (r : Nat → Int32) : Nat := hor N (fun i => tn (r i)) N
theorem PermF.inj {r : Nat → Int32} {N : Nat} (h : PermF r N) (hN : N ≤ 40) : Inj N (fun i => tn (r i)) ∧ ∀ i, i < N → r i = nI (tn (r i)) := by
  obtain ⟨σ, τ, h1, h2⟩ := h
  have e : ∀ i, i < N → tn (r i) = σ i := fun i hi => by
    have := (h1 i hi).1
    rw [(h1 i hi).2.1, tn_n (by omega)]
  refine ⟨⟨fun i hi => ?_, fun i j hij hj q => ?_⟩, fun i hi => ?_⟩
  · show tn (r i) < N
    rw [e i hi]; exact (h1 i hi).1
  · have q2 : tn (r i) = tn (r j) := q
    rw [e i (by omega), e j hj] at q2
    have a := (h1 i (by omega)).2.2
    rw [q2, (h1 j hj).2.2] at a
    omega
  · rw [e i hi]; exact (h1 i hi).2.1
theorem rkR_lt {N i : Nat} {r r' : Nat → Int32} (hN : N ≤ 40) (h : PermF r N) (e : nxR N r = some (i, r')) : rkR N r + 1 ≤ rkR N r' := by
  obtain ⟨a1, a2, -, j, b1, b2, b3, b4⟩ := nxR_some e
  obtain ⟨p1, p2⟩ := h.inj hN
  have l : tn (r i) < tn (r' i) := by
    have x := p1.1 i (by omega)
    have y := p1.1 j (by omega)
    have z := p1.2 i j b1 b2
    have x' : tn (r i) < N := x
    have y' : tn (r j) < N := y
    have z' : tn (r i) ≠ tn (r j) := z
    rw [p2 i (by omega), p2 j b2, nI_leI (by omega) (by omega)] at b4
    rw [b3]
    omega
  have := hor_lt (ρ' := fun i => tn (r' i)) p1 (show i < N by omega) (fun j hj => by show tn (r j) = tn (r' j); rw [a2 j hj]) l (N - (i + 1)) (by omega)
  rw [show i + 1 + (N - (i + 1)) = N by omega] at this
  exact this
theorem rkR_b {N : Nat} {r : Nat → Int32} (h : PermF r N) (hN : N ≤ 7 ∨ (N ≤ 8 ∧ r 0 = 0)) : rkR N r + 1 ≤ 5040 := by
  rcases hN with hN | ⟨hN, h0⟩
  · have a := (hor_b (s := 0) (h.inj (by omega)).1 (fun k hk => by omega) N (Nat.le_refl _)).1
    have b : ∀ n, n < 8 → fac n 0 n ≤ 5040 := by decide
    exact Nat.le_trans a (b N (by omega))
  · have a := (hor_b (s := 1) (h.inj (by omega)).1 (fun k hk => by
      obtain rfl : k = 0 := by omega
      show tn (r 0) = 0
      rw [h0]
      rfl) N (Nat.le_refl _)).1
    have b : ∀ n, n < 9 → fac n 1 n ≤ 5040 := by decide
    exact Nat.le_trans a (b N (by omega))
