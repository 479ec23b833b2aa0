/-! the day's numbers are small; what is alike ahead is alike -/
variable {wq : Prop}
theorem imax_nsub {a b x : Nat} (ha : a < 2 ^ 31) (hb : b < 2 ^ 31) (hx : x < 2 ^ 31) : imax (nI a) (nI b - nI x) = nI (max a (b - x)) := by
  by_cases h : x ≤ b
  · rw [nI_sub h, imax_n ha (by omega)]
  · have ea : (nI a).toInt = a := nI_toInt ha
    have eb : (nI b).toInt = b := nI_toInt hb
    have ex : (nI x).toInt = x := nI_toInt hx
    have es : (nI b - nI x).toInt = (b : Int) - x := by rw [sub_toInt (by omega) (by omega), eb, ex]
    unfold imax
    rw [if_neg, show max a (b - x) = a by omega]
    rw [Int32.lt_iff_toInt_lt, es, ea]
    omega
def SmD (i : Nat) (d : Int32 × Int32 × (Nat → Int32)) : Prop := (∃ a, a ≤ 200000 * i ∧ d.1 = nI a) ∧ (∃ b, b ≤ 200000 * i ∧ d.2.1 = nI b) ∧ ∀ j, j < i → ∃ c, c ≤ 200000 * i ∧ d.2.2 j = nI c
theorem dy_b {l m N : Nat} {X B : Nat → Int32} (hN : N ≤ 40) (h1 : l = 2 → 1 ≤ m) (h : Ld N X B) : ∀ i, i ≤ N → SmD i (dy l m X B i)
  | 0, _ => ⟨⟨0, by omega, rfl⟩, ⟨0, by omega, rfl⟩, fun j hj => by omega⟩
  | i + 1, hi => by
    obtain ⟨⟨a, la, ea⟩, ⟨b, lb, eb⟩, hc⟩ := dy_b hN h1 h i (by omega)
    obtain ⟨⟨x, lx, ex⟩, ⟨y, ly, ey⟩⟩ := h i (by omega)
    have s1 : ∃ s, s ≤ 200000 * i + 100000 ∧ sB l m X B i = nI s := by
      unfold sB sA dSt
      by_cases q : l = 0
      · refine ⟨max a (b - x) + x, by omega, ?_⟩
        rw [if_pos q, ea, eb, ex, imax_nsub (by omega) (by omega) (by omega), nI_add]
      · refine ⟨a + x, by omega, ?_⟩
        rw [if_neg q, ea, ex, nI_add]
    obtain ⟨s, ls, es⟩ := s1
    have s2 : sC l m X B i = nI (max s b) := by
      unfold sC
      rw [es, eb, imax_n (by omega) (by omega)]
    refine ⟨?_, ⟨max s b + y, by omega, by rw [dy_2, s2, ey, nI_add]⟩, fun j hj => ?_⟩
    · rw [dy_1, es]
      by_cases q : l = 2
      · rw [if_pos q]
        by_cases q2 : i < m
        · exact ⟨s, by omega, by rw [if_pos q2]⟩
        · have := h1 q
          obtain ⟨c, lc, ec⟩ := hc (i - m) (by omega)
          exact ⟨max s c, by omega, by rw [if_neg q2, ec, imax_n (by omega) (by omega)]⟩
      · exact ⟨s, by omega, by rw [if_neg q]⟩
    · rw [dy_3 hj]
      by_cases q : j = i
      · rw [q]
        exact ⟨max s b, by omega, s2⟩
      · obtain ⟨c, lc, ec⟩ := hc j (by omega)
        exact ⟨c, by omega, by rw [← dy_3 (i := i) (by omega)]; exact ec⟩
theorem dy_congr {l m : Nat} {X B X' B' : Nat → Int32} : ∀ i, (∀ p, p < i → X p = X' p ∧ B p = B' p) → dy l m X B i = dy l m X' B' i
  | 0, _ => rfl
  | i + 1, h => by
    have ih := dy_congr (l := l) (m := m) i (fun p hp => h p (by omega))
    unfold dy
    rw [ih, (h i (by omega)).1, (h i (by omega)).2]
theorem KN.congr {l m i : Nat} {X B X' B' : Nat → Int32} {μ : Mem} (h : KN l m X B i μ) (e : ∀ p, p < i → X p = X' p ∧ B p = B' p) : KN l m X' B' i μ := fun p hp => by
  obtain ⟨a1, a2, a3, a4, a5⟩ := h p hp
  have d := dy_congr (l := l) (m := m) p (fun q hq => e q (by omega))
  have d1 := dy_congr (l := l) (m := m) (p + 1) (fun q hq => e q (by omega))
  have eA : sA l m X' B' p = sA l m X B p := by
    unfold sA
    rw [d, (e p hp).1]
  have eB : sB l m X' B' p = sB l m X B p := by
    unfold sB
    rw [eA, (e p hp).1]
  have eC : sC l m X' B' p = sC l m X B p := by
    unfold sC
    rw [eB, d]
  rw [eA, eB, eC, ← d1]
  exact ⟨a1, a2, a3, a4, a5⟩
theorem KN.mono {l m i j : Nat} {X B : Nat → Int32} {μ : Mem} (h : KN l m X B i μ) (hj : j ≤ i) : KN l m X B j μ := fun p hp => h p (by omega)
/-- the END of a row -/
def eN (l m : Nat) (μ : Mem) (N : Nat) (r : Nat → Int32) : Int32 := (dy l m (fun p => μ 10 (tn (r p))) (fun p => μ 11 (tn (r p))) N).2.1
theorem eN_b {l m N : Nat} {μ : Mem} {r : Nat → Int32} (hL : RelN wq N (CL μ) (MT μ 0)) (h1 : l = 2 → 1 ≤ m) (h : PermF r N) : ∃ e, e ≤ 8000000 ∧ eN l m μ N r = nI e := by
  have hN := hL.1
  obtain ⟨p1, p2⟩ := h.inj hN
  obtain ⟨-, ⟨b, lb, eb⟩, -⟩ := dy_b (l := l) (m := m) (X := fun p => μ 10 (tn (r p))) (B := fun p => μ 11 (tn (r p))) hN h1 (fun i hi => hL.ld _ (p1.1 i hi)) N (Nat.le_refl _)
  exact ⟨b, by omega, eb⟩
theorem eN_congr {l m N : Nat} {μ : Mem} {r r' : Nat → Int32} (h : ∀ p, p < N → r p = r' p) : eN l m μ N r = eN l m μ N r' := by
  unfold eN
  rw [dy_congr N (fun p hp => ⟨by rw [h p hp], by rw [h p hp]⟩)]
