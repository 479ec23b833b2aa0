/-! the digest -/
variable {wq : Prop}
theorem dig20 {μ : Mem} (hI : Inv wq μ) {i : Nat} (r8 r9 : Int64 → Int32 → Mem → Option (Int64 × Mem)) : ∀ (d n k : Nat) (y y' : Int64), k + d = 6 → d < n → ∃ Y Y', fX8_digest_20 FF r8 n y (nI i) (nI k) μ = r8 Y (nI (i + 1)) μ ∧ fX9_digest_19 FF r9 n y' (nI i) (nI k) μ = r9 Y' (nI (i + 1)) μ ∧ (wq → y = y' → Y = Y') := by
  intro d
  induction d with
  | zero =>
    intro n k y y' hk hn
    obtain ⟨n, rfl⟩ : ∃ n', n = n' + 1 := ⟨n - 1, by omega⟩
    obtain rfl : k = 6 := by omega
    refine ⟨y, y', ?_, ?_, fun _ h => h⟩
    · show fX8_digest_20_b FF _ _ _ _ _ _ = _
      unfold fX8_digest_20_b
      rw [if_pos (show (5 : Int32) < nI 6 by decide), nI_add1]
    · show fX9_digest_19_b FF _ _ _ _ _ _ = _
      unfold fX9_digest_19_b
      rw [if_pos (show (6 : Int32) ≤ nI 6 by decide), nI_add1]
  | succ d ih =>
    intro n k y y' hk hn
    obtain ⟨n, rfl⟩ : ∃ n', n = n' + 1 := ⟨n - 1, by omega⟩
    obtain ⟨r, r', h1, h2, h3⟩ := of_both hI (nI i) (nI k)
    obtain ⟨Y, Y', e1, e2, e3⟩ := ih n (k + 1) (31 * y + r.toInt64) (31 * y' + r'.toInt64) (by omega) (by omega)
    refine ⟨Y, Y', ?_, ?_, fun q h => e3 q (by rw [h, h3 q])⟩
    · show fX8_digest_20_b FF _ _ _ _ _ _ = _
      unfold fX8_digest_20_b
      rw [show (5 : Int32) = nI 5 from rfl, if_neg (nI_nlt (by omega) (by omega)), h1, cal_n, nI_add1]
      exact e1
    · show fX9_digest_19_b FF _ _ _ _ _ _ = _
      unfold fX9_digest_19_b
      rw [show (6 : Int32) = nI 6 from rfl, if_neg (nI_ge (by omega) (by omega)), h2, cal_n, nI_add1]
      exact e2
theorem dig91 {μ : Mem} (hP : PR μ) : ∀ (d n k : Nat) (y : Int64), k + d = 8 → d < n → ∃ Y, fX8_digest_91 FF n y (nI k) μ = some (Y, μ) ∧ fX9_digest_87 FF n y (nI k) μ = some (Y, μ) := by
  intro d
  induction d with
  | zero =>
    intro n k y hk hn
    obtain ⟨n, rfl⟩ : ∃ n', n = n' + 1 := ⟨n - 1, by omega⟩
    obtain rfl : k = 8 := by omega
    refine ⟨y, ?_, ?_⟩
    · show fX8_digest_91_b FF _ _ _ _ = _
      unfold fX8_digest_91_b
      rw [if_pos (show (8 : Int32) ≤ nI 8 by decide)]
    · show fX9_digest_87_b FF _ _ _ _ = _
      unfold fX9_digest_87_b
      rw [if_pos (show (8 : Int32) ≤ nI 8 by decide)]
  | succ d ih =>
    intro n k y hk hn
    obtain ⟨n, rfl⟩ : ∃ n', n = n' + 1 := ⟨n - 1, by omega⟩
    obtain ⟨p1, p2, -⟩ := hP k (by omega)
    obtain ⟨Y, e1, e2⟩ := ih n (k + 1) (31 * (31 * y + (μ 74 k).toInt64) + (μ 75 k).toInt64) (by omega) (by omega)
    refine ⟨Y, ?_, ?_⟩
    · show fX8_digest_91_b FF _ _ _ _ = _
      unfold fX8_digest_91_b
      rw [show (8 : Int32) = nI 8 from rfl, if_neg (nI_ge (by omega) (by omega)), rd_n (by show k < 8; omega), rd_n (by show k < 8; omega), nI_add1]
      exact e1
    · show fX9_digest_87_b FF _ _ _ _ = _
      unfold fX9_digest_87_b
      rw [show (8 : Int32) = nI 8 from rfl, if_neg (nI_ge (by omega) (by omega)), rd_n (by show k < 8; omega), rd_n (by show k < 8; omega), nI_add1, ← p1, ← p2]
      exact e2
theorem dig55 {N : Nat} {μ : Mem} (hL : RelN wq N (CL μ) (MT μ 0)) : ∀ (d n k : Nat) (y y' : Int64), k + d = N → d < n → ∃ Y Y', fX8_digest_55 FF n y (nI k) μ = fX8_digest_91 FF FF Y 0 μ ∧ fX9_digest_55 FF n y' (nI k) μ = fX9_digest_87 FF FF Y' 0 μ ∧ (wq → y = y' → Y = Y') := by
  have h9 : μ 9 6 = nI N := hL.2.1
  have h94 : μ 94 0 = nI N := hL.2.2.1
  have hN := hL.1
  intro d
  induction d with
  | zero =>
    intro n k y y' hk hn
    obtain ⟨n, rfl⟩ : ∃ n', n = n' + 1 := ⟨n - 1, by omega⟩
    obtain rfl : k = N := by omega
    refine ⟨y, y', ?_, ?_, fun _ h => h⟩
    · show fX8_digest_55_b FF _ _ _ _ = _
      unfold fX8_digest_55_b
      rw [h9, if_pos (nI_le (by omega) (by omega))]
    · show fX9_digest_55_b FF _ _ _ _ = _
      unfold fX9_digest_55_b
      rw [show (0 : Int32) = nI 0 from rfl, rd_n (by decide), h94, if_pos (nI_le (by omega) (by omega))]
  | succ d ih =>
    intro n k y y' hk hn
    obtain ⟨n, rfl⟩ : ∃ n', n = n' + 1 := ⟨n - 1, by omega⟩
    obtain ⟨Y, Y', e1, e2, e3⟩ := ih n (k + 1) (31 * y + (μ 14 k).toInt64) (31 * y' + (μ 99 k).toInt64) (by omega) (by omega)
    refine ⟨Y, Y', ?_, ?_, fun q h => e3 q (by rw [h, (hL.eqs (i := k) (by omega)).2.2.2.2 q])⟩
    · show fX8_digest_55_b FF _ _ _ _ = _
      unfold fX8_digest_55_b
      rw [h9, if_neg (nI_ge (by omega) (by omega)), rd_n (by show k < 40; omega), nI_add1]
      exact e1
    · show fX9_digest_55_b FF _ _ _ _ = _
      unfold fX9_digest_55_b
      rw [show (0 : Int32) = nI 0 from rfl, rd_n (by decide), h94, if_neg (nI_ge (by omega) (by omega)), rd_n (by show k < 240; omega), nI_add1]
      exact e2
theorem dig6 {N : Nat} {μ : Mem} (hI : Inv wq μ) (hL : RelN wq N (CL μ) (MT μ 0)) : ∀ (d n k : Nat) (y y' : Int64), k + d = N → d < n → ∃ Y Y', fX8_digest_6 FF n y (nI k) μ = fX8_digest_55 FF FF Y 0 μ ∧ fX9_digest_6 FF n y' (nI k) μ = fX9_digest_55 FF FF Y' 0 μ ∧ (wq → y = y' → Y = Y') := by
  have h9 : μ 9 6 = nI N := hL.2.1
  have h94 : μ 94 0 = nI N := hL.2.2.1
  have hN := hL.1
  intro d
  induction d with
  | zero =>
    intro n k y y' hk hn
    obtain ⟨n, rfl⟩ : ∃ n', n = n' + 1 := ⟨n - 1, by omega⟩
    obtain rfl : k = N := by omega
    refine ⟨y, y', ?_, ?_, fun _ h => h⟩
    · show fX8_digest_6_b FF _ _ _ _ = _
      unfold fX8_digest_6_b
      rw [h9, if_pos (nI_le (by omega) (by omega))]
    · show fX9_digest_6_b FF _ _ _ _ = _
      unfold fX9_digest_6_b
      rw [show (0 : Int32) = nI 0 from rfl, rd_n (by decide), h94, if_pos (nI_le (by omega) (by omega))]
  | succ d ih =>
    intro n k y y' hk hn
    obtain ⟨n, rfl⟩ : ∃ n', n = n' + 1 := ⟨n - 1, by omega⟩
    obtain ⟨Y, Y', a1, a2, a3⟩ := dig20 hI (i := k) (fX8_digest_6 FF n) (fX9_digest_6 FF n) 6 FF 0 y y' (by omega) (by rw [FF_e]; omega)
    obtain ⟨Z, Z', e1, e2, e3⟩ := ih n (k + 1) Y Y' (by omega) (by omega)
    refine ⟨Z, Z', ?_, ?_, fun q h => e3 q (a3 q h)⟩
    · show fX8_digest_6_b FF _ _ _ _ = _
      unfold fX8_digest_6_b
      rw [h9, if_neg (nI_ge (by omega) (by omega))]
      exact a1.trans e1
    · show fX9_digest_6_b FF _ _ _ _ = _
      unfold fX9_digest_6_b
      rw [show (0 : Int32) = nI 0 from rfl, rd_n (by decide), h94, if_neg (nI_ge (by omega) (by omega))]
      exact a2.trans e2
theorem op_digest : ∀ μ, Inv wq μ → ∃ (r r' : Int64) (μ1 μ2 : Mem), fX8_digest FF μ = some (r, μ1) ∧ fX9_digest FF μ1 = some (r', μ2) ∧ Inv wq μ2 ∧ (wq → r = r') := by
  intro μ hI
  obtain ⟨N, hL⟩ := hI.2.1
  have hN := hL.1
  obtain ⟨X, X', a1, a2, a3⟩ := dig6 hI hL N FF 0 17 17 (by omega) (by rw [FF_e]; omega)
  obtain ⟨Y, Y', b1, b2, b3⟩ := dig55 hL N FF 0 X X' (by omega) (by rw [FF_e]; omega)
  obtain ⟨Z, c1, -⟩ := dig91 hI.2.2.2.2.2 8 FF 0 Y (by omega) (by rw [FF_e]; omega)
  obtain ⟨Z', d1, d2⟩ := dig91 hI.2.2.2.2.2 8 FF 0 Y' (by omega) (by rw [FF_e]; omega)
  refine ⟨Z, Z', μ, μ, (a1.trans b1).trans c1, (a2.trans b2).trans d2, hI, fun q => ?_⟩
  have e : Y = Y' := b3 q (a3 q rfl)
  rw [e] at c1
  have := c1.symm.trans d1
  injection this with h
  injection h
