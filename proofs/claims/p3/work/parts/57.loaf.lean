/-! an op that keeps what was, on both sides -/
variable {wq : Prop}
theorem keepOp {μ : Mem} (hI : Inv wq μ) : ∃ N μc, RelN wq N (CL μ) (MT μ 0) ∧ fX2_keep FF μ = some μc ∧ (∀ k, k ≠ 16 → (k < 18 ∨ 53 ≤ k) → μc k = μ k) ∧ ∀ μ1, (∀ k, 89 ≤ k → μ1 k = μ k) → (∀ k, (k = 16 ∨ (18 ≤ k ∧ k < 53)) → μ1 k = μc k) →
    ∃ μm, fX9_keep FF μ1 = some μm ∧ Ag [94, 95, 96, 97, 98, 99] [11] μ1 μm ∧ MS 0 μ1 μm ∧ ∀ μ2, (∀ k, (k = 16 ∨ (18 ≤ k ∧ k < 53)) → μ2 k = μm k) → μ2 89 11 = μm 89 11 → (∀ k, 1 ≤ k → k ≤ 5 → MS k μm μ2) → HI wq μ2 := by
  obtain ⟨-, ⟨N, hL⟩, ⟨nx, K, h1, h2, h3, h4, h5, h6⟩, -⟩ := hI
  obtain ⟨μc, c1, c2, c3⟩ := cl_keep (N := N) h1 h2 h3 h4 hL.2.1 hL.1
  refine ⟨N, μc, hL, c1, c2, fun μ1 e1 e2 => ?_⟩
  have em : ∀ k, MT μ1 k = MT μ k := fun k => by
    unfold MT
    rw [e1 94 (by omega), e1 95 (by omega), e1 96 (by omega), e1 97 (by omega), e1 98 (by omega), e1 99 (by omega)]
  obtain ⟨μm, m1, m2, m3, m4⟩ := m_keep (μ := μ1) (K := K) (N := N) h2 (by rw [e1 89 (by omega)]; exact h5) hL.1 (by rw [e1 94 (by omega)]; exact hL.2.2.1) (by rw [e1 94 (by omega)]; exact HI.sizes h6)
  refine ⟨μm, m1, m2, m3, fun μ2 g1 g2 g3 => ?_⟩
  have km : KM K N μ μm := by
    obtain ⟨k1, k2, k3, k4⟩ := m4
    refine ⟨k1, k2, by rw [← em]; exact k3, fun i i1 i2 n hn hz => ?_⟩
    rw [← em] at hz ⊢
    exact k4 i i1 i2 n hn hz
  refine HI.kept h1 h2 h6 hL (KC.ag h1 c3 (fun k hk => ?_)) (KM.ag hL.1 km g2 g3)
  have hk2 : k ≠ 89 ∧ k ∉ [94, 95, 96, 97, 98, 99] := by
    refine ⟨by omega, ?_⟩
    simp only [List.mem_cons, List.not_mem_nil, or_false, not_or]
    omega
  rw [g1 k hk, m2.1 k hk2.1 hk2.2, e2 k hk]
/-! loaves that come -/
def apnd (N i : Nat) (a f : Nat → Int32) : Nat → Int32 := fun x => if N ≤ x ∧ x < N + i then a (x - N) else f x
theorem apnd_0 {N : Nat} {a f : Nat → Int32} : apnd N 0 a f = f := funext fun x => if_neg (by omega)
theorem apnd_s {N i : Nat} {a f : Nat → Int32} : upd (apnd N i a f) (N + i) (a i) = apnd N (i + 1) a f := by
  funext x
  unfold upd apnd
  by_cases h1 : x = N + i
  · rw [if_pos h1, if_pos (by omega), h1, show N + i - N = i by omega]
  · rw [if_neg h1]
    by_cases h2 : N ≤ x ∧ x < N + i
    · rw [if_pos h2, if_pos (by omega)]
    · rw [if_neg h2, if_neg (by omega)]
theorem apnd_lo {N i x : Nat} {a f : Nat → Int32} (h : x < N) : apnd N i a f x = f x := if_neg (by omega)
theorem apnd_hi {N i x : Nat} {a f : Nat → Int32} (h : x < i) : apnd N i a f (N + x) = a x := by
  unfold apnd
  rw [if_pos (by omega), show N + x - N = x by omega]
theorem apnd_out {N i x : Nat} {a f : Nat → Int32} (h : N + i ≤ x) : apnd N i a f x = f x := if_neg (by omega)
def zz : Nat → Int32 := fun _ => 0
def oo (N : Nat) : Nat → Int32 := fun j => nI (N + j)
def cAdd (N i : Nat) (a b : Nat → Int32) (μ : Mem) : Mem := upM (upM (upM (upM (upM (upM μ 10 (apnd N i a (μ 10))) 11 (apnd N i b (μ 11))) 12 (apnd N i zz (μ 12))) 13 (apnd N i zz (μ 13))) 14 (apnd N i (oo N) (μ 14))) 9 (upd (μ 9) 6 (nI (N + i)))
theorem cAdd_o {N i k : Nat} {a b : Nat → Int32} {μ : Mem} (h : k < 9 ∨ 15 ≤ k) : cAdd N i a b μ k = μ k := by
  unfold cAdd
  rw [upM_ne (by omega), upM_ne (by omega), upM_ne (by omega), upM_ne (by omega), upM_ne (by omega), upM_ne (by omega)]
theorem upd_upd {f : Nat → Int32} {k : Nat} {x y : Int32} : upd (upd f k x) k y = upd f k y := by
  funext j
  unfold upd
  by_cases h : j = k
  · rw [if_pos h, if_pos h]
  · rw [if_neg h, if_neg h, if_neg h]
theorem upd_id {f : Nat → Int32} {k : Nat} {x : Int32} (h : f k = x) : upd f k x = f := by
  funext j
  unfold upd
  by_cases e : j = k
  · rw [if_pos e, e, h]
  · rw [if_neg e]
theorem cAdd_0 {N : Nat} {a b : Nat → Int32} {μ : Mem} (h : μ 9 6 = nI N) : cAdd N 0 a b μ = μ := by
  apply upM_ext
  intro k
  by_cases hk : 9 ≤ k ∧ k < 15
  · have h6 : k = 9 ∨ k = 10 ∨ k = 11 ∨ k = 12 ∨ k = 13 ∨ k = 14 := by omega
    rcases h6 with rfl | rfl | rfl | rfl | rfl | rfl
    · exact upd_id h
    · exact apnd_0
    · exact apnd_0
    · exact apnd_0
    · exact apnd_0
    · exact apnd_0 (a := oo N)
  · exact cAdd_o (by omega)
theorem c_add {F N i : Nat} {a b : Nat → Int32} {μ : Mem} (hN : N + i < 40) : fX3_add F (a i) (b i) (cAdd N i a b μ) = some (cAdd N (i + 1) a b μ) := by
  unfold fX3_add
  rw [show cAdd N i a b μ 9 6 = nI (N + i) from rfl, wr_n (by show N + i < 40; omega)]
  rw [show ∀ g, upM (cAdd N i a b μ) 10 g 9 6 = nI (N + i) from fun _ => rfl, wr_n (by show N + i < 40; omega)]
  rw [show ∀ g h, upM (upM (cAdd N i a b μ) 10 g) 11 h 9 6 = nI (N + i) from fun _ _ => rfl, wr_n (by show N + i < 40; omega)]
  rw [show ∀ g h j, upM (upM (upM (cAdd N i a b μ) 10 g) 11 h) 12 j 9 6 = nI (N + i) from fun _ _ _ => rfl, wr_n (by show N + i < 40; omega)]
  rw [show ∀ g h j l, upM (upM (upM (upM (cAdd N i a b μ) 10 g) 11 h) 12 j) 13 l 9 6 = nI (N + i) from fun _ _ _ _ => rfl, wr_n (by show N + i < 40; omega)]
  rw [show ∀ g h j l o, upM (upM (upM (upM (upM (cAdd N i a b μ) 10 g) 11 h) 12 j) 13 l) 14 o 9 6 = nI (N + i) from fun _ _ _ _ _ => rfl, st_n, nI_add1]
  congr 1
  apply upM_ext
  intro k
  by_cases hk : 9 ≤ k ∧ k < 15
  · have h6 : k = 9 ∨ k = 10 ∨ k = 11 ∨ k = 12 ∨ k = 13 ∨ k = 14 := by omega
    rcases h6 with rfl | rfl | rfl | rfl | rfl | rfl
    · exact upd_upd
    · exact apnd_s
    · exact apnd_s
    · exact apnd_s
    · exact apnd_s
    · exact apnd_s (a := oo N)
  · rw [upM_ne (by omega), upM_ne (by omega), upM_ne (by omega), upM_ne (by omega), upM_ne (by omega), upM_ne (by omega), cAdd_o (by omega), cAdd_o (by omega)]
def mAdd (N i : Nat) (a b : Nat → Int32) (μ : Mem) : Mem := upM (upM (upM (upM (upM (upM (upM μ 95 (apnd N i a (μ 95))) 96 (apnd N i b (μ 96))) 97 (apnd N i zz (μ 97))) 98 (apnd N i zz (μ 98))) 99 (apnd N i (oo N) (μ 99))) 94 (upd (μ 94) 0 (nI (N + i)))) 89 (if i = 0 then μ 89 else upd (μ 89) 15 0)
theorem mAdd_o {N i k : Nat} {a b : Nat → Int32} {μ : Mem} (h : k ≠ 89 ∧ (k < 94 ∨ 100 ≤ k)) : mAdd N i a b μ k = μ k := by
  unfold mAdd
  rw [upM_ne (by omega), upM_ne (by omega), upM_ne (by omega), upM_ne (by omega), upM_ne (by omega), upM_ne (by omega), upM_ne (by omega)]
theorem mAdd_0 {N : Nat} {a b : Nat → Int32} {μ : Mem} (h : μ 94 0 = nI N) : mAdd N 0 a b μ = μ := by
  apply upM_ext
  intro k
  by_cases h9 : k = 89
  · subst h9; rfl
  by_cases hk : 94 ≤ k ∧ k < 100
  · have h6 : k = 94 ∨ k = 95 ∨ k = 96 ∨ k = 97 ∨ k = 98 ∨ k = 99 := by omega
    rcases h6 with rfl | rfl | rfl | rfl | rfl | rfl
    · exact upd_id h
    · exact apnd_0
    · exact apnd_0
    · exact apnd_0
    · exact apnd_0
    · exact apnd_0 (a := oo N)
  · exact mAdd_o (by omega)
theorem m_come {F N i : Nat} {a b : Nat → Int32} {μ : Mem} (hN : N + i < 40) : fX9_come F (a i) (b i) (mAdd N i a b μ) = some (mAdd N (i + 1) a b μ) := by
  have hl : N + i < 240 := by omega
  unfold fX9_come
  rw [show (0 : Int32) = nI 0 from rfl, rd_n (by decide), show mAdd N i a b μ 94 0 = nI (N + i) from rfl, wr_n hl, wr_n hl, wr_n hl, wr_n hl, wr_n hl, rd_n (by decide), show ∀ g h j l o, upM (upM (upM (upM (upM (mAdd N i a b μ) 95 g) 96 h) 97 j) 98 l) 99 o 94 0 = nI (N + i) from fun _ _ _ _ _ => rfl, wr_n (by decide), st_n, nI_add1]
  congr 1
  apply upM_ext
  intro k
  by_cases h9 : k = 89
  · subst h9
    show upd (mAdd N i a b μ 89) 15 0 = if i + 1 = 0 then μ 89 else upd (μ 89) 15 0
    rw [if_neg (by omega)]
    show upd (if i = 0 then μ 89 else upd (μ 89) 15 0) 15 0 = _
    by_cases h0 : i = 0
    · rw [if_pos h0]
    · rw [if_neg h0, upd_upd]
  by_cases hk : 94 ≤ k ∧ k < 100
  · have h6 : k = 94 ∨ k = 95 ∨ k = 96 ∨ k = 97 ∨ k = 98 ∨ k = 99 := by omega
    rcases h6 with rfl | rfl | rfl | rfl | rfl | rfl
    · exact upd_upd
    · exact apnd_s
    · exact apnd_s
    · exact apnd_s
    · exact apnd_s
    · exact apnd_s (a := oo N)
  · rw [upM_ne (by omega), upM_ne (by omega), upM_ne (by omega), upM_ne (by omega), upM_ne (by omega), upM_ne (by omega), upM_ne (by omega), mAdd_o (by omega), mAdd_o (by omega)]
theorem PermF.add {f : Nat → Int32} {N n : Nat} (h : PermF f N) : PermF (apnd N n (oo N) f) (N + n) := by
  obtain ⟨σ, τ, h1, h2⟩ := h
  refine ⟨fun i => if i < N then σ i else i, fun i => if i < N then τ i else i, fun i hi => ?_, fun i hi => ?_⟩
  · by_cases h : i < N
    · obtain ⟨a, b, c⟩ := h1 i h
      simp only [if_pos h, if_pos a]
      exact ⟨by omega, by rw [apnd_lo h]; exact b, c⟩
    · simp only [if_neg h]
      refine ⟨hi, ?_, trivial⟩
      have e : i = N + (i - N) := by omega
      rw [e, apnd_hi (by omega)]
      rfl
  · by_cases h : i < N
    · obtain ⟨a, b⟩ := h2 i h
      simp only [if_pos h, if_pos a]
      exact ⟨by omega, b⟩
    · simp only [if_neg h]
      exact ⟨hi, trivial⟩
/-- all is alike behind loaves that came -/
theorem LV.add {N n : Nat} {a b : Nat → Int32} {μ μ' : Mem} (h : RelN wq N (CL μ) (MT μ 0)) (hn : N + n ≤ 40) (ha : ∀ i, i < n → ∃ x, x ≤ 100000 ∧ a i = nI x) (hb : ∀ i, i < n → ∃ x, x ≤ 100000 ∧ b i = nI x) (hc : CL μ' = CL (cAdd N n a b μ)) (hm : (MT μ' 0).1 = nI (N + n)) (he : Eq5 (N + n) (MT μ' 0) (nI (N + n), apnd N n a (MT μ 0).2.1, apnd N n b (MT μ 0).2.2.1, apnd N n zz (MT μ 0).2.2.2.1, apnd N n zz (MT μ 0).2.2.2.2.1, apnd N n (oo N) (MT μ 0).2.2.2.2.2)) : RelN wq (N + n) (CL μ') (MT μ' 0) := by
  have hz := (RelN.okb h).add (n := n)
  obtain ⟨h1, h2, h3, h4, h5, h6⟩ := h
  rw [hc]
  have hi : ∀ i, i < N + n → i < N ∨ ∃ j, j < n ∧ i = N + j := fun i hi => by
    by_cases h : i < N
    · exact Or.inl h
    · exact Or.inr ⟨i - N, by omega, by omega⟩
  refine ⟨hn, rfl, hm, EqW.congr ?_ (fun _ _ => ⟨rfl, rfl, rfl, rfl, rfl⟩) he, fun i hi2 => ?_, h6.add⟩
  · intro i hi2
    rcases hi i hi2 with h | ⟨j, hj, rfl⟩
    · obtain ⟨q1, q2, q3, q4, q5, -⟩ := h4 i h
      refine ⟨?_, ?_, ?_, ?_, fun hq => ?_, hz⟩
      · show apnd N n a (μ 10) i = apnd N n a _ i; rw [apnd_lo h, apnd_lo h]; exact q1
      · show apnd N n b (μ 11) i = apnd N n b _ i; rw [apnd_lo h, apnd_lo h]; exact q2
      · show apnd N n zz (μ 12) i = apnd N n zz _ i; rw [apnd_lo h, apnd_lo h]; exact q3
      · show apnd N n zz (μ 13) i = apnd N n zz _ i; rw [apnd_lo h, apnd_lo h]; exact q4
      · show apnd N n (oo N) (μ 14) i = apnd N n (oo N) _ i; rw [apnd_lo h, apnd_lo h]; exact q5 hq
    · refine ⟨?_, ?_, ?_, ?_, fun _ => ?_, hz⟩
      · show apnd N n a (μ 10) (N + j) = apnd N n a _ (N + j); rw [apnd_hi hj, apnd_hi hj]
      · show apnd N n b (μ 11) (N + j) = apnd N n b _ (N + j); rw [apnd_hi hj, apnd_hi hj]
      · show apnd N n zz (μ 12) (N + j) = apnd N n zz _ (N + j); rw [apnd_hi hj, apnd_hi hj]
      · show apnd N n zz (μ 13) (N + j) = apnd N n zz _ (N + j); rw [apnd_hi hj, apnd_hi hj]
      · show apnd N n (oo N) (μ 14) (N + j) = apnd N n (oo N) _ (N + j); rw [apnd_hi hj, apnd_hi hj]
  · rcases hi i hi2 with h | ⟨j, hj, rfl⟩
    · obtain ⟨q1, q2, q3, q4⟩ := h5 i h
      refine ⟨?_, ?_, ?_, ?_⟩
      · show ∃ x, x ≤ 100000 ∧ apnd N n a (μ 10) i = nI x; rw [apnd_lo h]; exact q1
      · show ∃ x, x ≤ 100000 ∧ apnd N n b (μ 11) i = nI x; rw [apnd_lo h]; exact q2
      · show ∃ x, x ≤ 399 ∧ apnd N n zz (μ 12) i = nI x; rw [apnd_lo h]; exact q3
      · show ∃ x, x ≤ 399 ∧ apnd N n zz (μ 13) i = nI x; rw [apnd_lo h]; exact q4
    · refine ⟨?_, ?_, ?_, ?_⟩
      · show ∃ x, x ≤ 100000 ∧ apnd N n a (μ 10) (N + j) = nI x; rw [apnd_hi hj]; exact ha j hj
      · show ∃ x, x ≤ 100000 ∧ apnd N n b (μ 11) (N + j) = nI x; rw [apnd_hi hj]; exact hb j hj
      · show ∃ x, x ≤ 399 ∧ apnd N n zz (μ 12) (N + j) = nI x; rw [apnd_hi hj]; exact ⟨0, by omega, rfl⟩
      · show ∃ x, x ≤ 399 ∧ apnd N n zz (μ 13) (N + j) = nI x; rw [apnd_hi hj]; exact ⟨0, by omega, rfl⟩
