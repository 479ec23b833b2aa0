/-! what is kept, and given back -/
theorem cp1 {m : Mem} {a b N : Nat} (h : m a 6 = nI N) (hN : N ≤ 40) (ha : isLv a) (hb : isLv b) {c : Nat} (hc : c < 5) : ∃ m' : Mem, (∀ {α : Type} (f : Mem → Option α), cpy m (b + 1 + c) 0 (a + 1 + c) 0 (m a 6) f = f m') ∧ (∀ k, k ≠ a + 1 + c → m' k = m k) ∧ ∀ i, i < N → m' (a + 1 + c) i = m (b + 1 + c) i := by
  have la := (ha.2.2 c (by omega)).2.2.2
  have lb := (hb.2.2 c (by omega)).2.2.2
  refine ⟨upM m (a + 1 + c) (va_cpy (m (b + 1 + c)) (m (a + 1 + c)) 0 0 N), fun f => ?_, fun k hk => upM_ne hk, fun i hi => ?_⟩
  · rw [h]
    exact cpy_n (i := 0) (j := 0) (n := N) (by rw [lb]; omega) (by rw [la]; omega)
  · rw [upM_self]
    unfold va_cpy
    rw [if_pos (by omega)]
    congr 1
    omega
theorem c_become {a b N : Nat} {μ : Mem} (ha : isLv a) (hb : isLv b) (hab : a + 7 ≤ b ∨ b + 7 ≤ a) (h : μ b 6 = nI N) (hN : N ≤ 40) : ∃ μ' : Mem, fX3_become FF a b μ = some μ' ∧ (∀ k, (k < a ∨ a + 6 ≤ k) → μ' k = μ k) ∧ μ' a 6 = nI N ∧ ∀ c, c < 5 → ∀ i, i < N → μ' (a + 1 + c) i = μ (b + 1 + c) i := by
  have h0 : upM μ a (upd (μ a) 6 (μ b 6)) a 6 = nI N := by rw [upM_self, upd_s, h]
  obtain ⟨m1, f1, g1, e1⟩ := cp1 h0 hN ha hb (c := 0) (by omega)
  obtain ⟨m2, f2, g2, e2⟩ := cp1 (m := m1) (by rw [g1 _ (by omega)]; exact h0) hN ha hb (c := 1) (by omega)
  obtain ⟨m3, f3, g3, e3⟩ := cp1 (m := m2) (by rw [g2 _ (by omega), g1 _ (by omega)]; exact h0) hN ha hb (c := 2) (by omega)
  obtain ⟨m4, f4, g4, e4⟩ := cp1 (m := m3) (by rw [g3 _ (by omega), g2 _ (by omega), g1 _ (by omega)]; exact h0) hN ha hb (c := 3) (by omega)
  obtain ⟨m5, f5, g5, e5⟩ := cp1 (m := m4) (by rw [g4 _ (by omega), g3 _ (by omega), g2 _ (by omega), g1 _ (by omega)]; exact h0) hN ha hb (c := 4) (by omega)
  refine ⟨m5, ?_, fun k hk => ?_, ?_, fun c hc i hi => ?_⟩
  · unfold fX3_become
    rw [st_n, f1, f2, f3, f4, f5]
  · rw [g5 _ (by omega), g4 _ (by omega), g3 _ (by omega), g2 _ (by omega), g1 _ (by omega), upM_ne (by omega)]
  · rw [g5 _ (by omega), g4 _ (by omega), g3 _ (by omega), g2 _ (by omega), g1 _ (by omega)]
    exact h0
  · have hc5 : c = 0 ∨ c = 1 ∨ c = 2 ∨ c = 3 ∨ c = 4 := by omega
    rcases hc5 with rfl | rfl | rfl | rfl | rfl
    · rw [g5 _ (by omega), g4 _ (by omega), g3 _ (by omega), g2 _ (by omega), e1 i hi, upM_ne (by omega)]
    · rw [g5 _ (by omega), g4 _ (by omega), g3 _ (by omega), e2 i hi, g1 _ (by omega), upM_ne (by omega)]
    · rw [g5 _ (by omega), g4 _ (by omega), e3 i hi, g2 _ (by omega), g1 _ (by omega), upM_ne (by omega)]
    · rw [g5 _ (by omega), e4 i hi, g3 _ (by omega), g2 _ (by omega), g1 _ (by omega), upM_ne (by omega)]
    · rw [e5 i hi, g4 _ (by omega), g3 _ (by omega), g2 _ (by omega), g1 _ (by omega), upM_ne (by omega)]
theorem slotLv {j : Nat} (h : j < 5) : isLv (18 + 7 * j) ∧ gt 17 j = 18 + 7 * j := by
  have h5 : j = 0 ∨ j = 1 ∨ j = 2 ∨ j = 3 ∨ j = 4 := by omega
  rcases h5 with rfl | rfl | rfl | rfl | rfl <;> exact ⟨isLv_all _ (by decide), rfl⟩
def KC (nx K N : Nat) (μ μ' : Mem) : Prop := μ' 16 1 = nI ((nx + 1) % 5) ∧ μ' 16 2 = nI (min (K + 1) 5) ∧ (CS μ' nx).1 = nI N ∧ Eq5 N (CS μ' nx) (CL μ) ∧ ∀ j, j < 5 → j ≠ nx → CS μ' j = CS μ j
theorem cl_keep {nx K N : Nat} {μ : Mem} (hnx : nx < 5) (hK : K ≤ 5) (h1 : μ 16 1 = nI nx) (h2 : μ 16 2 = nI K) (h9 : μ 9 6 = nI N) (hN : N ≤ 40) : ∃ μ', fX2_keep FF μ = some μ' ∧ (∀ k, k ≠ 16 → (k < 18 ∨ 53 ≤ k) → μ' k = μ k) ∧ KC nx K N μ μ' := by
  obtain ⟨q1, q2⟩ := slotLv hnx
  obtain ⟨m, f1, f2, f3, f4⟩ := c_become (μ := μ) q1 isLv_9 (by omega) h9 hN
  have e16 : m 16 = μ 16 := f2 16 (by omega)
  have step : ∀ z, z = nI ((nx + 1) % 5) → fX2_keep_34 FF z m = some (upM m 16 (upd (upd (μ 16) 1 z) 2 (nI (min (K + 1) 5)))) := by
    intro z hz
    unfold fX2_keep_34
    rw [st_n, st_n, upM_upM, upM_self, e16]
    have e : imin ((upd (μ 16) 1 z 2) + 1) 5 = nI (min (K + 1) 5) := by
      rw [upd_ne (by decide), h2, nI_add1, show (5 : Int32) = nI 5 from rfl, imin_n (by omega) (by omega)]
    rw [e]
  refine ⟨upM m 16 (upd (upd (μ 16) 1 (nI ((nx + 1) % 5))) 2 (nI (min (K + 1) 5))), ?_, fun k hk hk2 => ?_, ?_, ?_, ?_, fun i hi => ?_, fun j hj hjn => ?_⟩
  · unfold fX2_keep
    rw [h1, rr_n (by show nx < 5; omega), q2, f1, cav_n, e16, h1, nI_add1, show (5 : Int32) = nI 5 from rfl, ifle (by omega) (by omega)]
    by_cases h : 5 ≤ nx + 1
    · rw [if_pos h, step 0 (by rw [show (nx + 1) % 5 = 0 by omega]; rfl), show nI ((nx + 1) % 5) = 0 from by rw [show (nx + 1) % 5 = 0 by omega]; rfl]
    · rw [if_neg h, step _ (by rw [show (nx + 1) % 5 = nx + 1 by omega]), show (nx + 1) % 5 = nx + 1 by omega]
  · rw [upM_ne hk, f2 k (by omega)]
  · rw [upM_self, upd_ne (by decide), upd_s]
  · rw [upM_self, upd_s]
  · show upM m 16 _ (18 + 7 * nx) 6 = _
    rw [upM_ne (by omega)]; exact f3
  · have g : ∀ c, c < 5 → upM m 16 (upd (upd (μ 16) 1 (nI ((nx + 1) % 5))) 2 (nI (min (K + 1) 5))) (19 + c + 7 * nx) i = μ (10 + c) i := fun c hc => by
      rw [upM_ne (by omega), show 19 + c + 7 * nx = 18 + 7 * nx + 1 + c by omega, f4 c hc i hi, show 9 + 1 + c = 10 + c by omega]
    exact ⟨g 0 (by omega), g 1 (by omega), g 2 (by omega), g 3 (by omega), g 4 (by omega)⟩
  · unfold CS
    rw [upM_ne (by omega), upM_ne (by omega), upM_ne (by omega), upM_ne (by omega), upM_ne (by omega), upM_ne (by omega), f2 _ (by omega), f2 _ (by omega), f2 _ (by omega), f2 _ (by omega), f2 _ (by omega), f2 _ (by omega)]
def MS (k : Nat) (μ μ' : Mem) : Prop := (MT μ' k).1 = (MT μ k).1 ∧ Eq5 40 (MT μ' k) (MT μ k)
theorem MS.tr {k : Nat} {a b c : Mem} (h1 : MS k a b) (h2 : MS k b c) : MS k a c := ⟨h2.1.trans h1.1, h2.2.tr h1.2⟩
theorem MS.rf {k : Nat} {a : Mem} : MS k a a := ⟨rfl, fun _ _ => ⟨rfl, rfl, rfl, rfl, rfl⟩⟩
theorem Eq5.less {n N : Nat} {a b : LT} (h : Eq5 N a b) (hn : n ≤ N) : Eq5 n a b := fun i hi => h i (by omega)
theorem MS.of {k : Nat} {μ μ' : Mem} (h : MT μ' k = MT μ k) : MS k μ μ' := ⟨by rw [h], fun _ _ => by rw [h]; exact ⟨rfl, rfl, rfl, rfl, rfl⟩⟩
def cpm (a b i : Nat) (f : Nat → Int32) : Nat → Int32 := fun x => if 40 * b ≤ x ∧ x < 40 * b + i then f (40 * a + (x - 40 * b)) else f x
theorem cpm_0 {a b : Nat} {f : Nat → Int32} : cpm a b 0 f = f := funext fun x => if_neg (by omega)
theorem cpm_s {a b i : Nat} {f : Nat → Int32} (hab : a ≠ b) (hi : i < 40) : upd (cpm a b i f) (40 * b + i) (cpm a b i f (40 * a + i)) = cpm a b (i + 1) f := by
  have e : cpm a b i f (40 * a + i) = f (40 * a + i) := if_neg (by omega)
  rw [e]
  funext x
  unfold upd cpm
  by_cases h1 : x = 40 * b + i
  · rw [if_pos h1, if_pos (by omega), h1, show 40 * b + i - 40 * b = i by omega]
  · rw [if_neg h1]
    by_cases h2 : 40 * b ≤ x ∧ x < 40 * b + i
    · rw [if_pos h2, if_pos (by omega)]
    · rw [if_neg h2, if_neg (by omega)]
def cpA (a b i : Nat) (μ : Mem) : Mem := upM (upM (upM (upM (upM μ 95 (cpm a b i (μ 95))) 96 (cpm a b i (μ 96))) 97 (cpm a b i (μ 97))) 98 (cpm a b i (μ 98))) 99 (cpm a b i (μ 99))
theorem cpA_o {a b i k : Nat} {μ : Mem} (h : k < 95 ∨ 100 ≤ k) : cpA a b i μ k = μ k := by
  unfold cpA
  rw [upM_ne (by omega), upM_ne (by omega), upM_ne (by omega), upM_ne (by omega), upM_ne (by omega)]
theorem cpA_i {a b i k : Nat} {μ : Mem} (h : 95 ≤ k ∧ k < 100) : cpA a b i μ k = cpm a b i (μ k) := by
  have h5 : k = 95 ∨ k = 96 ∨ k = 97 ∨ k = 98 ∨ k = 99 := by omega
  rcases h5 with rfl | rfl | rfl | rfl | rfl <;> rfl
theorem upM_ext {μ μ' : Mem} (h : ∀ k, μ k = μ' k) : μ = μ' := funext h
theorem cpA_step {a b i : Nat} {μ : Mem} (hab : a ≠ b) (hi : i < 40) : upM (upM (upM (upM (upM (cpA a b i μ) 95 (upd (cpA a b i μ 95) (40 * b + i) (cpA a b i μ 95 (40 * a + i)))) 96 (upd (cpA a b i μ 96) (40 * b + i) (cpA a b i μ 96 (40 * a + i)))) 97 (upd (cpA a b i μ 97) (40 * b + i) (cpA a b i μ 97 (40 * a + i)))) 98 (upd (cpA a b i μ 98) (40 * b + i) (cpA a b i μ 98 (40 * a + i)))) 99 (upd (cpA a b i μ 99) (40 * b + i) (cpA a b i μ 99 (40 * a + i))) = cpA a b (i + 1) μ := by
  apply upM_ext
  intro k
  by_cases h : 95 ≤ k ∧ k < 100
  · rw [cpA_i h]
    have h5 : k = 95 ∨ k = 96 ∨ k = 97 ∨ k = 98 ∨ k = 99 := by omega
    rcases h5 with rfl | rfl | rfl | rfl | rfl <;> exact cpm_s hab hi
  · rw [upM_ne (by omega), upM_ne (by omega), upM_ne (by omega), upM_ne (by omega), upM_ne (by omega), cpA_o (by omega), cpA_o (by omega)]
theorem m_cpa_loop {F a b N : Nat} {μ : Mem} (ha : a < 6) (hb : b < 6) (hab : a ≠ b) (hN : N ≤ 40) (h : μ 94 a = nI N) : ∀ (d n i : Nat), i + d = N → d < n → fX9_copyAll_14 F n (nI a) (nI b) (nI i) (cpA a b i μ) = some (cpA a b N μ) := by
  intro d
  induction d with
  | zero =>
    intro n i hi hn
    obtain ⟨n, rfl⟩ : ∃ n', n = n' + 1 := ⟨n - 1, by omega⟩
    show fX9_copyAll_14_b F _ _ _ _ _ = _
    unfold fX9_copyAll_14_b
    rw [rd_n (by show a < 6; omega), cpA_o (by omega), h, if_pos (nI_le (by omega) (by omega)), show i = N by omega]
  | succ d ih =>
    intro n i hi hn
    obtain ⟨n, rfl⟩ : ∃ n', n = n' + 1 := ⟨n - 1, by omega⟩
    show fX9_copyAll_14_b F _ _ _ _ _ = _
    unfold fX9_copyAll_14_b
    rw [rd_n (by show a < 6; omega), cpA_o (by omega), h, if_neg (nI_ge (by omega) (by omega))]
    rw [mul40, mul40, rd_n (by show _ < 240; omega), wr_n (by show _ < 240; omega), rd_n (by show _ < 240; omega), wr_n (by show _ < 240; omega), rd_n (by show _ < 240; omega), wr_n (by show _ < 240; omega), rd_n (by show _ < 240; omega), wr_n (by show _ < 240; omega), rd_n (by show _ < 240; omega), wr_n (by show _ < 240; omega), nI_add1]
    have e := cpA_step (μ := μ) hab (show i < 40 by omega)
    exact (congrArg (fun m => fX9_copyAll_14 F n (nI a) (nI b) (nI (i + 1)) m) e).trans (ih n (i + 1) (by omega) (by omega))
theorem cpA_0 {a b : Nat} {μ : Mem} : cpA a b 0 μ = μ := by
  apply upM_ext
  intro k
  by_cases h : 95 ≤ k ∧ k < 100
  · rw [cpA_i h, cpm_0]
  · rw [cpA_o (by omega)]
theorem m_copyAll {a b N : Nat} {μ : Mem} (ha : a < 6) (hb : b < 6) (hab : a ≠ b) (hN : N ≤ 40) (h : μ 94 a = nI N) : ∃ μ', fX9_copyAll FF (nI a) (nI b) μ = some μ' ∧ Ag [94, 95, 96, 97, 98, 99] [] μ μ' ∧ (MT μ' b).1 = nI N ∧ Eq5 N (MT μ' b) (MT μ a) ∧ ∀ k, k ≠ b → MS k μ μ' := by
  refine ⟨cpA a b N (upM μ 94 (upd (μ 94) b (nI N))), ?_, ⟨fun k h9 hk => ?_, fun j _ => ?_⟩, ?_, fun i hi => ?_, fun k hk => ⟨?_, fun i hi => ?_⟩⟩
  · unfold fX9_copyAll
    rw [rd_n (by show a < 6; omega), wr_n (by show b < 6; omega), h]
    have hl := m_cpa_loop (F := FF) (μ := upM μ 94 (upd (μ 94) b (nI N))) ha hb hab hN (by rw [upM_self, upd_ne hab]; exact h) N FF 0 (by omega) (by rw [FF_e]; omega)
    rw [cpA_0] at hl
    exact hl
  · have hk2 : k < 94 ∨ 100 ≤ k := by
      have : k ≠ 94 ∧ k ≠ 95 ∧ k ≠ 96 ∧ k ≠ 97 ∧ k ≠ 98 ∧ k ≠ 99 := by simpa using hk
      omega
    rw [cpA_o (by omega), upM_ne (by omega)]
  · rw [cpA_o (by omega), upM_ne (by omega)]
  · show cpA a b N (upM μ 94 (upd (μ 94) b (nI N))) 94 b = nI N
    rw [cpA_o (by omega), upM_self, upd_s]
  · have g : ∀ c, 95 ≤ c → c < 100 → cpA a b N (upM μ 94 (upd (μ 94) b (nI N))) c (40 * b + i) = μ c (40 * a + i) := fun c h1 h2 => by
      rw [cpA_i ⟨h1, h2⟩, upM_ne (by omega)]
      unfold cpm
      rw [if_pos (by omega), show 40 * b + i - 40 * b = i by omega]
    exact ⟨g 95 (by omega) (by omega), g 96 (by omega) (by omega), g 97 (by omega) (by omega), g 98 (by omega) (by omega), g 99 (by omega) (by omega)⟩
  · show cpA a b N (upM μ 94 (upd (μ 94) b (nI N))) 94 k = μ 94 k
    rw [cpA_o (by omega), upM_self, upd_ne hk]
  · have g : ∀ c, 95 ≤ c → c < 100 → cpA a b N (upM μ 94 (upd (μ 94) b (nI N))) c (40 * k + i) = μ c (40 * k + i) := fun c h1 h2 => by
      rw [cpA_i ⟨h1, h2⟩, upM_ne (by omega)]
      unfold cpm
      rw [if_neg (by omega)]
    exact ⟨g 95 (by omega) (by omega), g 96 (by omega) (by omega), g 97 (by omega) (by omega), g 98 (by omega) (by omega), g 99 (by omega) (by omega)⟩
