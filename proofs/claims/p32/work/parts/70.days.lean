section
/-! the day -/
theorem wr_x {μ : Mem} {k i : Nat} (v : Int32) (h : i < ln k) : ∃ m' : Mem, (∀ {α : Type} (f : Mem → Option α), wr μ k (nI i) v f = f m') ∧ m' k i = v ∧ (∀ j, j ≠ i → m' k j = μ k j) ∧ ∀ c, c ≠ k → m' c = μ c :=
  ⟨upM μ k (upd (μ k) i v), fun f => wr_n h, by rw [upM_self, upd_s], fun j hj => by rw [upM_self, upd_ne hj], fun c hc => upM_ne hc⟩
theorem imax_ge {a b : Int32} : (if b ≤ a then a else b) = imax a b := by
  unfold imax
  by_cases h : a < b
  · rw [if_pos h, if_neg]
    rw [Int32.le_iff_toInt_le]
    rw [Int32.lt_iff_toInt_lt] at h
    omega
  · rw [if_neg h, if_pos]
    rw [Int32.le_iff_toInt_le]
    rw [Int32.lt_iff_toInt_lt] at h
    omega
def dSt (l : Nat) (x mf ov : Int32) : Int32 := if l = 0 then imax mf (ov - x) else mf
/-- behind each place: when the mixer is free, when the oven is, when each loaf goes in -/
def dy (l m : Nat) (X B : Nat → Int32) : Nat → Int32 × Int32 × (Nat → Int32)
  | 0 => (0, 0, zz)
  | i + 1 => (if l = 2 then (if i < m then dSt l (X i) (dy l m X B i).1 (dy l m X B i).2.1 + X i else imax (dSt l (X i) (dy l m X B i).1 (dy l m X B i).2.1 + X i) ((dy l m X B i).2.2 (i - m))) else dSt l (X i) (dy l m X B i).1 (dy l m X B i).2.1 + X i, imax (dSt l (X i) (dy l m X B i).1 (dy l m X B i).2.1 + X i) (dy l m X B i).2.1 + B i, upd (dy l m X B i).2.2 i (imax (dSt l (X i) (dy l m X B i).1 (dy l m X B i).2.1 + X i) (dy l m X B i).2.1))
def sA (l m : Nat) (X B : Nat → Int32) (i : Nat) : Int32 := dSt l (X i) (dy l m X B i).1 (dy l m X B i).2.1
def sB (l m : Nat) (X B : Nat → Int32) (i : Nat) : Int32 := sA l m X B i + X i
def sC (l m : Nat) (X B : Nat → Int32) (i : Nat) : Int32 := imax (sB l m X B i) (dy l m X B i).2.1
theorem dy_1 {l m : Nat} {X B : Nat → Int32} {i : Nat} : (dy l m X B (i + 1)).1 = if l = 2 then (if i < m then sB l m X B i else imax (sB l m X B i) ((dy l m X B i).2.2 (i - m))) else sB l m X B i := rfl
theorem dy_2 {l m : Nat} {X B : Nat → Int32} {i : Nat} : (dy l m X B (i + 1)).2.1 = sC l m X B i + B i := rfl
theorem dy_3 {l m : Nat} {X B : Nat → Int32} : ∀ {i j : Nat}, j < i → (dy l m X B i).2.2 j = sC l m X B j
  | 0, _, h => by omega
  | i + 1, j, h => by
    show upd (dy l m X B i).2.2 i (sC l m X B i) j = _
    by_cases e : j = i
    · rw [e, upd_s]
    · rw [upd_ne e]
      exact dy_3 (by omega)
def KN (l m : Nat) (X B : Nat → Int32) (i : Nat) (μ : Mem) : Prop := ∀ p, p < i → μ 56 p = sA l m X B p ∧ μ 57 p = sB l m X B p ∧ μ 58 p = sC l m X B p ∧ μ 59 p = (dy l m X B (p + 1)).2.1 ∧ μ 60 p = (dy l m X B (p + 1)).1
theorem c_lay {l m : Nat} {X B : Nat → Int32} {i : Nat} {μ : Mem} (hi : i < 40) (hl : l ≤ 2) (hm : m ≤ 5) (h2 : l = 2 → 1 ≤ m) (h5 : μ 55 5 = nI l) (h6 : μ 55 6 = nI m) (hk : KN l m X B i μ) : ∃ μ', fX1_lay FF (nI i) (X i) (B i) μ = some μ' ∧ (∀ k, k < 56 ∨ 60 < k → μ' k = μ k) ∧ KN l m X B (i + 1) μ' := by
  have e1 : fX1_lay FF (nI i) (X i) (B i) μ = fX1_lay_16 FF (nI i) (X i) (B i) (dy l m X B i).1 μ := by
    unfold fX1_lay
    by_cases h0 : i = 0
    · subst h0
      rw [if_pos (show nI 0 = 0 from rfl)]
      rfl
    · rw [if_neg (show ¬ nI i = (0 : Int32) from fun q => h0 (nI_inj (b := 0) (by omega) (by omega) q)), show (1 : Int32) = nI 1 from rfl, nI_sub (by omega), rd_n (by show _ < 40; omega), (hk (i - 1) (by omega)).2.2.2.2, show i - 1 + 1 = i by omega]
  have e2 : fX1_lay_16 FF (nI i) (X i) (B i) (dy l m X B i).1 μ = fX1_lay_34 FF (nI i) (X i) (B i) (dy l m X B i).1 (dy l m X B i).2.1 μ := by
    unfold fX1_lay_16
    by_cases h0 : i = 0
    · subst h0
      rw [if_pos (show nI 0 = 0 from rfl)]
      rfl
    · rw [if_neg (show ¬ nI i = (0 : Int32) from fun q => h0 (nI_inj (b := 0) (by omega) (by omega) q)), show (1 : Int32) = nI 1 from rfl, nI_sub (by omega), rd_n (by show _ < 40; omega), (hk (i - 1) (by omega)).2.2.2.1, show i - 1 + 1 = i by omega]
  have e3 : fX1_lay_34 FF (nI i) (X i) (B i) (dy l m X B i).1 (dy l m X B i).2.1 μ = fX1_lay_62 FF (nI i) (X i) (B i) (dy l m X B i).2.1 (sA l m X B i) (nI i) μ := by
    unfold fX1_lay_34 sA dSt
    rw [h5, show (0 : Int32) = nI 0 from rfl, ifeq (by omega) (by omega)]
    by_cases h0 : l = 0
    · rw [if_pos h0, if_pos h0]
    · rw [if_neg h0, if_neg h0]
  rw [e1, e2, e3]
  obtain ⟨m3, f3, a3, b3, g3⟩ := wr_x (μ := μ) (k := 56) (i := i) (sA l m X B i) hi
  obtain ⟨m5, f5, a5, b5, g5⟩ := wr_x (μ := m3) (k := 57) (i := i) (sB l m X B i) hi
  obtain ⟨m7, f7, a7, b7, g7⟩ := wr_x (μ := m5) (k := 58) (i := i) (sC l m X B i) hi
  obtain ⟨m9, f9, a9, b9, g9⟩ := wr_x (μ := m7) (k := 59) (i := i) (sC l m X B i + B i) hi
  obtain ⟨m11, f11, a11, b11, g11⟩ := wr_x (μ := m9) (k := 60) (i := i) (sB l m X B i) hi
  have s1 : fX1_lay_62 FF (nI i) (X i) (B i) (dy l m X B i).2.1 (sA l m X B i) (nI i) μ = (if (m11 55 5) = 2 then (if nI i < (m11 55 6) then some m11 else rd m11 57 (nI i) (fun v12 => rd m11 58 (nI i - (m11 55 6)) (fun v13 => wr m11 60 (nI i) (imax v12 v13) (fun m14 => some m14)))) else some m11) := by
    unfold fX1_lay_62
    rw [f3, rd_n (by exact hi), a3, show sA l m X B i + X i = sB l m X B i from rfl, f5, rd_n (by exact hi), a5, show imax (sB l m X B i) (dy l m X B i).2.1 = sC l m X B i from rfl, f7, rd_n (by exact hi), a7, f9, rd_n (by exact hi), g9 57 (by omega), g7 57 (by omega), a5, f11]
  have q11 : ∀ k, k < 56 ∨ 60 < k → m11 k = μ k := fun k h => by rw [g11 k (by omega), g9 k (by omega), g7 k (by omega), g5 k (by omega), g3 k (by omega)]
  have r56 : ∀ j, m11 56 j = m3 56 j := fun j => by rw [g11 56 (by omega), g9 56 (by omega), g7 56 (by omega), g5 56 (by omega)]
  have r57 : ∀ j, m11 57 j = m5 57 j := fun j => by rw [g11 57 (by omega), g9 57 (by omega), g7 57 (by omega)]
  have r58 : ∀ j, m11 58 j = m7 58 j := fun j => by rw [g11 58 (by omega), g9 58 (by omega)]
  have r59 : ∀ j, m11 59 j = m9 59 j := fun j => by rw [g11 59 (by omega)]
  have old : ∀ p, p < i → m11 56 p = sA l m X B p ∧ m11 57 p = sB l m X B p ∧ m11 58 p = sC l m X B p ∧ m11 59 p = (dy l m X B (p + 1)).2.1 ∧ m11 60 p = (dy l m X B (p + 1)).1 := fun p hp => by
    obtain ⟨o1, o2, o3, o4, o5⟩ := hk p hp
    refine ⟨?_, ?_, ?_, ?_, ?_⟩
    · rw [r56, b3 p (by omega)]; exact o1
    · rw [r57, b5 p (by omega), g3 57 (by omega)]; exact o2
    · rw [r58, b7 p (by omega), g5 58 (by omega), g3 58 (by omega)]; exact o3
    · rw [r59, b9 p (by omega), g7 59 (by omega), g5 59 (by omega), g3 59 (by omega)]; exact o4
    · rw [b11 p (by omega), g9 60 (by omega), g7 60 (by omega), g5 60 (by omega), g3 60 (by omega)]; exact o5
  rw [s1, q11 55 (by omega), h5, h6, show (2 : Int32) = nI 2 from rfl, ifeq (by omega) (by omega), iflt (by omega) (by omega)]
  by_cases hc : l = 2 ∧ ¬ i < m
  · have h1m := h2 hc.1
    rw [if_pos hc.1, if_neg hc.2, rd_n (by exact hi), nI_sub (by omega), rd_n (by show i - m < 40; omega), r57, a5, (old (i - m) (by omega)).2.2.1]
    obtain ⟨m14, f14, a14, b14, g14⟩ := wr_x (μ := m11) (k := 60) (i := i) (imax (sB l m X B i) (sC l m X B (i - m))) hi
    rw [f14]
    refine ⟨m14, rfl, fun k h => by rw [g14 k (by omega), q11 k h], fun p hp => ?_⟩
    rw [g14 56 (by omega), g14 57 (by omega), g14 58 (by omega), g14 59 (by omega)]
    by_cases hpi : p = i
    · subst hpi
      refine ⟨by rw [r56, a3], by rw [r57, a5], by rw [r58, a7], by rw [r59, a9, dy_2], ?_⟩
      rw [a14, dy_1, if_pos hc.1, if_neg hc.2, dy_3 (by omega)]
    · obtain ⟨o1, o2, o3, o4, o5⟩ := old p (by omega)
      exact ⟨o1, o2, o3, o4, by rw [b14 p hpi]; exact o5⟩
  · have res : (if l = 2 then (if i < m then some m11 else rd m11 57 (nI i) (fun v12 => rd m11 58 (nI i - nI m) (fun v13 => wr m11 60 (nI i) (imax v12 v13) (fun m14 => some m14)))) else some m11) = some m11 := by
      by_cases q : l = 2
      · have : i < m := by omega
        rw [if_pos q, if_pos this]
      · rw [if_neg q]
    rw [res]
    refine ⟨m11, rfl, q11, fun p hp => ?_⟩
    by_cases hpi : p = i
    · subst hpi
      refine ⟨by rw [r56, a3], by rw [r57, a5], by rw [r58, a7], by rw [r59, a9, dy_2], ?_⟩
      rw [a11, dy_1]
      by_cases q : l = 2
      · have : p < m := by omega
        rw [if_pos q, if_pos this]
      · rw [if_neg q]
    · exact old p (by omega)
/-- what a row of loaves asks of both -/
def RowC (N : Nat) (k2 : Nat) (X B : Nat → Int32) (μ : Mem) : Prop := μ 9 6 = nI N ∧ ∀ p, p < N → ∃ s, s < 40 ∧ μ k2 p = nI s ∧ μ 10 s = X p ∧ μ 11 s = B p
theorem c_end_loop {N l m k2 : Nat} {X B : Nat → Int32} (hN : N ≤ 40) (hk2 : N ≤ ln k2) (hkk : k2 < 56 ∨ 60 < k2) (hl : l ≤ 2) (hm : m ≤ 5) (h2 : l = 2 → 1 ≤ m) : ∀ (d n i : Nat) (μ : Mem), i + d = N → d < n → RowC N k2 X B μ → μ 55 5 = nI l → μ 55 6 = nI m → KN l m X B i μ → ∃ μ', fX1_endOf_3 FF k2 n (nI i) μ = some ((dy l m X B N).2.1, μ') ∧ (∀ k, k < 56 ∨ 60 < k → μ' k = μ k) ∧ KN l m X B N μ' := by
  intro d
  induction d with
  | zero =>
    intro n i μ hi hn hR h5 h6 hK
    obtain ⟨n, rfl⟩ : ∃ n', n = n' + 1 := ⟨n - 1, by omega⟩
    obtain rfl : i = N := by omega
    refine ⟨μ, ?_, fun _ _ => rfl, hK⟩
    show fX1_endOf_3_b FF k2 _ _ μ = _
    unfold fX1_endOf_3_b
    rw [hR.1, if_pos (nI_le (by omega) (by omega)), show (0 : Int32) = nI 0 from rfl, ifeq (by omega) (by omega)]
    by_cases h0 : i = 0
    · subst h0
      rw [if_pos rfl]
      rfl
    · rw [if_neg h0, show (1 : Int32) = nI 1 from rfl, nI_sub (by omega), rd_n (by show _ < 40; omega), (hK (i - 1) (by omega)).2.2.2.1, show i - 1 + 1 = i by omega]
  | succ d ih =>
    intro n i μ hi hn hR h5 h6 hK
    obtain ⟨n, rfl⟩ : ∃ n', n = n' + 1 := ⟨n - 1, by omega⟩
    obtain ⟨s, s1, s2, s3, s4⟩ := hR.2 i (by omega)
    obtain ⟨μ1, a1, a2, a3⟩ := c_lay (B := B) (show i < 40 by omega) hl hm h2 h5 h6 hK
    have hR1 : RowC N k2 X B μ1 := by
      unfold RowC
      rw [a2 9 (by omega), a2 k2 hkk, a2 10 (by omega), a2 11 (by omega)]
      exact hR
    obtain ⟨μ2, b1, b2, b3⟩ := ih n (i + 1) μ1 (by omega) (by omega) hR1 (by rw [a2 55 (by omega)]; exact h5) (by rw [a2 55 (by omega)]; exact h6) a3
    refine ⟨μ2, ?_, fun k h => by rw [b2 k h, a2 k h], b3⟩
    show fX1_endOf_3_b FF k2 _ _ μ = _
    unfold fX1_endOf_3_b
    rw [hR.1, if_neg (nI_ge (by omega) (by omega)), rd_n (by omega), s2, rd_n (by exact s1), s3, rd_n (by omega), s2, rd_n (by exact s1), s4, a1, cav_n, nI_add1]
    exact b1
def RowM (N : Nat) (k1 : Nat) (X B : Nat → Int32) (μ : Mem) : Prop := μ 94 0 = nI N ∧ ∀ p, p < N → ∃ s, s < 40 ∧ μ k1 p = nI s ∧ μ 95 s = X p ∧ μ 96 s = B p
def KM2 (l m : Nat) (X B : Nat → Int32) (i : Nat) (μ : Mem) : Prop := ∀ p, p < i → μ 103 p = sA l m X B p ∧ μ 104 p = sC l m X B p
theorem m_end_loop {N l m k1 : Nat} {X B : Nat → Int32} (hN : N ≤ 40) (hk1 : N ≤ ln k1) (hkk : k1 < 103 ∨ 104 < k1) (hl : l ≤ 2) (hm : m ≤ 5) (h2 : l = 2 → 1 ≤ m) : ∀ (d n i : Nat) (μ : Mem), i + d = N → d < n → RowM N k1 X B μ → KM2 l m X B i μ → ∃ μ', fX9_endOf_9 FF k1 n (nI l) (nI m) (dy l m X B i).1 (dy l m X B i).2.1 (nI i) μ = some ((dy l m X B N).2.1, μ') ∧ (∀ k, k < 103 ∨ 104 < k → μ' k = μ k) ∧ KM2 l m X B N μ' := by
  intro d
  induction d with
  | zero =>
    intro n i μ hi hn hR hK
    obtain ⟨n, rfl⟩ : ∃ n', n = n' + 1 := ⟨n - 1, by omega⟩
    obtain rfl : i = N := by omega
    refine ⟨μ, ?_, fun _ _ => rfl, hK⟩
    show fX9_endOf_9_b FF k1 _ _ _ _ _ _ μ = _
    unfold fX9_endOf_9_b
    rw [show (0 : Int32) = nI 0 from rfl, rd_n (by decide), hR.1, if_pos (nI_le (by omega) (by omega))]
  | succ d ih =>
    intro n i μ hi hn hR hK
    obtain ⟨n, rfl⟩ : ∃ n', n = n' + 1 := ⟨n - 1, by omega⟩
    obtain ⟨s, s1, s2, s3, s4⟩ := hR.2 i (by omega)
    have l95 : s < ln 95 := by show s < 240; omega
    have l96 : s < ln 96 := by show s < 240; omega
    have i40 : i < 40 := by omega
    obtain ⟨m6, f6, a6, b6, g6⟩ := wr_x (μ := μ) (k := 103) (i := i) (sA l m X B i) i40
    obtain ⟨m7, f7, a7, b7, g7⟩ := wr_x (μ := m6) (k := 104) (i := i) (sC l m X B i) i40
    have q7 : ∀ k, k < 103 ∨ 104 < k → m7 k = μ k := fun k h => by rw [g7 k (by omega), g6 k (by omega)]
    have hR1 : RowM N k1 X B m7 := by
      unfold RowM
      rw [q7 94 (by omega), q7 k1 hkk, q7 95 (by omega), q7 96 (by omega)]
      exact hR
    have hK1 : KM2 l m X B (i + 1) m7 := fun p hp => by
      by_cases hpi : p = i
      · subst hpi
        exact ⟨by rw [g7 103 (by omega), a6], a7⟩
      · obtain ⟨o1, o2⟩ := hK p (by omega)
        exact ⟨by rw [g7 103 (by omega), b6 p hpi]; exact o1, by rw [b7 p hpi, g6 104 (by omega)]; exact o2⟩
    obtain ⟨μ2, c1, c2, c3⟩ := ih n (i + 1) m7 (by omega) (by omega) hR1 hK1
    refine ⟨μ2, ?_, fun k h => by rw [c2 k h, q7 k h], c3⟩
    have t88 : fX9_endOf_88 FF k1 (fX9_endOf_9 FF k1 n) (nI l) (nI m) (nI i) (nI s) (sA l m X B i) (sB l m X B i) (sC l m X B i) μ = fX9_endOf_9 FF k1 n (nI l) (nI m) (dy l m X B (i + 1)).1 (dy l m X B (i + 1)).2.1 (nI (i + 1)) m7 := by
      unfold fX9_endOf_88
      rw [f6, f7, rd_n l96, q7 96 (by omega), s4, show sC l m X B i + B i = (dy l m X B (i + 1)).2.1 from rfl, nI_add1, show (2 : Int32) = nI 2 from rfl, ifeq (by omega) (by omega), iflt (by omega) (by omega), dy_1]
      by_cases q : l = 2
      · have h1m := h2 q
        rw [if_pos q, if_pos q]
        by_cases q2 : i < m
        · rw [if_pos q2, if_pos q2]
        · rw [if_neg q2, if_neg q2, nI_sub (by omega), rd_n (by show i - m < 40; omega), rd_n (by show i - m < 40; omega), (hK1 (i - m) (by omega)).2, dy_3 (by omega), ← imax_ge]
          by_cases q3 : sC l m X B (i - m) ≤ sB l m X B i
          · rw [if_pos q3, if_pos q3]
          · rw [if_neg q3, if_neg q3]
      · rw [if_neg q, if_neg q]
    have t60 : fX9_endOf_60 FF k1 (fX9_endOf_9 FF k1 n) (nI l) (nI m) (dy l m X B i).2.1 (nI i) (nI s) (sA l m X B i) μ = fX9_endOf_9 FF k1 n (nI l) (nI m) (dy l m X B (i + 1)).1 (dy l m X B (i + 1)).2.1 (nI (i + 1)) m7 := by
      unfold fX9_endOf_60
      rw [rd_n l95, s3, show sA l m X B i + X i = sB l m X B i from rfl, ← t88, show sC l m X B i = imax (sB l m X B i) (dy l m X B i).2.1 from rfl, ← imax_le]
      by_cases q : sB l m X B i ≤ (dy l m X B i).2.1
      · rw [if_pos q, if_pos q]
      · rw [if_neg q, if_neg q]
    show fX9_endOf_9_b FF k1 _ _ _ _ _ _ μ = _
    unfold fX9_endOf_9_b
    rw [show (0 : Int32) = nI 0 from rfl, rd_n (by decide), hR.1, if_neg (nI_ge (by omega) (by omega)), rd_n (by omega), s2, ifeq (by omega) (by omega), ← c1, ← t60]
    have eA : sA l m X B i = if l = 0 then imax (dy l m X B i).1 ((dy l m X B i).2.1 - X i) else (dy l m X B i).1 := rfl
    by_cases q : l = 0
    · rw [if_pos q] at eA
      rw [if_pos q, rd_n l95, s3, rd_n l95, s3, eA, ← imax_ge]
      by_cases q2 : (dy l m X B i).2.1 - X i ≤ (dy l m X B i).1
      · rw [if_pos q2, if_pos q2]
      · rw [if_neg q2, if_neg q2]
    · rw [if_neg q] at eA
      rw [if_neg q, eA]
end
section
/-! laws, and what a day tells -/
variable {wq : Prop}
theorem law_or (a b : Int32) : (∃ l m, l ≤ 2 ∧ m ≤ 5 ∧ (l = 2 → 1 ≤ m) ∧ (l ≠ 2 → m = 0) ∧ a = nI l ∧ b = nI m ∧ (∀ μ, fX8_isLaw FF a b μ = some (1, μ)) ∧ ∀ μ, fX9_isLaw FF a b μ = some (1, μ)) ∨ ((∀ μ, fX8_isLaw FF a b μ = some (0, μ)) ∧ ∀ μ, fX9_isLaw FF a b μ = some (0, μ)) := by
  have m14 : ∀ μ, ¬ a = 2 → fX9_isLaw_14 FF a b μ = some (0, μ) := fun μ h => by
    unfold fX9_isLaw_14
    rw [if_neg h, zr_0]
  by_cases h2 : a = 2
  · subst h2
    by_cases hb : 1 ≤ b.toInt ∧ b.toInt ≤ 5
    · obtain ⟨m, hm⟩ : ∃ m : Nat, b.toInt = m := ⟨b.toInt.toNat, by omega⟩
      obtain rfl : b = nI m := of_toInt hm (by omega)
      refine Or.inl ⟨2, m, by omega, by omega, fun _ => by omega, fun h => absurd rfl h, rfl, rfl, fun μ => ?_, fun μ => ?_⟩
      · unfold fX8_isLaw
        rw [if_pos rfl, if_neg, if_neg, zr_1]
        · rw [Int32.lt_iff_toInt_lt, show (5 : Int32).toInt = 5 from rfl]; omega
        · rw [Int32.lt_iff_toInt_lt, toInt_1]; omega
      · unfold fX9_isLaw
        rw [m_in_g (la := 0) (lb := 1) rfl rfl, if_neg (show ¬ (0 ≤ (2 : Int32).toInt ∧ (2 : Int32).toInt ≤ 1) by decide), cal_n, if_pos rfl]
        unfold fX9_isLaw_14
        rw [if_pos rfl, m_in_g (la := 1) (lb := 5) rfl rfl, if_pos hb, cal_n, if_neg one_ne, zr_1]
    · refine Or.inr ⟨fun μ => ?_, fun μ => ?_⟩
      · unfold fX8_isLaw
        rw [if_pos rfl]
        by_cases q : b < 1
        · rw [if_pos q, zr_0]
        · rw [if_neg q, if_pos, zr_0]
          rw [Int32.lt_iff_toInt_lt, toInt_1] at q
          rw [Int32.lt_iff_toInt_lt, show (5 : Int32).toInt = 5 from rfl]
          omega
      · unfold fX9_isLaw
        rw [m_in_g (la := 0) (lb := 1) rfl rfl, if_neg (show ¬ (0 ≤ (2 : Int32).toInt ∧ (2 : Int32).toInt ≤ 1) by decide), cal_n, if_pos rfl]
        unfold fX9_isLaw_14
        rw [if_pos rfl, m_in_g (la := 1) (lb := 5) rfl rfl, if_neg hb, cal_n, if_pos rfl, zr_0]
  by_cases h01 : a = 0 ∨ a = 1
  · have hin : 0 ≤ a.toInt ∧ a.toInt ≤ 1 := by rcases h01 with rfl | rfl <;> decide
    by_cases hb : b = 0
    · subst hb
      refine Or.inl ⟨if a = 0 then 0 else 1, 0, ?_, by omega, fun h => ?_, fun _ => rfl, ?_, rfl, fun μ => ?_, fun μ => ?_⟩
      · by_cases q : a = 0
        · rw [if_pos q]; omega
        · rw [if_neg q]; omega
      · by_cases q : a = 0
        · rw [if_pos q] at h; omega
        · rw [if_neg q] at h; omega
      · rcases h01 with rfl | rfl <;> rfl
      · unfold fX8_isLaw fX8_isLaw_30
        rw [if_neg h2]
        by_cases q : a = 0
        · rw [if_pos q, if_pos rfl, zr_1]
        · rw [if_neg q, if_pos (by rcases h01 with h | h; exact absurd h q; exact h), if_pos rfl, zr_1]
      · unfold fX9_isLaw
        rw [m_in_g (la := 0) (lb := 1) rfl rfl, if_pos hin, cal_n, if_neg one_ne, if_pos rfl, zr_1]
    · refine Or.inr ⟨fun μ => ?_, fun μ => ?_⟩
      · unfold fX8_isLaw fX8_isLaw_30
        rw [if_neg h2]
        by_cases q : a = 0
        · rw [if_pos q, if_neg hb, zr_0]
        · rw [if_neg q, if_pos (by rcases h01 with h | h; exact absurd h q; exact h), if_neg hb, zr_0]
      · unfold fX9_isLaw
        rw [m_in_g (la := 0) (lb := 1) rfl rfl, if_pos hin, cal_n, if_neg one_ne, if_neg hb, m14 μ h2]
  · have hin : ¬ (0 ≤ a.toInt ∧ a.toInt ≤ 1) := fun q => by
      have : a.toInt = 0 ∨ a.toInt = 1 := by omega
      rcases this with h | h
      · exact h01 (Or.inl (of_toInt (n := 0) h (by omega)))
      · exact h01 (Or.inr (of_toInt (n := 1) h (by omega)))
    refine Or.inr ⟨fun μ => ?_, fun μ => ?_⟩
    · unfold fX8_isLaw
      rw [if_neg h2, if_neg (fun q => h01 (Or.inl q)), if_neg (fun q => h01 (Or.inr q)), zr_0]
    · unfold fX9_isLaw
      rw [m_in_g (la := 0) (lb := 1) rfl rfl, if_neg hin, cal_n, if_pos rfl, m14 μ h2]
theorem follow_n {l m : Nat} {μ : Mem} : ∃ μ', fX1_follow FF (nI l) (nI m) μ = some μ' ∧ (∀ k, k ≠ 55 → μ' k = μ k) ∧ μ' 55 5 = nI l ∧ μ' 55 6 = nI m := by
  refine ⟨upM μ 55 (upd (upd (μ 55) 5 (nI l)) 6 (nI m)), ?_, fun k hk => upM_ne hk, ?_, ?_⟩
  · unfold fX1_follow
    rw [st_n, st_n, upM_upM, upM_self]
  · rw [upM_self, upd_ne (by decide), upd_s]
  · rw [upM_self, upd_s]
/-- the class's day of a row -/
theorem c_day {N l m k2 : Nat} {X B : Nat → Int32} {μ : Mem} (hN : N ≤ 40) (hk2 : N ≤ ln k2) (hkk : k2 < 55 ∨ 60 < k2) (hl : l ≤ 2) (hm : m ≤ 5) (h2 : l = 2 → 1 ≤ m) (hR : RowC N k2 X B μ) : ∃ μ0 μ1, fX1_follow FF (nI l) (nI m) μ = some μ0 ∧ fX1_endOf FF k2 0 μ0 = some ((dy l m X B N).2.1, μ1) ∧ (∀ k, k < 55 ∨ 60 < k → μ1 k = μ k) ∧ KN l m X B N μ1 := by
  obtain ⟨μ0, a1, a2, a3, a4⟩ := follow_n (l := l) (m := m) (μ := μ)
  have hR0 : RowC N k2 X B μ0 := by
    unfold RowC
    rw [a2 9 (by omega), a2 k2 (by omega), a2 10 (by omega), a2 11 (by omega)]
    exact hR
  obtain ⟨μ1, b1, b2, b3⟩ := c_end_loop hN hk2 (by omega) hl hm h2 N FF 0 μ0 (by omega) (by rw [FF_e]; omega) hR0 a3 a4 (fun p hp => by omega)
  exact ⟨μ0, μ1, a1, b1, fun k h => by rw [b2 k (by omega), a2 k (by omega)], b3⟩
theorem m_day {N l m k1 : Nat} {X B : Nat → Int32} {μ : Mem} (hN : N ≤ 40) (hk1 : N ≤ ln k1) (hkk : k1 < 103 ∨ 104 < k1) (hl : l ≤ 2) (hm : m ≤ 5) (h2 : l = 2 → 1 ≤ m) (hR : RowM N k1 X B μ) : ∃ μ1, fX9_endOf FF k1 (nI l) (nI m) μ = some ((dy l m X B N).2.1, μ1) ∧ (∀ k, k < 103 ∨ 104 < k → μ1 k = μ k) ∧ KM2 l m X B N μ1 :=
  m_end_loop hN hk1 hkk hl hm h2 N FF 0 μ (by omega) (by rw [FF_e]; omega) hR (fun p hp => by omega)
theorem RelN.rowC {N k2 : Nat} {μ : Mem} {σ : Nat → Nat} (hL : RelN wq N (CL μ) (MT μ 0)) (hσ : ∀ p, p < N → σ p < N ∧ μ k2 p = nI (σ p)) : RowC N k2 (fun p => μ 10 (σ p)) (fun p => μ 11 (σ p)) μ :=
  ⟨hL.2.1, fun p hp => ⟨σ p, by have := (hσ p hp).1; have := hL.1; omega, (hσ p hp).2, rfl, rfl⟩⟩
theorem RelN.rowM {N k1 : Nat} {μ : Mem} {σ : Nat → Nat} (hL : RelN wq N (CL μ) (MT μ 0)) (hσ : ∀ p, p < N → σ p < N ∧ μ k1 p = nI (σ p)) : RowM N k1 (fun p => μ 10 (σ p)) (fun p => μ 11 (σ p)) μ :=
  ⟨hL.2.2.1, fun p hp => ⟨σ p, by have := (hσ p hp).1; have := hL.1; omega, (hσ p hp).2, (hL.eqs (hσ p hp).1).1.symm, (hL.eqs (hσ p hp).1).2.1.symm⟩⟩
/-- what no call of these looks at between two calls -/
theorem Inv.free {μ μ' : Mem} (hI : Inv wq μ) (h : ∀ k, (k < 55 ∨ 60 < k) → k ≠ 103 → k ≠ 104 → μ' k = μ k) : Inv wq μ' := by
  have g : Ag [55, 56, 57, 58, 59, 60, 103, 104] [] μ μ' := by
    refine ⟨fun k h9 hk => ?_, fun j _ => by rw [h 89 (by omega) (by omega) (by omega)]⟩
    simp only [List.mem_cons, List.not_mem_nil, or_false, not_or] at hk
    exact h k (by omega) (by omega) (by omega)
  obtain ⟨i1, i2, i3, i4, i5, i6⟩ := hI
  exact ⟨i1.ag g, i2.ag g, i3.ag g, i4.ag g (by rw [g.at 9]), i5.ag g, i6.ag g⟩
/-- the order's numbers on both sides -/
theorem RelN.sig {N : Nat} {μ : Mem} (hL : RelN wq N (CL μ) (MT μ 0)) : ∃ (σ σ' : Nat → Nat), (∀ p, p < N → σ p < N ∧ μ 14 p = nI (σ p)) ∧ (∀ p, p < N → σ' p < N ∧ μ 99 p = nI (σ' p)) ∧ (wq → σ' = σ) := by
  obtain ⟨σ, τ, s1, s2⟩ := hL.oks.2
  obtain ⟨σ', τ', g1, g2⟩ := hL.oko
  by_cases q : wq
  · exact ⟨σ, σ, fun p hp => ⟨(s1 p hp).1, (s1 p hp).2.1⟩, fun p hp => ⟨(s1 p hp).1, ((hL.eqs hp).2.2.2.2 q).symm.trans (s1 p hp).2.1⟩, fun _ => rfl⟩
  · exact ⟨σ, σ', fun p hp => ⟨(s1 p hp).1, (s1 p hp).2.1⟩, fun p hp => ⟨(g1 p hp).1, (g1 p hp).2.1⟩, fun h => absurd h q⟩
/-- the day of the order, on both sides -/
theorem day_both {l m : Nat} {μ : Mem} (hI : Inv wq μ) (hl : l ≤ 2) (hm : m ≤ 5) (h2 : l = 2 → 1 ≤ m) : ∃ (N : Nat) (σ σ' : Nat → Nat) (μ0 μ1 : Mem), (wq → σ' = σ) ∧ (∀ p, p < N → σ' p < N ∧ μ 99 p = nI (σ' p)) ∧ RelN wq N (CL μ) (MT μ 0) ∧ (∀ p, p < N → σ p < N ∧ μ 14 p = nI (σ p)) ∧ fX1_follow FF (nI l) (nI m) μ = some μ0 ∧ fX1_endOf FF 14 0 μ0 = some ((dy l m (fun p => μ 10 (σ p)) (fun p => μ 11 (σ p)) N).2.1, μ1) ∧ (∀ k, k < 55 ∨ 60 < k → μ1 k = μ k) ∧ KN l m (fun p => μ 10 (σ p)) (fun p => μ 11 (σ p)) N μ1 ∧
    ∃ μ2, fX9_endOf FF 99 (nI l) (nI m) μ1 = some ((dy l m (fun p => μ 10 (σ' p)) (fun p => μ 11 (σ' p)) N).2.1, μ2) ∧ (∀ k, k < 103 ∨ 104 < k → μ2 k = μ1 k) ∧ KM2 l m (fun p => μ 10 (σ' p)) (fun p => μ 11 (σ' p)) N μ2 := by
  obtain ⟨N, hL⟩ := hI.2.1
  obtain ⟨σ, σ', hσ, hσ', hq⟩ := hL.sig
  have hN := hL.1
  obtain ⟨μ0, μ1, a1, a2, a3, a4⟩ := c_day (l := l) (m := m) hN (show N ≤ ln 14 from hN) (by omega) hl hm h2 (hL.rowC hσ)
  have hR : RowM N 99 (fun p => μ 10 (σ' p)) (fun p => μ 11 (σ' p)) μ1 := by
    have := hL.rowM (k1 := 99) (σ := σ') hσ'
    unfold RowM at this ⊢
    rw [a3 94 (by omega), a3 99 (by omega), a3 95 (by omega), a3 96 (by omega)]
    exact this
  obtain ⟨μ2, b1, b2, b3⟩ := m_day (l := l) (m := m) hN (show N ≤ ln 99 by show N ≤ 240; omega) (by omega) hl hm h2 hR
  exact ⟨N, σ, σ', μ0, μ1, hq, hσ', hL, hσ, a1, a2, a3, a4, μ2, b1, b2, b3⟩
theorem op_day (a b : Int32) : OpW wq (fX8_day FF a b) (fX9_day FF a b) := by
  intro μ hI
  unfold fX8_day fX9_day
  rcases law_or a b with ⟨l, m, hl, hm, h2, -, rfl, rfl, w1, w2⟩ | ⟨w1, w2⟩
  · obtain ⟨N, σ, σ', μ0, μ1, hq, hσ', hL, hσ, a1, a2, a3, a4, μ2, b1, b2, b3⟩ := day_both hI hl hm h2
    refine ⟨_, _, μ1, μ2, by rw [w1, cal_n, if_neg one_ne, a1, cav_n, a2, cal_n], by rw [w2, cal_n, if_neg one_ne, b1, cal_n], hI.free (fun k h h3 h4 => by rw [b2 k (by omega), a3 k h]), fun q => by rw [hq q]⟩
  · exact ⟨-2, -2, μ, μ, by rw [w1, cal_n, if_pos rfl], by rw [w2, cal_n, if_pos rfl], hI, fun _ => rfl⟩
theorem op_idle (a b : Int32) : OpW wq (fX8_idle FF a b) (fX9_idle FF a b) := by
  intro μ hI
  unfold fX8_idle fX9_idle
  rcases law_or a b with ⟨l, m, hl, hm, h2, -, rfl, rfl, w1, w2⟩ | ⟨w1, w2⟩
  · obtain ⟨N, σ, σ', μ0, μ1, hq, hσ', hL, hσ, a1, a2, a3, a4, μ2, b1, b2, b3⟩ := day_both hI hl hm h2
    have hN := hL.1
    refine ⟨(dy l m (fun p => μ 10 (σ p)) (fun p => μ 11 (σ p)) N).2.1 - sumF (μ 96) N, (dy l m (fun p => μ 10 (σ' p)) (fun p => μ 11 (σ' p)) N).2.1 - sumF (μ 96) N, μ1, μ2, ?_, ?_, hI.free (fun k h h3 h4 => by rw [b2 k (by omega), a3 k h]), fun q => by rw [hq q]⟩
    · rw [w1, cal_n, if_neg one_ne, a1, cav_n, a2, cal_n, c_sum (N := N) (by rw [a3 9 (by omega)]; exact hL.2.1) (by show N ≤ 40; omega), cal_n, a3 11 (by omega), sumF_congr (fun i hi => (hL.eqs hi).2.1)]
    · rw [w2, cal_n, if_neg one_ne, b1, cal_n, m_bake (N := N) (by rw [b2 94 (by omega), a3 94 (by omega)]; exact hL.2.2.1) hN, cal_n, b2 96 (by omega), a3 96 (by omega)]
  · exact ⟨-2, -2, μ, μ, by rw [w1, cal_n, if_pos rfl], by rw [w2, cal_n, if_pos rfl], hI, fun _ => rfl⟩
theorem op_moment (a b c d : Int32) : OpW wq (fX8_moment FF a b c d) (fX9_moment FF a b c d) := by
  intro μ hI
  unfold fX8_moment fX9_moment
  rcases (law_or a b).symm with ⟨w1, w2⟩ | ⟨l, m, hl, hm, h2, -, rfl, rfl, w1, w2⟩
  · exact ⟨-2, -2, μ, μ, by rw [w1, cal_n, if_pos rfl], by rw [w2, cal_n, if_pos rfl], hI, fun _ => rfl⟩
  obtain ⟨N, σ, σ', μ0, μ1, hq, hσ', hL, hσ, a1, a2, a3, a4, μ2, b1, b2, b3⟩ := day_both hI hl hm h2
  have hN := hL.1
  have h9 : μ 9 6 = nI N := hL.2.1
  have h94 : μ 94 0 = nI N := hL.2.2.1
  have h94' : μ1 94 0 = nI N := by rw [a3 94 (by omega)]; exact h94
  rcases (ix c N (by omega)).symm with h | ⟨p, hp, rfl⟩
  · exact ⟨-2, -2, μ, μ, by rw [w1, cal_n, if_neg one_ne, c_lf_no h9 hN h, cal_n, if_pos rfl], by rw [w2, cal_n, if_neg one_ne, m_lf_no h94 hN h, cal_n, if_pos rfl], hI, fun _ => rfl⟩
  have f2 : Inv wq μ2 := hI.free (fun k h h3 h4 => by rw [b2 k (by omega), a3 k h])
  have f1 : Inv wq μ1 := hI.free (fun k h h3 h4 => a3 k h)
  have p40 : p < 40 := by omega
  obtain ⟨k1, k2, k3, k4, k5⟩ := a4 p hp
  obtain ⟨j1, j2⟩ := b3 p hp
  have s40 : σ' p < 240 := by have := (hσ' p hp).1; omega
  have e99 : μ2 99 p = nI (σ' p) := by rw [b2 99 (by omega), a3 99 (by omega)]; exact (hσ' p hp).2
  have e95 : μ2 95 (σ' p) = μ 10 (σ' p) := by rw [b2 95 (by omega), a3 95 (by omega)]; exact (hL.eqs (hσ' p hp).1).1.symm
  have e96 : μ2 96 (σ' p) = μ 11 (σ' p) := by rw [b2 96 (by omega), a3 96 (by omega)]; exact (hL.eqs (hσ' p hp).1).2.1.symm
  have din : ∀ j : Nat, j ≤ 3 → (if (0 : Int) ≤ (nI j).toInt ∧ (nI j).toInt ≤ 3 then (1 : Int32) else 0) = 1 := fun j hj => if_pos (by have : (nI j).toInt = j := nI_toInt (by omega); omega)
  rcases small d 3 (by decide) with h | ⟨j, hj, rfl⟩
  · have hd : ∀ j : Nat, j ≤ 3 → ¬ d = nI j := fun j hj q => by
      subst q
      rcases h with h | h
      · exact nI_pos (by omega) h
      · exact nI_nlt (by omega) (by omega) h
    refine ⟨-2, -2, μ1, μ1, ?_, ?_, f1, fun _ => rfl⟩
    · rw [w1, cal_n, if_neg one_ne, c_lf_yes h9 hN hp, cal_n, if_neg one_ne, a1, cav_n, a2, cal_n, if_neg (show ¬ d = (0 : Int32) from hd 0 (by omega)), if_neg (show ¬ d = (1 : Int32) from hd 1 (by omega)), if_neg (show ¬ d = (2 : Int32) from hd 2 (by omega)), if_neg (show ¬ d = (3 : Int32) from hd 3 (by omega))]
    · rw [w2, cal_n, if_neg one_ne, m_lf_yes h94' hN hp, cal_n, if_neg one_ne, show (0 : Int64) = Int64.ofNat 0 from rfl, show (3 : Int64) = Int64.ofNat 3 from rfl, m_in_no (by decide) h, cal_n, if_pos rfl]
  have hC : ∀ f : Int32 → Mem → Option (Int32 × Mem), (cal (fX8_isLaw FF (nI l) (nI m) μ) (fun r2 m1 => (if r2 = 0 then some ((-2), m1) else cal (fX3_has FF (nI p) m1) (fun r4 m3 => (if r4 = 0 then some ((-2), m3) else cav (fX1_follow FF (nI l) (nI m) m3) (fun m5 => cal (fX1_endOf FF 14 0 m5) f)))))) = f (dy l m (fun p => μ 10 (σ p)) (fun p => μ 11 (σ p)) N).2.1 μ1 := fun f => by
    rw [w1, cal_n, if_neg one_ne, c_lf_yes h9 hN hp, cal_n, if_neg one_ne, a1, cav_n, a2, cal_n]
  have hM : ∀ f : Int32 → Mem → Option (Int32 × Mem), (cal (fX9_isLaw FF (nI l) (nI m) μ1) (fun r2 m1 => (if r2 = 0 then some ((-2), m1) else cal (fX9_isLoaf FF (nI p) m1) (fun r4 m3 => (if r4 = 0 then some ((-2), m3) else cal (fX9_in FF (nI j).toInt64 0 3 m3) (fun r6 m5 => (if r6 = 0 then some ((-2), m5) else cal (fX9_endOf FF 99 (nI l) (nI m) m5) f))))))) = f (dy l m (fun p => μ 10 (σ' p)) (fun p => μ 11 (σ' p)) N).2.1 μ2 := fun f => by
    rw [w2, cal_n, if_neg one_ne, m_lf_yes h94' hN hp, cal_n, if_neg one_ne, m_in_g (la := 0) (lb := 3) rfl rfl, din j hj, cal_n, if_neg one_ne, b1, cal_n]
  have l56 : p < ln 56 := p40
  have h4 : j = 0 ∨ j = 1 ∨ j = 2 ∨ j = 3 := by omega
  rcases h4 with rfl | rfl | rfl | rfl
  · refine ⟨sA l m (fun p => μ 10 (σ p)) (fun p => μ 11 (σ p)) p, sA l m (fun p => μ 10 (σ' p)) (fun p => μ 11 (σ' p)) p, μ1, μ2, ?_, ?_, f2, fun q => by rw [hq q]⟩
    · rw [hC, if_pos (show nI 0 = 0 from rfl), rd_n (by exact p40), k1]
    · rw [hM, rd_n (by show p < 240; omega), if_pos (show nI 0 = 0 from rfl), rd_n (by exact p40), j1]
  · refine ⟨sB l m (fun p => μ 10 (σ p)) (fun p => μ 11 (σ p)) p, sB l m (fun p => μ 10 (σ' p)) (fun p => μ 11 (σ' p)) p, μ1, μ2, ?_, ?_, f2, fun q => by rw [hq q]⟩
    · rw [hC, if_neg (show ¬ nI 1 = 0 by decide), if_pos (show nI 1 = 1 from rfl), rd_n (by exact p40), k2]
    · rw [hM, rd_n (by show p < 240; omega), if_neg (show ¬ nI 1 = 0 by decide), if_pos (show nI 1 = 1 from rfl), rd_n (by exact p40), e99, rd_n (by exact s40), j1, e95]
      rfl
  · refine ⟨sC l m (fun p => μ 10 (σ p)) (fun p => μ 11 (σ p)) p, sC l m (fun p => μ 10 (σ' p)) (fun p => μ 11 (σ' p)) p, μ1, μ2, ?_, ?_, f2, fun q => by rw [hq q]⟩
    · rw [hC, if_neg (show ¬ nI 2 = 0 by decide), if_neg (show ¬ nI 2 = 1 by decide), if_pos (show nI 2 = 2 from rfl), rd_n (by exact p40), k3]
    · rw [hM, rd_n (by show p < 240; omega), if_neg (show ¬ nI 2 = 0 by decide), if_neg (show ¬ nI 2 = 1 by decide), if_pos (show nI 2 = 2 from rfl), rd_n (by exact p40), j2]
  · refine ⟨(dy l m (fun p => μ 10 (σ p)) (fun p => μ 11 (σ p)) (p + 1)).2.1, (dy l m (fun p => μ 10 (σ' p)) (fun p => μ 11 (σ' p)) (p + 1)).2.1, μ1, μ2, ?_, ?_, f2, fun q => by rw [hq q]⟩
    · rw [hC, if_neg (show ¬ nI 3 = 0 by decide), if_neg (show ¬ nI 3 = 1 by decide), if_neg (show ¬ nI 3 = 2 by decide), if_pos (show nI 3 = 3 from rfl), rd_n (by exact p40), k4]
    · rw [hM, rd_n (by show p < 240; omega), if_neg (show ¬ nI 3 = 0 by decide), if_neg (show ¬ nI 3 = 1 by decide), if_neg (show ¬ nI 3 = 2 by decide), rd_n (by exact p40), e99, rd_n (by exact s40), j2, e96]
      rfl
end
section
/-! putting in order, one behind the other -/
def tn (v : Int32) : Nat := v.toInt.toNat
theorem tn_n {s : Nat} (h : s < 2 ^ 31) : tn (nI s) = s := by
  unfold tn
  rw [nI_toInt h]
  omega
/-- x goes in at place j or before, behind the last that is not to come behind it -/
def shI (gt : Nat → Bool) (x : Int32) : Nat → (Nat → Int32) → Nat → Int32
  | 0, g => upd g 0 x
  | j + 1, g => if gt (tn (g j)) then shI gt x j (upd g (j + 1) (g j)) else upd g (j + 1) x
def srI (gt : Nat → Nat → Bool) (g : Nat → Int32) : Nat → Nat → Int32
  | 0 => g
  | n + 1 => shI (fun v => gt v n) (nI n) n (srI gt g n)
def insF (q n : Nat) (x : Int32) (g : Nat → Int32) : Nat → Int32 := fun p => if p < q then g p else if p = q then x else if p ≤ n then g (p - 1) else g p
theorem shI_ins {gt : Nat → Bool} {x : Int32} : ∀ (j : Nat) (g : Nat → Int32), ∃ q, q ≤ j ∧ shI gt x j g = insF q j x g
  | 0, g => by
    refine ⟨0, by omega, funext fun p => ?_⟩
    show upd g 0 x p = _
    unfold insF
    by_cases h : p = 0
    · rw [h, upd_s, if_neg (by omega), if_pos rfl]
    · rw [upd_ne h, if_neg (by omega), if_neg h, if_neg (by omega)]
  | j + 1, g => by
    by_cases hg : gt (tn (g j)) = true
    · obtain ⟨q, hq, e⟩ := shI_ins (gt := gt) (x := x) j (upd g (j + 1) (g j))
      refine ⟨q, by omega, ?_⟩
      have : shI gt x (j + 1) g = shI gt x j (upd g (j + 1) (g j)) := if_pos hg
      rw [this, e]
      funext p
      unfold insF
      by_cases h1 : p < q
      · rw [if_pos h1, if_pos h1, upd_ne (by omega)]
      · rw [if_neg h1, if_neg h1]
        by_cases h2 : p = q
        · rw [if_pos h2, if_pos h2]
        · rw [if_neg h2, if_neg h2]
          by_cases h3 : p ≤ j
          · rw [if_pos h3, if_pos (by omega), upd_ne (by omega)]
          · rw [if_neg h3]
            by_cases h4 : p = j + 1
            · rw [if_pos (by omega), h4, upd_s, show j + 1 - 1 = j by omega]
            · rw [if_neg (by omega), upd_ne h4]
    · refine ⟨j + 1, by omega, ?_⟩
      have : shI gt x (j + 1) g = upd g (j + 1) x := if_neg hg
      rw [this]
      funext p
      unfold insF
      by_cases h1 : p < j + 1
      · rw [if_pos h1, upd_ne (by omega)]
      · rw [if_neg h1]
        by_cases h2 : p = j + 1
        · rw [if_pos h2, h2, upd_s]
        · rw [if_neg h2, if_neg (by omega), upd_ne h2]
theorem PermF.ins {g : Nat → Int32} {n q : Nat} (h : PermF g n) (hq : q ≤ n) : PermF (insF q n (nI n) g) (n + 1) := by
  obtain ⟨σ, τ, h1, h2⟩ := h
  refine ⟨fun p => if p < q then σ p else if p = q then n else σ (p - 1), fun v => if v = n then q else if τ v < q then τ v else τ v + 1, fun p hp => ?_, fun v hv => ?_⟩
  · unfold insF
    by_cases c1 : p < q
    · obtain ⟨a, b, c⟩ := h1 p (by omega)
      simp only [if_pos c1]
      refine ⟨by omega, b, ?_⟩
      rw [if_neg (by omega), c, if_pos c1]
    · by_cases c2 : p = q
      · simp only [if_neg c1, if_pos c2]
        exact ⟨by omega, trivial, by rw [if_pos trivial]; omega⟩
      · obtain ⟨a, b, c⟩ := h1 (p - 1) (by omega)
        simp only [if_neg c1, if_neg c2]
        rw [if_pos (by omega)]
        refine ⟨by omega, b, ?_⟩
        rw [if_neg (by omega), c, if_neg (by omega)]
        omega
  · by_cases c1 : v = n
    · simp only [if_pos c1]
      exact ⟨by omega, by rw [if_neg (by omega), if_pos trivial]; omega⟩
    · obtain ⟨a, b⟩ := h2 v (by omega)
      simp only [if_neg c1]
      by_cases c2 : τ v < q
      · simp only [if_pos c2]
        exact ⟨by omega, b⟩
      · simp only [if_neg c2]
        refine ⟨by omega, ?_⟩
        rw [if_neg (by omega), if_neg (by omega), show τ v + 1 - 1 = τ v by omega]
        exact b
theorem srI_perm {gt : Nat → Nat → Bool} {g : Nat → Int32} : ∀ n, PermF (srI gt g n) n
  | 0 => ⟨fun i => i, fun i => i, fun i hi => by omega, fun i hi => by omega⟩
  | n + 1 => by
    obtain ⟨q, hq, e⟩ := shI_ins (gt := fun v => gt v n) (x := nI n) n (srI gt g n)
    show PermF (shI (fun v => gt v n) (nI n) n (srI gt g n)) (n + 1)
    rw [e]
    exact (srI_perm n).ins hq
theorem shI_out {gt : Nat → Bool} {x : Int32} {j p : Nat} {g : Nat → Int32} (h : j < p) : shI gt x j g p = g p := by
  obtain ⟨q, hq, e⟩ := shI_ins (gt := gt) (x := x) j g
  rw [e]
  unfold insF
  rw [if_neg (by omega), if_neg (by omega), if_neg (by omega)]
theorem srI_out {gt : Nat → Nat → Bool} {g : Nat → Int32} : ∀ {n p : Nat}, n ≤ p → srI gt g n p = g p
  | 0, _, _ => rfl
  | n + 1, p, h => by
    show shI _ _ n (srI gt g n) p = _
    rw [shI_out (by omega), srI_out (by omega)]
theorem shI_congr {gt gt' : Nat → Bool} {x : Int32} : ∀ (j : Nat) (g g' : Nat → Int32), (∀ p, p < j → g p = g' p ∧ gt (tn (g p)) = gt' (tn (g p))) → ∀ p, p ≤ j → shI gt x j g p = shI gt' x j g' p
  | 0, g, g', _, p, hp => by
    obtain rfl : p = 0 := by omega
    show upd g 0 x 0 = upd g' 0 x 0
    rw [upd_s, upd_s]
  | j + 1, g, g', h, p, hp => by
    obtain ⟨e1, e2⟩ := h j (by omega)
    by_cases hg : gt (tn (g j)) = true
    · have a : shI gt x (j + 1) g = shI gt x j (upd g (j + 1) (g j)) := if_pos hg
      have b : shI gt' x (j + 1) g' = shI gt' x j (upd g' (j + 1) (g' j)) := if_pos (by rw [← e1, ← e2]; exact hg)
      rw [a, b]
      by_cases hj : p ≤ j
      · refine shI_congr j _ _ (fun p hp => ?_) p hj
        rw [upd_ne (by omega), upd_ne (by omega)]
        exact h p (by omega)
      · rw [shI_out (by omega), shI_out (by omega), show p = j + 1 by omega, upd_s, upd_s, e1]
    · have a : shI gt x (j + 1) g = upd g (j + 1) x := if_neg hg
      have b : shI gt' x (j + 1) g' = upd g' (j + 1) x := if_neg (by rw [← e1, ← e2]; exact hg)
      rw [a, b]
      by_cases hj : p = j + 1
      · rw [hj, upd_s, upd_s]
      · rw [upd_ne hj, upd_ne hj]
        exact (h p (by omega)).1
theorem srI_congr {gt gt' : Nat → Nat → Bool} {g g' : Nat → Int32} : ∀ {n : Nat}, n < 2 ^ 31 → (∀ s x, s < x → x < n → gt s x = gt' s x) → ∀ p, p < n → srI gt g n p = srI gt' g' n p
  | 0, _, _, p, hp => by omega
  | n + 1, hn, h, p, hp => by
    obtain ⟨σ, τ, h1, h2⟩ := srI_perm (gt := gt) (g := g) n
    refine shI_congr n _ _ (fun p hp => ⟨srI_congr (by omega) (fun s x a b => h s x a (by omega)) p hp, ?_⟩) p (by omega)
    obtain ⟨a, b, c⟩ := h1 p hp
    rw [b, tn_n (by omega)]
    exact h (σ p) n a (by omega)
/-- the class's rank -/
def gtK (f : Nat → Int32) (s x : Nat) : Bool := decide (¬ f s ≤ f x)
theorem c_rank_in {F k0 k2 N x : Nat} {μ : Mem} (hk : k0 ≠ k2) (hx : x < ln k2) (h0 : x < ln k0) (rec2 : Int32 → Int32 → Mem → Option Mem) : ∀ (j n : Nat) (g : Nat → Int32), j ≤ x → j < n → (∀ p, p < j → ∃ s, s < x ∧ g p = nI s) → fX8_rank_10 F k0 k2 rec2 n (nI N) (nI x) (nI j) (upM μ k2 g) = rec2 (nI N) (nI (x + 1)) (upM μ k2 (shI (fun v => gtK (μ k0) v x) (nI x) j g)) := by
  have l0 := ln_le k0
  have l2 := ln_le k2
  intro j
  induction j with
  | zero =>
    intro n g hj hn hg
    obtain ⟨n, rfl⟩ : ∃ n', n = n' + 1 := ⟨n - 1, by omega⟩
    show fX8_rank_10_b F k0 k2 rec2 _ _ _ _ _ = _
    unfold fX8_rank_10_b fX8_rank_45
    rw [if_pos (show nI 0 ≤ 0 by decide), wr_n (by omega), nI_add1, upM_upM, upM_self]
    rfl
  | succ j ih =>
    intro n g hj hn hg
    obtain ⟨n, rfl⟩ : ∃ n', n = n' + 1 := ⟨n - 1, by omega⟩
    obtain ⟨s, hs, es⟩ := hg j (by omega)
    have e : shI (fun v => gtK (μ k0) v x) (nI x) (j + 1) g = if gtK (μ k0) s x = true then shI (fun v => gtK (μ k0) v x) (nI x) j (upd g (j + 1) (g j)) else upd g (j + 1) (nI x) := by
      show (if gtK (μ k0) (tn (g j)) x = true then _ else _) = _
      rw [es, tn_n (by omega)]
    show fX8_rank_10_b F k0 k2 rec2 _ _ _ _ _ = _
    unfold fX8_rank_10_b fX8_rank_45
    rw [show (0 : Int32) = nI 0 from rfl, if_neg (nI_ge (by omega) (by omega)), show (1 : Int32) = nI 1 from rfl, nI_sub (by omega), show j + 1 - 1 = j by omega, rd_n (by omega), upM_self, es, rd_n (by omega), upM_ne hk, rd_n (by omega), upM_ne hk, e]
    by_cases c : μ k0 s ≤ μ k0 x
    · have hf : ¬ gtK (μ k0) s x = true := by
        unfold gtK
        rw [decide_eq_true_iff]
        exact fun q => q c
      rw [if_pos c, if_neg hf, wr_n (by omega), upM_upM, upM_self, show nI x + nI 1 = nI (x + 1) from nI_add1 x]
    · have hf : gtK (μ k0) s x = true := by
        unfold gtK
        rw [decide_eq_true_iff]
        exact c
      rw [if_neg c, if_pos hf, rd_n (by omega), upM_self, es, wr_n (by omega), upM_upM, upM_self, show nI (j + 1) + -nI 1 = nI j from nI_addm1 j]
      exact ih n _ (by omega) (by omega) (fun p hp => by rw [upd_ne (by omega)]; exact hg p (by omega))
theorem c_rank {k0 k2 N : Nat} {μ : Mem} (hk : k0 ≠ k2) (h2 : N ≤ ln k2) (h0 : N ≤ ln k0) : fX8_rank FF k0 (nI N) k2 μ = some (upM μ k2 (srI (gtK (μ k0)) (μ k2) N)) := by
  have l0 := ln_le k0
  have loop : ∀ (d n i : Nat), i + d = N → d < n → fX8_rank_2 FF k0 k2 n (nI N) (nI i) (upM μ k2 (srI (gtK (μ k0)) (μ k2) i)) = some (upM μ k2 (srI (gtK (μ k0)) (μ k2) N)) := by
    intro d
    induction d with
    | zero =>
      intro n i hi hn
      obtain ⟨n, rfl⟩ : ∃ n', n = n' + 1 := ⟨n - 1, by omega⟩
      show fX8_rank_2_b FF k0 k2 _ _ _ _ = _
      unfold fX8_rank_2_b
      rw [if_pos (nI_le (by omega) (by omega)), show i = N by omega]
    | succ d ih =>
      intro n i hi hn
      obtain ⟨n, rfl⟩ : ∃ n', n = n' + 1 := ⟨n - 1, by omega⟩
      show fX8_rank_2_b FF k0 k2 _ _ _ _ = _
      unfold fX8_rank_2_b
      obtain ⟨σ, τ, p1, p2⟩ := srI_perm (gt := gtK (μ k0)) (g := μ k2) i
      rw [if_neg (nI_ge (by omega) (by omega)), c_rank_in hk (by omega) (by omega) _ i FF _ (by omega) (by rw [FF_e]; omega) (fun p hp => ⟨σ p, (p1 p hp).1, (p1 p hp).2.1⟩)]
      exact ih n (i + 1) (by omega) (by omega)
  have := loop N FF 0 (by omega) (by rw [FF_e]; omega)
  rw [show srI (gtK (μ k0)) (μ k2) 0 = μ k2 from rfl, upM_id] at this
  exact this
end
section
/-! the rule's row -/
def ruK (X B : Nat → Int32) (i : Nat) : Int32 := if B i < X i then 200001 - B i else X i
def ruF (X B : Nat → Int32) (i : Nat) (g : Nat → Int32) : Nat → Int32 := fun p => if p < i then ruK X B p else g p
theorem ruF_s {X B : Nat → Int32} {i : Nat} {g : Nat → Int32} : upd (ruF X B i g) i (ruK X B i) = ruF X B (i + 1) g := by
  funext p
  unfold upd ruF
  by_cases h1 : p = i
  · rw [if_pos h1, if_pos (by omega), h1]
  · rw [if_neg h1]
    by_cases h2 : p < i
    · rw [if_pos h2, if_pos (by omega)]
    · rw [if_neg h2, if_neg (by omega)]
theorem c_rule_loop {N k1 : Nat} {μ : Mem} (hN : N ≤ 40) (h : μ 9 6 = nI N) : ∀ (d n i : Nat), i + d = N → d < n → fX3_byRule_2 FF k1 n (nI i) (upM μ 15 (ruF (μ 10) (μ 11) i (μ 15))) = cav (fX8_rank FF 15 (nI N) k1 (upM μ 15 (ruF (μ 10) (μ 11) N (μ 15)))) (fun m1 => some m1) := by
  intro d
  induction d with
  | zero =>
    intro n i hi hn
    obtain ⟨n, rfl⟩ : ∃ n', n = n' + 1 := ⟨n - 1, by omega⟩
    show fX3_byRule_2_b FF k1 _ _ _ = _
    unfold fX3_byRule_2_b
    rw [upM_ne (by omega), h, if_pos (nI_le (by omega) (by omega)), show i = N by omega]
  | succ d ih =>
    intro n i hi hn
    obtain ⟨n, rfl⟩ : ∃ n', n = n' + 1 := ⟨n - 1, by omega⟩
    have i40 : i < 40 := by omega
    show fX3_byRule_2_b FF k1 _ _ _ = _
    unfold fX3_byRule_2_b
    rw [upM_ne (by omega), h, if_neg (nI_ge (by omega) (by omega)), rd_n (by exact i40), rd_n (by exact i40), rd_n (by exact i40), rd_n (by exact i40), wr_n (by exact i40), wr_n (by exact i40), nI_add1, upM_upM, upM_upM, upM_self, upM_ne (by omega), upM_ne (by omega), ← ih n (i + 1) (by omega) (by omega), ← ruF_s]
    have e : ruK (μ 10) (μ 11) i = if μ 11 i < μ 10 i then 200001 - μ 11 i else μ 10 i := rfl
    by_cases c : μ 11 i < μ 10 i
    · rw [if_pos c] at e
      rw [if_pos c, e]
    · rw [if_neg c] at e
      rw [if_neg c, e]
theorem c_byRule {N k1 : Nat} {μ : Mem} (hN : N ≤ 40) (hk : N ≤ ln k1) (h15 : k1 ≠ 15) (h : μ 9 6 = nI N) : ∃ μ', fX3_byRule FF k1 μ = some μ' ∧ (∀ k, k ≠ 15 → k ≠ k1 → μ' k = μ k) ∧ μ' k1 = srI (gtK (ruF (μ 10) (μ 11) N (μ 15))) (μ k1) N := by
  refine ⟨upM (upM μ 15 (ruF (μ 10) (μ 11) N (μ 15))) k1 (srI (gtK (ruF (μ 10) (μ 11) N (μ 15))) (μ k1) N), ?_, fun k q1 q2 => by rw [upM_ne q2, upM_ne q1], by rw [upM_self]⟩
  have l := c_rule_loop (k1 := k1) (μ := μ) hN h N FF 0 (by omega) (by rw [FF_e]; omega)
  have e0 : ruF (μ 10) (μ 11) 0 (μ 15) = μ 15 := funext fun p => if_neg (by omega)
  rw [e0, upM_id, c_rank (by omega) hk (by exact hN), cav_n, upM_self, upM_ne h15] at l
  exact l
/-- the reference's question -/
def ahd (X B : Nat → Int32) (s x : Nat) : Bool := decide (¬ ruK X B s ≤ ruK X B x)
theorem ruK_n {X B : Nat → Int32} {i x b : Nat} (hx : X i = nI x) (hb : B i = nI b) (lx : x ≤ 100000) (lb : b ≤ 100000) : ruK X B i = nI (if b < x then 200001 - b else x) := by
  unfold ruK
  rw [hx, hb, iflt (by omega) (by omega)]
  by_cases c : b < x
  · rw [if_pos c, if_pos c, show (200001 : Int32) = nI 200001 from rfl, nI_sub (by omega)]
  · rw [if_neg c, if_neg c]
theorem m_ahead {F s x a b c d : Nat} {μ : Mem} (hs : s < x) (hx : x < 40) (h1 : μ 95 x = nI a) (h2 : μ 96 x = nI b) (h3 : μ 95 s = nI c) (h4 : μ 96 s = nI d) (la : a ≤ 100000) (lb : b ≤ 100000) (lc : c ≤ 100000) (ld : d ≤ 100000) : fX9_isAhead F (nI x) (nI s) μ = some (if ahd (μ 95) (μ 96) s x = true then 1 else 0, μ) := by
  have l95 : x < ln 95 := by show x < 240; omega
  have l96 : x < ln 96 := by show x < 240; omega
  have s95 : s < ln 95 := by show s < 240; omega
  have s96 : s < ln 96 := by show s < 240; omega
  have hA : (ahd (μ 95) (μ 96) s x = true) ↔ ¬ (if d < c then 200001 - d else c) ≤ (if b < a then 200001 - b else a) := by
    unfold ahd
    rw [decide_eq_true_iff, ruK_n h3 h4 lc ld, ruK_n h1 h2 la lb]
    have e1 : (if d < c then 200001 - d else c) < 2 ^ 31 := by by_cases q : d < c; rw [if_pos q]; omega; rw [if_neg q]; omega
    have e2 : (if b < a then 200001 - b else a) < 2 ^ 31 := by by_cases q : b < a; rw [if_pos q]; omega; rw [if_neg q]; omega
    rw [nI_leI e1 e2]
  have cmp : ∀ u v : Nat, u ≤ 100000 → v ≤ 100000 → fX9_isAhead_80 F (nI x) (nI s) (nI u - nI v) μ = some (if u < v then 1 else 0, μ) := by
    intro u v hu hv
    have eu : (nI u).toInt = u := nI_toInt (by omega)
    have ev : (nI v).toInt = v := nI_toInt (by omega)
    have es : (nI u - nI v).toInt = (u : Int) - v := by rw [sub_toInt (by omega) (by omega), eu, ev]
    unfold fX9_isAhead_80
    by_cases q1 : u < v
    · rw [if_pos q1, if_pos, zr_1]
      rw [Int32.lt_iff_toInt_lt, es, toInt_0]
      omega
    · rw [if_neg q1, if_neg (by rw [Int32.lt_iff_toInt_lt, es, toInt_0]; omega)]
      by_cases q2 : nI u - nI v = 0
      · rw [if_pos q2, if_pos (nI_le (by omega) (by omega)), zr_0]
      · rw [if_neg q2, zr_0]
  have g1 : fX9_isAhead F (nI x) (nI s) μ = fX9_isAhead_20 F (nI x) (nI s) (if b < a then 0 else 1) μ := by
    unfold fX9_isAhead
    rw [rd_n l95, rd_n l96, h1, h2, iflt (by omega) (by omega)]
    by_cases q : b < a
    · rw [if_pos q, if_pos q]
    · rw [if_neg q, if_neg q]
  rw [g1]
  unfold fX9_isAhead_20
  rw [rd_n s95, rd_n s96, h3, h4, iflt (by omega) (by omega)]
  unfold fX9_isAhead_42
  rw [rd_n s96, rd_n l96, rd_n l95, rd_n s95, h1, h2, h3, h4, cmp d b ld lb, cmp a c la lc]
  by_cases q1 : b < a
  · simp only [if_pos q1] at hA ⊢
    by_cases q2 : d < c
    · simp only [if_pos q2] at hA ⊢
      rw [if_pos trivial, if_pos trivial]
      by_cases q3 : d < b
      · rw [if_pos q3, if_pos (hA.mpr (by omega))]
      · rw [if_neg q3, if_neg (fun w => hA.mp w (by omega))]
    · simp only [if_neg q2] at hA ⊢
      rw [if_neg (by decide), if_neg (fun w => hA.mp w (by omega)), zr_0]
  · simp only [if_neg q1] at hA ⊢
    by_cases q2 : d < c
    · simp only [if_pos q2] at hA ⊢
      rw [if_neg (by decide), if_pos (hA.mpr (by omega)), zr_1]
    · simp only [if_neg q2] at hA ⊢
      rw [if_pos trivial, if_neg (by decide)]
      by_cases q3 : a < c
      · rw [if_pos q3, if_pos (hA.mpr (by omega))]
      · rw [if_neg q3, if_neg (fun w => hA.mp w (by omega))]
end
section
variable {wq : Prop}
def Ld (N : Nat) (X B : Nat → Int32) : Prop := ∀ i, i < N → (∃ x, x ≤ 100000 ∧ X i = nI x) ∧ ∃ x, x ≤ 100000 ∧ B i = nI x
theorem m_rule_in {F k1 N x : Nat} {μ : Mem} (hk : k1 < 95 ∨ 96 < k1) (hN : N ≤ 40) (hx : x < N) (hl : N ≤ ln k1) (hd : Ld N (μ 95) (μ 96)) (rec2 : Int32 → Mem → Option Mem) : ∀ (j n : Nat) (g : Nat → Int32), j ≤ x → j < n → (∀ p, p < j → ∃ s, s < x ∧ g p = nI s) → fX9_byRule_14 F k1 rec2 n (nI x) (nI j) (upM μ k1 g) = rec2 (nI (x + 1)) (upM μ k1 (shI (fun v => ahd (μ 95) (μ 96) v x) (nI x) j g)) := by
  have l1 := ln_le k1
  intro j
  induction j with
  | zero =>
    intro n g hj hn hg
    obtain ⟨n, rfl⟩ : ∃ n', n = n' + 1 := ⟨n - 1, by omega⟩
    show fX9_byRule_14_b F k1 rec2 _ _ _ _ = _
    unfold fX9_byRule_14_b fX9_byRule_45
    rw [if_pos (show nI 0 ≤ 0 by decide), wr_n (by omega), nI_add1, upM_upM, upM_self]
    rfl
  | succ j ih =>
    intro n g hj hn hg
    obtain ⟨n, rfl⟩ : ∃ n', n = n' + 1 := ⟨n - 1, by omega⟩
    obtain ⟨s, hs, es⟩ := hg j (by omega)
    have e : shI (fun v => ahd (μ 95) (μ 96) v x) (nI x) (j + 1) g = if ahd (μ 95) (μ 96) s x = true then shI (fun v => ahd (μ 95) (μ 96) v x) (nI x) j (upd g (j + 1) (g j)) else upd g (j + 1) (nI x) := by
      show (if ahd (μ 95) (μ 96) (tn (g j)) x = true then _ else _) = _
      rw [es, tn_n (by omega)]
    obtain ⟨⟨a, la, ea⟩, ⟨b, lb, eb⟩⟩ := hd x hx
    obtain ⟨⟨c, lc, ec⟩, ⟨d, ld, ed⟩⟩ := hd s (by omega)
    have e95 : upM μ k1 g 95 = μ 95 := upM_ne (by omega)
    have e96 : upM μ k1 g 96 = μ 96 := upM_ne (by omega)
    have am := m_ahead (F := F) (μ := upM μ k1 g) hs (show x < 40 by omega) (by rw [e95]; exact ea) (by rw [e96]; exact eb) (by rw [e95]; exact ec) (by rw [e96]; exact ed) la lb lc ld
    rw [e95, e96] at am
    show fX9_byRule_14_b F k1 rec2 _ _ _ _ = _
    unfold fX9_byRule_14_b fX9_byRule_45
    rw [show (0 : Int32) = nI 0 from rfl, if_neg (nI_ge (by omega) (by omega)), show (1 : Int32) = nI 1 from rfl, nI_sub (by omega), show j + 1 - 1 = j by omega, rd_n (by omega), upM_self, es, am, cal_n, e]
    by_cases c : ahd (μ 95) (μ 96) s x = true
    · rw [if_pos c, if_pos c, if_neg (show ¬ (1 : Int32) = nI 0 by decide), rd_n (by omega), upM_self, es, wr_n (by omega), upM_upM, upM_self, show nI (j + 1) + -nI 1 = nI j from nI_addm1 j]
      exact ih n _ (by omega) (by omega) (fun p hp => by rw [upd_ne (by omega)]; exact hg p (by omega))
    · rw [if_neg c, if_neg c, if_pos (show (0 : Int32) = nI 0 from rfl), wr_n (by omega), upM_upM, upM_self, show nI x + nI 1 = nI (x + 1) from nI_add1 x]
theorem m_byRule {k1 N : Nat} {μ : Mem} (hk : k1 < 94 ∨ 96 < k1) (hN : N ≤ 40) (hl : N ≤ ln k1) (h : μ 94 0 = nI N) (hd : Ld N (μ 95) (μ 96)) : fX9_byRule FF k1 μ = some (upM μ k1 (srI (ahd (μ 95) (μ 96)) (μ k1) N)) := by
  have loop : ∀ (d n i : Nat), i + d = N → d < n → fX9_byRule_2 FF k1 n (nI i) (upM μ k1 (srI (ahd (μ 95) (μ 96)) (μ k1) i)) = some (upM μ k1 (srI (ahd (μ 95) (μ 96)) (μ k1) N)) := by
    intro d
    induction d with
    | zero =>
      intro n i hi hn
      obtain ⟨n, rfl⟩ : ∃ n', n = n' + 1 := ⟨n - 1, by omega⟩
      show fX9_byRule_2_b FF k1 _ _ _ = _
      unfold fX9_byRule_2_b
      rw [show (0 : Int32) = nI 0 from rfl, rd_n (by decide), upM_ne (by omega), h, if_pos (nI_le (by omega) (by omega)), show i = N by omega]
    | succ d ih =>
      intro n i hi hn
      obtain ⟨n, rfl⟩ : ∃ n', n = n' + 1 := ⟨n - 1, by omega⟩
      show fX9_byRule_2_b FF k1 _ _ _ = _
      unfold fX9_byRule_2_b
      obtain ⟨σ, τ, p1, p2⟩ := srI_perm (gt := ahd (μ 95) (μ 96)) (g := μ k1) i
      rw [show (0 : Int32) = nI 0 from rfl, rd_n (by decide), upM_ne (by omega), h, if_neg (nI_ge (by omega) (by omega)), m_rule_in (by omega) hN (by omega) hl hd _ i FF _ (by omega) (by rw [FF_e]; omega) (fun p hp => ⟨σ p, (p1 p hp).1, (p1 p hp).2.1⟩)]
      exact ih n (i + 1) (by omega) (by omega)
  have := loop N FF 0 (by omega) (by rw [FF_e]; omega)
  rw [show srI (ahd (μ 95) (μ 96)) (μ k1) 0 = μ k1 from rfl, upM_id] at this
  exact this
/-- both find the same row -/
theorem rules_eq {N : Nat} {X B X' B' k g g' : Nat → Int32} (hN : N ≤ 40) (hX : ∀ i, i < N → X i = X' i ∧ B i = B' i) : ∀ p, p < N → srI (gtK (ruF X B N k)) g N p = srI (ahd X' B') g' N p := by
  refine srI_congr (by omega) (fun s x hs hx => ?_)
  unfold gtK ahd ruF
  rw [if_pos (by omega), if_pos hx]
  unfold ruK
  rw [(hX s (by omega)).1, (hX s (by omega)).2, (hX x hx).1, (hX x hx).2]
theorem Inv.alt2 {N : Nat} {μ μ2 : Mem} (hI : Inv wq μ) (e : ∀ k, (k < 9 ∨ 61 ≤ k) → (k < 94 ∨ 100 ≤ k) → k ≠ 89 → k ≠ 103 → k ≠ 104 → μ2 k = μ k) (ej : ∀ j, j ≠ 11 → j ≠ 15 → μ2 89 j = μ 89 j) (hl : RelN wq N (CL μ2) (MT μ2 0)) (hH : HI wq μ2) (hB : BT μ2) : Inv wq μ2 := by
  have g : Ag (List.range' 9 52 ++ List.range' 94 6 ++ [103, 104]) [11, 15] μ μ2 := by
    refine ⟨fun k h9 hk => ?_, fun j hj => ?_⟩
    · simp only [List.mem_append, List.mem_range'_1, List.mem_cons, List.not_mem_nil, or_false, not_or, not_and] at hk
      exact e k (by omega) (by omega) h9 (by omega) (by omega)
    · simp only [List.mem_cons, List.not_mem_nil, or_false, not_or] at hj
      exact ej j hj.1 hj.2
  obtain ⟨i1, i2, i3, i4, i5, i6⟩ := hI
  exact ⟨i1.ag g, ⟨N, hl⟩, hH, hB, i5.ag g, i6.ag g⟩
theorem RelN.ld {N : Nat} {μ : Mem} (hL : RelN wq N (CL μ) (MT μ 0)) : Ld N (μ 10) (μ 11) := fun i hi => ⟨(hL.oks.1 i hi).1, (hL.oks.1 i hi).2.1⟩
theorem Ld.congr {N : Nat} {X B X' B' : Nat → Int32} (h : Ld N X B) (e : ∀ i, i < N → X' i = X i ∧ B' i = B i) : Ld N X' B' := fun i hi => by
  rw [(e i hi).1, (e i hi).2]
  exact h i hi
theorem op_rule : Op wq (fX8_rule FF) (fX9_rule FF) := by
  intro μ hI
  obtain ⟨N, μc, hL, c1, c2, c3⟩ := keepOp2 hI
  have h9 : μ 9 6 = nI N := hL.2.1
  have hN := hL.1
  obtain ⟨μa, a1, a2, a3⟩ := c_byRule (k1 := 14) (μ := μc) hN (by exact hN) (by omega) (by rw [c2 9 (by omega) (by omega)]; exact h9)
  rw [c2 10 (by omega) (by omega), c2 11 (by omega) (by omega)] at a3
  obtain ⟨σ, τ, p1, p2⟩ := srI_perm (gt := gtK (ruF (μ 10) (μ 11) N (μc 15))) (g := μc 14) N
  have hσ : ∀ p, p < N → σ p < N ∧ μa 14 p = nI (σ p) := fun p hp => ⟨(p1 p hp).1, by rw [a3]; exact (p1 p hp).2.1⟩
  have a4 : ∀ k, k ≠ 14 → k ≠ 15 → k ≠ 16 → (k < 18 ∨ 53 ≤ k) → μa k = μ k := fun k q1 q2 q3 q4 => by rw [a2 k q2 q1, c2 k q3 q4]
  have hRC : RowC N 14 (fun p => μ 10 (σ p)) (fun p => μ 11 (σ p)) μa := by
    refine ⟨by rw [a4 9 (by omega) (by omega) (by omega) (by omega)]; exact h9, fun p hp => ⟨σ p, by have := (hσ p hp).1; omega, (hσ p hp).2, ?_, ?_⟩⟩
    · rw [a4 10 (by omega) (by omega) (by omega) (by omega)]
    · rw [a4 11 (by omega) (by omega) (by omega) (by omega)]
  obtain ⟨μ0, μ1, b1, b2, b3, b4⟩ := c_day (l := 1) (m := 0) hN (show N ≤ ln 14 from hN) (by omega) (by omega) (by omega) (by omega) hRC
  obtain ⟨μm, m1, m2, m3, m4, m5, m6⟩ := c3 μ1 (fun k hk => by rw [b3 k (by omega), a4 k (by omega) (by omega) (by omega) (by omega)]) (fun k hk => by rw [b3 k (by omega), a2 k (by omega) (by omega)])
  have q95 : ∀ i, i < N → μm 95 i = μ 10 i ∧ μm 96 i = μ 11 i := fun i hi => ⟨(m5 95 (by omega) (by omega) i (by omega)).trans (hL.eqs hi).1.symm, (m5 96 (by omega) (by omega) i (by omega)).trans (hL.eqs hi).2.1.symm⟩
  have d1 := m_byRule (k1 := 99) (μ := μm) (by omega) hN (show N ≤ ln 99 by show N ≤ 240; omega) m4 (hL.ld.congr q95)
  obtain ⟨μr, hμr⟩ : ∃ μr, μr = upM μm 99 (srI (ahd (μm 95) (μm 96)) (μm 99) N) := ⟨_, rfl⟩
  rw [← hμr] at d1
  have r99 : ∀ p, p < N → μr 99 p = μa 14 p := fun p hp => by
    rw [hμr, upM_self, a3]
    exact (rules_eq hN (fun i hi => ⟨(q95 i hi).1.symm, (q95 i hi).2.symm⟩) p hp).symm
  have r0 : ∀ k, k ≠ 99 → μr k = μm k := fun k hk => by rw [hμr, upM_ne hk]
  have hRM : RowM N 99 (fun p => μ 10 (σ p)) (fun p => μ 11 (σ p)) μr := by
    refine ⟨by rw [r0 94 (by omega)]; exact m4, fun p hp => ⟨σ p, by have := (hσ p hp).1; omega, by rw [r99 p hp]; exact (hσ p hp).2, ?_, ?_⟩⟩
    · rw [r0 95 (by omega)]; exact (q95 _ (hσ p hp).1).1
    · rw [r0 96 (by omega)]; exact (q95 _ (hσ p hp).1).2
  obtain ⟨μ2, e1, e2, e3⟩ := m_day (l := 1) (m := 0) hN (show N ≤ ln 99 by show N ≤ 240; omega) (by omega) (by omega) (by omega) (by omega) hRM
  have fr : ∀ k, k ≠ 14 → k ≠ 15 → k ≠ 16 → (k < 18 ∨ 53 ≤ k) → (k < 55 ∨ 60 < k) → (k < 94 ∨ 100 ≤ k) → k ≠ 89 → (k < 103 ∨ 104 < k) → μ2 k = μ k := fun k q1 q2 q3 q4 q5 q6 q7 q8 => by rw [e2 k q8, r0 k (by omega), m2 k q7 q6, b3 k q5, a4 k q1 q2 q3 q4]
  have f89 : ∀ j, j ≠ 11 → μ2 89 j = μ 89 j := fun j hj => by rw [e2 89 (by omega), r0 89 (by omega), m3 j hj]
  have s14 : μ2 14 = μa 14 := by rw [e2 14 (by omega), r0 14 (by omega), m2 14 (by omega) (by omega), b3 14 (by omega)]
  refine ⟨(dy 1 0 (fun p => μ 10 (σ p)) (fun p => μ 11 (σ p)) N).2.1, μ1, μ2, ?_, ?_, Inv.alt2 (N := N) hI (fun k q1 q2 q3 q4 q5 => fr k (by omega) (by omega) (by omega) (by omega) (by omega) q2 q3 (by omega)) (fun j q1 q2 => f89 j q1) ?_ ?_ ?_⟩
  · unfold fX8_rule
    rw [c1, cav_n, a1, cav_n, show (1 : Int32) = nI 1 from rfl, show (0 : Int32) = nI 0 from rfl, b1, cav_n, show nI 0 = (0 : Int32) from rfl, b2, cal_n]
  · unfold fX9_rule
    rw [m1, cav_n, d1, cav_n, show (1 : Int32) = nI 1 from rfl, show (0 : Int32) = nI 0 from rfl, e1, cal_n]
  · refine RelN.mk hN (by rw [fr 9 (by omega) (by omega) (by omega) (by omega) (by omega) (by omega) (by omega) (by omega)]; exact h9) (by rw [e2 94 (by omega), r0 94 (by omega)]; exact m4) (fun k hk => ?_) ((srI_perm N).congr (fun k hk => by rw [e2 99 (by omega), r99 k hk, a3])) ⟨fun k hk => ?_, ?_⟩
    · rw [s14, fr 10 (by omega) (by omega) (by omega) (by omega) (by omega) (by omega) (by omega) (by omega), fr 11 (by omega) (by omega) (by omega) (by omega) (by omega) (by omega) (by omega) (by omega), fr 12 (by omega) (by omega) (by omega) (by omega) (by omega) (by omega) (by omega) (by omega), fr 13 (by omega) (by omega) (by omega) (by omega) (by omega) (by omega) (by omega) (by omega)]
      obtain ⟨z1, z2, z3, z4, z5⟩ := hL.eqs hk
      have q : ∀ c, 95 ≤ c → c < 99 → μ2 c k = μ c k := fun c h1 h2 => by rw [e2 c (by omega), r0 c (by omega)]; exact m5 c h1 (by omega) k (by omega)
      refine ⟨z1.trans (q 95 (by omega) (by omega)).symm, z2.trans (q 96 (by omega) (by omega)).symm, z3.trans (q 97 (by omega) (by omega)).symm, z4.trans (q 98 (by omega) (by omega)).symm, fun _ => ?_⟩
      rw [e2 99 (by omega), r99 k hk]
    · rw [fr 10 (by omega) (by omega) (by omega) (by omega) (by omega) (by omega) (by omega) (by omega), fr 11 (by omega) (by omega) (by omega) (by omega) (by omega) (by omega) (by omega) (by omega), fr 12 (by omega) (by omega) (by omega) (by omega) (by omega) (by omega) (by omega) (by omega), fr 13 (by omega) (by omega) (by omega) (by omega) (by omega) (by omega) (by omega) (by omega)]
      exact hL.oks.1 k hk
    · rw [s14, a3]
      exact srI_perm N
  · refine m6 _ (fun k hk => by rw [e2 k (by omega), r0 k (by omega)]) (by rw [e2 89 (by omega), r0 89 (by omega)]) (by rw [e2 94 (by omega), r0 94 (by omega)]) (fun c h1 h2 k hk => ?_)
    rw [e2 c (by omega)]
    by_cases h99 : c = 99
    · subst h99
      rw [hμr, upM_self]
      exact srI_out (by omega)
    · rw [r0 c h99]
  · exact hI.2.2.2.1.same (fr 54 (by omega) (by omega) (by omega) (by omega) (by omega) (by omega) (by omega) (by omega)) (fr 100 (by omega) (by omega) (by omega) (by omega) (by omega) (by omega) (by omega) (by omega)) (fr 53 (by omega) (by omega) (by omega) (by omega) (by omega) (by omega) (by omega) (by omega)) (f89 12 (by decide)) (f89 14 (by decide)) (f89 15 (by decide)) (by rw [fr 9 (by omega) (by omega) (by omega) (by omega) (by omega) (by omega) (by omega) (by omega)])
end
section
/-! batches: one row goes up, the other down -/
theorem shI_ins2 {gt : Nat → Bool} {x : Int32} : ∀ (j : Nat) (g : Nat → Int32), ∃ q, q ≤ j ∧ shI gt x j g = insF q j x g ∧ (∀ p, q ≤ p → p < j → gt (tn (g p)) = true) ∧ (∀ p, p + 1 = q → ¬ gt (tn (g p)) = true)
  | 0, g => by
    obtain ⟨q, hq, e⟩ := shI_ins (gt := gt) (x := x) 0 g
    exact ⟨q, hq, e, fun p _ h => by omega, fun p h => by omega⟩
  | j + 1, g => by
    by_cases hg : gt (tn (g j)) = true
    · obtain ⟨q, hq, e, h1, h2⟩ := shI_ins2 (gt := gt) (x := x) j (upd g (j + 1) (g j))
      have a : shI gt x (j + 1) g = shI gt x j (upd g (j + 1) (g j)) := if_pos hg
      refine ⟨q, by omega, ?_, fun p p1 p2 => ?_, fun p hp => ?_⟩
      · rw [a, e]
        funext p
        unfold insF
        by_cases c1 : p < q
        · rw [if_pos c1, if_pos c1, upd_ne (by omega)]
        · rw [if_neg c1, if_neg c1]
          by_cases c2 : p = q
          · rw [if_pos c2, if_pos c2]
          · rw [if_neg c2, if_neg c2]
            by_cases c3 : p ≤ j
            · rw [if_pos c3, if_pos (by omega), upd_ne (by omega)]
            · rw [if_neg c3]
              by_cases c4 : p = j + 1
              · rw [if_pos (by omega), c4, upd_s, show j + 1 - 1 = j by omega]
              · rw [if_neg (by omega), upd_ne c4]
      · by_cases c : p = j
        · rw [c]; exact hg
        · have := h1 p p1 (by omega)
          rw [upd_ne (by omega)] at this
          exact this
      · have := h2 p hp
        rw [upd_ne (by omega)] at this
        exact this
    · refine ⟨j + 1, by omega, ?_, fun p p1 p2 => by omega, fun p hp => ?_⟩
      · have a : shI gt x (j + 1) g = upd g (j + 1) x := if_neg hg
        rw [a]
        funext p
        unfold insF
        by_cases c1 : p < j + 1
        · rw [if_pos c1, upd_ne (by omega)]
        · rw [if_neg c1]
          by_cases c2 : p = j + 1
          · rw [if_pos c2, c2, upd_s]
          · rw [if_neg c2, if_neg (by omega), upd_ne c2]
      · rw [show p = j by omega]
        exact hg
/-- the reference's row of values, the highest first -/
def dsc (b : Nat → Nat) (g : Nat → Int32) : Nat → Nat → Int32
  | 0 => g
  | n + 1 => shI (fun v => decide (v < b n)) (nI (b n)) n (dsc b g n)
theorem up_down {b : Nat → Nat} {f g g' : Nat → Int32} {N : Nat} (hN : N ≤ 40) (hf : ∀ s, s < N → b s ≤ 100000 ∧ f s = nI (b s)) : ∀ n, n ≤ N → ∃ σ : Nat → Nat, (∀ p, p < n → σ p < n ∧ srI (gtK f) g n p = nI (σ p)) ∧ (∀ p q, p ≤ q → q < n → b (σ p) ≤ b (σ q)) ∧ ∀ p, p < n → dsc b g' n p = nI (b (σ (n - 1 - p)))
  | 0, _ => ⟨fun p => p, fun p hp => by omega, fun p q _ hq => by omega, fun p hp => by omega⟩
  | n + 1, hn => by
    obtain ⟨σ, s1, s2, s3⟩ := up_down (g := g) (g' := g') hN hf n (by omega)
    obtain ⟨q, q1, q2, q3, q4⟩ := shI_ins2 (gt := fun v => gtK f v n) (x := nI n) n (srI (gtK f) g n)
    obtain ⟨r, r1, r2, r3, r4⟩ := shI_ins2 (gt := fun v => decide (v < b n)) (x := nI (b n)) n (dsc b g' n)
    have fn := hf n (by omega)
    have up : ∀ p, q ≤ p → p < n → b n < b (σ p) := fun p p1 p2 => by
      have := q3 p p1 p2
      obtain ⟨z1, z2⟩ := s1 p p2
      have fs := hf (σ p) (by omega)
      rw [z2, tn_n (by omega)] at this
      unfold gtK at this
      rw [decide_eq_true_iff, fs.2, fn.2, nI_leI (by omega) (by omega)] at this
      omega
    have lo : ∀ p, p < q → b (σ p) ≤ b n := fun p p1 => by
      have := q4 (q - 1) (by omega)
      obtain ⟨z1, z2⟩ := s1 (q - 1) (by omega)
      have fs := hf (σ (q - 1)) (by omega)
      rw [z2, tn_n (by omega)] at this
      unfold gtK at this
      rw [decide_eq_true_iff, fs.2, fn.2, nI_leI (by omega) (by omega)] at this
      have := s2 p (q - 1) (by omega) (by omega)
      omega
    have dlo : ∀ p, r ≤ p → p < n → b (σ (n - 1 - p)) < b n := fun p p1 p2 => by
      have := r3 p p1 p2
      have z := (s1 (n - 1 - p) (by omega)).1
      have fs := hf (σ (n - 1 - p)) (by omega)
      rw [s3 p p2, tn_n (by omega), decide_eq_true_iff] at this
      exact this
    have dup : ∀ p, p < r → b n ≤ b (σ (n - 1 - p)) := fun p p1 => by
      have := r4 (r - 1) (by omega)
      have z := (s1 (n - 1 - (r - 1)) (by omega)).1
      have fs := hf (σ (n - 1 - (r - 1))) (by omega)
      rw [s3 (r - 1) (by omega), tn_n (by omega), decide_eq_true_iff] at this
      have := s2 (n - 1 - (r - 1)) (n - 1 - p) (by omega) (by omega)
      omega
    have hr : n - q ≤ r := by
      by_cases c : n - q ≤ r
      · exact c
      · have h1 := dlo r (by omega) (by omega)
        have h2 := up (n - 1 - r) (by omega) (by omega)
        omega
    have eqv : ∀ p, n - q ≤ p → p < r → b (σ (n - 1 - p)) = b n := fun p p1 p2 => by
      have h1 := dup p p2
      have h2 := lo (n - 1 - p) (by omega)
      omega
    refine ⟨fun p => if p < q then σ p else if p = q then n else σ (p - 1), fun p hp => ?_, fun p p' h1 h2 => ?_, fun p hp => ?_⟩
    · have e : srI (gtK f) g (n + 1) p = insF q n (nI n) (srI (gtK f) g n) p := congrFun q2 p
      rw [e]
      unfold insF
      by_cases c1 : p < q
      · simp only [if_pos c1]
        exact ⟨by have := (s1 p (by omega)).1; omega, (s1 p (by omega)).2⟩
      · by_cases c2 : p = q
        · simp only [if_neg c1, if_pos c2]
          exact ⟨by omega, trivial⟩
        · simp only [if_neg c1, if_neg c2]
          rw [if_pos (by omega)]
          exact ⟨by have := (s1 (p - 1) (by omega)).1; omega, (s1 (p - 1) (by omega)).2⟩
    · show b (if p < q then σ p else if p = q then n else σ (p - 1)) ≤ b (if p' < q then σ p' else if p' = q then n else σ (p' - 1))
      by_cases c1 : p < q
      · rw [if_pos c1]
        by_cases d1 : p' < q
        · rw [if_pos d1]; exact s2 p p' h1 (by omega)
        · rw [if_neg d1]
          by_cases d2 : p' = q
          · rw [if_pos d2]; exact lo p c1
          · rw [if_neg d2]
            have := lo p c1
            have := up (p' - 1) (by omega) (by omega)
            omega
      · rw [if_neg c1, if_neg (show ¬ p' < q by omega)]
        by_cases c2 : p = q
        · rw [if_pos c2]
          by_cases d2 : p' = q
          · rw [if_pos d2]; omega
          · rw [if_neg d2]
            have := up (p' - 1) (by omega) (by omega)
            omega
        · rw [if_neg c2, if_neg (show ¬ p' = q by omega)]
          exact s2 (p - 1) (p' - 1) (by omega) (by omega)
    · have e : dsc b g' (n + 1) p = insF r n (nI (b n)) (dsc b g' n) p := congrFun r2 p
      rw [e]
      show insF r n (nI (b n)) (dsc b g' n) p = nI (b (if n + 1 - 1 - p < q then σ (n + 1 - 1 - p) else if n + 1 - 1 - p = q then n else σ (n + 1 - 1 - p - 1)))
      rw [show n + 1 - 1 - p = n - p by omega]
      unfold insF
      by_cases c1 : p < n - q
      · rw [if_pos (by omega), if_neg (show ¬ n - p < q by omega), if_neg (show ¬ n - p = q by omega), s3 p (by omega), show n - p - 1 = n - 1 - p by omega]
      by_cases c2 : p = n - q
      · rw [if_neg (show ¬ n - p < q by omega), if_pos (show n - p = q by omega)]
        by_cases c3 : p < r
        · rw [if_pos c3, s3 p (by omega), eqv p (by omega) c3]
        · rw [if_neg c3, if_pos (by omega)]
      · rw [if_pos (show n - p < q by omega)]
        by_cases c3 : p < r
        · have e1 := eqv p (by omega) c3
          have e2 := eqv (p - 1) (by omega) (by omega)
          rw [show n - 1 - (p - 1) = n - p by omega] at e2
          rw [if_pos c3, s3 p (by omega), e1, e2]
        · rw [if_neg c3]
          by_cases c4 : p = r
          · have e2 := eqv (p - 1) (by omega) (by omega)
            rw [show n - 1 - (p - 1) = n - p by omega] at e2
            rw [if_pos c4, e2]
          · rw [if_neg c4, if_pos (by omega), s3 (p - 1) (by omega), show n - 1 - (p - 1) = n - p by omega]
end
section
variable {wq : Prop}
theorem m_bt_in {F i y : Nat} {b : Nat → Nat} {μ : Mem} (hi : i < 40) (hb : μ 96 i = nI (b i)) (lb : b i ≤ 100000) (rec17 : Int32 → Int32 → Mem → Option (Int32 × Mem)) : ∀ (j n : Nat) (g : Nat → Int32), j ≤ i → j < n → (∀ p, p < j → ∃ w, w ≤ 100000 ∧ g p = nI w) → fX9_batches_29 F rec17 n (nI y) (nI i) (nI j) (upM μ 116 g) = rec17 (nI y) (nI (i + 1)) (upM μ 116 (shI (fun v => decide (v < b i)) (nI (b i)) j g)) := by
  have l96 : i < ln 96 := by show i < 240; omega
  intro j
  induction j with
  | zero =>
    intro n g hj hn hg
    obtain ⟨n, rfl⟩ : ∃ n', n = n' + 1 := ⟨n - 1, by omega⟩
    show fX9_batches_29_b F rec17 _ _ _ _ _ = _
    unfold fX9_batches_29_b fX9_batches_70
    rw [if_pos (show nI 0 ≤ 0 by decide), rd_n l96, upM_ne (by omega), hb, wr_n (by decide), nI_add1, upM_upM, upM_self]
    rfl
  | succ j ih =>
    intro n g hj hn hg
    obtain ⟨n, rfl⟩ : ∃ n', n = n' + 1 := ⟨n - 1, by omega⟩
    obtain ⟨w, hw, ew⟩ := hg j (by omega)
    have e : shI (fun v => decide (v < b i)) (nI (b i)) (j + 1) g = if w < b i then shI (fun v => decide (v < b i)) (nI (b i)) j (upd g (j + 1) (g j)) else upd g (j + 1) (nI (b i)) := by
      show (if decide (tn (g j) < b i) = true then _ else _) = _
      rw [ew, tn_n (by omega)]
      by_cases c : w < b i
      · rw [if_pos (decide_eq_true c), if_pos c]
      · rw [if_neg (fun q => c (of_decide_eq_true q)), if_neg c]
    show fX9_batches_29_b F rec17 _ _ _ _ _ = _
    unfold fX9_batches_29_b fX9_batches_70
    rw [show (0 : Int32) = nI 0 from rfl, if_neg (nI_ge (by omega) (by omega)), show (1 : Int32) = nI 1 from rfl, nI_sub (by omega), show j + 1 - 1 = j by omega, rd_n (by show j < 40; omega), upM_self, ew, rd_n l96, upM_ne (by omega), hb, ifle (by omega) (by omega), e]
    by_cases c : w < b i
    · rw [if_neg (by omega), if_pos c, rd_n (by show j < 40; omega), upM_self, ew, wr_n (by show j + 1 < 40; omega), upM_upM, upM_self, show nI (j + 1) + -nI 1 = nI j from nI_addm1 j]
      exact ih n _ (by omega) (by omega) (fun p hp => by rw [upd_ne (by omega)]; exact hg p (by omega))
    · rw [if_pos (by omega), if_neg c, rd_n l96, upM_ne (by omega), hb, wr_n (by show j + 1 < 40; omega), upM_upM, upM_self, show nI i + nI 1 = nI (i + 1) from nI_add1 i]
theorem m_bt_loop {N y : Nat} {b : Nat → Nat} {f : Nat → Int32} {μ : Mem} (hN : N ≤ 40) (h : μ 94 0 = nI N) (hb : ∀ s, s < N → b s ≤ 100000 ∧ μ 96 s = nI (b s)) : ∀ (d n i : Nat), i + d = N → d < n → fX9_batches_17 FF n (nI y) (nI i) (upM μ 116 (dsc b (μ 116) i)) = fX9_batches_92 FF FF (nI y) 0 0 (upM μ 116 (dsc b (μ 116) N)) := by
  intro d
  induction d with
  | zero =>
    intro n i hi hn
    obtain ⟨n, rfl⟩ : ∃ n', n = n' + 1 := ⟨n - 1, by omega⟩
    show fX9_batches_17_b FF _ _ _ _ = _
    unfold fX9_batches_17_b
    rw [show (0 : Int32) = nI 0 from rfl, rd_n (by decide), upM_ne (by omega), h, if_pos (nI_le (by omega) (by omega)), show i = N by omega]
  | succ d ih =>
    intro n i hi hn
    obtain ⟨n, rfl⟩ : ∃ n', n = n' + 1 := ⟨n - 1, by omega⟩
    obtain ⟨σ, s1, s2, s3⟩ := up_down (b := b) (f := μ 96) (g := f) (g' := μ 116) hN hb i (by omega)
    show fX9_batches_17_b FF _ _ _ _ = _
    unfold fX9_batches_17_b
    rw [show (0 : Int32) = nI 0 from rfl, rd_n (by decide), upM_ne (by omega), h, if_neg (nI_ge (by omega) (by omega)), m_bt_in (b := b) (by omega) (hb i (by omega)).2 (hb i (by omega)).1 _ i FF _ (by omega) (by rw [FF_e]; omega) (fun p hp => ⟨_, (hb (σ (i - 1 - p)) (by have := (s1 (i - 1 - p) (by omega)).1; omega)).1, s3 p hp⟩)]
    exact ih n (i + 1) (by omega) (by omega)
theorem bt_sum {N y : Nat} {μ μ' : Mem} {b : Nat → Nat} {σ : Nat → Nat} (hN : N ≤ 40) (hy : 1 ≤ y) (hy4 : y ≤ 40) (h94 : μ' 94 0 = nI N) (hσ : ∀ p, p < N → σ p < N ∧ μ 79 p = nI (σ p)) (hb : ∀ s, s < N → μ 11 s = nI (b s)) (hd : ∀ p, p < N → μ' 116 p = nI (b (σ (N - 1 - p)))) : ∀ (d n n' p : Nat) (acc c : Int32), N ≤ p + d → d < n → d < n' → p ≤ N + 40 → c.toInt = (N : Int) - 1 - p → ∃ R, fX8_batches_47 FF n (nI y) acc c μ = some (R, μ) ∧ fX9_batches_92 FF n' (nI y) acc (nI p) μ' = some (R, μ') := by
  intro d
  induction d with
  | zero =>
    intro n n' p acc c hp hn hn' hp2 hc
    obtain ⟨n, rfl⟩ : ∃ n', n = n' + 1 := ⟨n - 1, by omega⟩
    obtain ⟨n', rfl⟩ : ∃ q, n' = q + 1 := ⟨n' - 1, by omega⟩
    refine ⟨acc, ?_, ?_⟩
    · show fX8_batches_47_b FF _ _ _ _ _ = _
      unfold fX8_batches_47_b
      rw [if_pos (by rw [Int32.lt_iff_toInt_lt, hc, toInt_0]; omega)]
    · show fX9_batches_92_b FF _ _ _ _ _ = _
      unfold fX9_batches_92_b
      rw [show (0 : Int32) = nI 0 from rfl, rd_n (by decide), h94, if_pos (nI_le (by omega) (by omega))]
  | succ d ih =>
    intro n n' p acc c hp hn hn' hp2 hc
    by_cases hlt : N ≤ p
    · obtain ⟨n, rfl⟩ : ∃ n', n = n' + 1 := ⟨n - 1, by omega⟩
      obtain ⟨n', rfl⟩ : ∃ q, n' = q + 1 := ⟨n' - 1, by omega⟩
      refine ⟨acc, ?_, ?_⟩
      · show fX8_batches_47_b FF _ _ _ _ _ = _
        unfold fX8_batches_47_b
        rw [if_pos (by rw [Int32.lt_iff_toInt_lt, hc, toInt_0]; omega)]
      · show fX9_batches_92_b FF _ _ _ _ _ = _
        unfold fX9_batches_92_b
        rw [show (0 : Int32) = nI 0 from rfl, rd_n (by decide), h94, if_pos (nI_le (by omega) (by omega))]
    · obtain ⟨n, rfl⟩ : ∃ n', n = n' + 1 := ⟨n - 1, by omega⟩
      obtain ⟨n', rfl⟩ : ∃ q, n' = q + 1 := ⟨n' - 1, by omega⟩
      obtain rfl : c = nI (N - 1 - p) := of_toInt (by omega) (by omega)
      have ey : (nI y).toInt = y := nI_toInt (by omega)
      obtain ⟨t1, t2⟩ := hσ (N - 1 - p) (by omega)
      obtain ⟨R, e1, e2⟩ := ih n n' (p + y) (acc + nI (b (σ (N - 1 - p)))) (nI (N - 1 - p) - nI y) (by omega) (by omega) (by omega) (by omega) (by rw [sub_toInt (by omega) (by omega), ey, hc]; omega)
      refine ⟨R, ?_, ?_⟩
      · show fX8_batches_47_b FF _ _ _ _ _ = _
        unfold fX8_batches_47_b
        rw [if_neg (nI_pos (by omega)), rd_n (by show N - 1 - p < 40; omega), t2, rd_n (by show σ (N - 1 - p) < 40; omega), hb _ t1]
        exact e1
      · show fX9_batches_92_b FF _ _ _ _ _ = _
        unfold fX9_batches_92_b
        rw [show (0 : Int32) = nI 0 from rfl, rd_n (by decide), h94, if_neg (nI_ge (by omega) (by omega)), rd_n (by show p < 40; omega), hd p (by omega), nI_add]
        exact e2
theorem op_batches (a : Int32) : Op wq (fX8_batches FF a) (fX9_batches FF a) := by
  intro μ hI
  obtain ⟨N, hL⟩ := hI.2.1
  have h9 : μ 9 6 = nI N := hL.2.1
  have h94 : μ 94 0 = nI N := hL.2.2.1
  have hN := hL.1
  by_cases ha : 1 ≤ a.toInt ∧ a.toInt ≤ 40
  rotate_left
  · refine ⟨-2, μ, μ, ?_, ?_, hI⟩
    · unfold fX8_batches
      by_cases q : a < 1
      · rw [if_pos q]
      · rw [if_neg q, if_neg]
        rw [Int32.lt_iff_toInt_lt, toInt_1] at q
        rw [Int32.le_iff_toInt_le, show (40 : Int32).toInt = 40 from rfl]
        omega
    · unfold fX9_batches
      rw [m_in_g (la := 1) (lb := 40) rfl rfl, if_neg ha, cal_n, if_pos rfl]
  obtain ⟨y, hy⟩ : ∃ y : Nat, a.toInt = y := ⟨a.toInt.toNat, by omega⟩
  obtain rfl : a = nI y := of_toInt hy (by omega)
  have y1 : 1 ≤ y := by omega
  have y40 : y ≤ 40 := by omega
  have hb : ∀ s, s < N → (tn (μ 11 s)) ≤ 100000 ∧ μ 11 s = nI (tn (μ 11 s)) := fun s hs => by
    obtain ⟨x, hx, e⟩ := (hL.oks.1 s hs).2.1
    rw [e, tn_n (by omega)]
    exact ⟨hx, rfl⟩
  have hb' : ∀ s, s < N → (tn (μ 11 s)) ≤ 100000 ∧ μ 96 s = nI (tn (μ 11 s)) := fun s hs => by
    rw [← (hL.eqs hs).2.1]
    exact hb s hs
  obtain ⟨μ1, hμ1⟩ : ∃ μ1, μ1 = upM μ 79 (srI (gtK (μ 11)) (μ 79) N) := ⟨_, rfl⟩
  have c1 : fX8_rank FF 11 (nI N) 79 μ = some μ1 := by rw [hμ1]; exact c_rank (by omega) (by show N ≤ 40; omega) (by show N ≤ 40; omega)
  have k1 : ∀ k, k ≠ 79 → μ1 k = μ k := fun k hk => by rw [hμ1, upM_ne hk]
  obtain ⟨σ, s1, s2, s3⟩ := up_down (b := fun s => tn (μ 11 s)) (f := μ 11) (g := μ 79) (g' := μ1 116) hN hb N (by omega)
  obtain ⟨μ2, hμ2⟩ : ∃ μ2, μ2 = upM μ1 116 (dsc (fun s => tn (μ 11 s)) (μ1 116) N) := ⟨_, rfl⟩
  have ml := m_bt_loop (N := N) (y := y) (b := fun s => tn (μ 11 s)) (f := μ 79) (μ := μ1) hN (by rw [k1 94 (by omega)]; exact h94) (fun s hs => by rw [k1 96 (by omega)]; exact hb' s hs) N FF 0 (by omega) (by rw [FF_e]; omega)
  rw [show dsc (fun s => tn (μ 11 s)) (μ1 116) 0 = μ1 116 from rfl, upM_id, ← hμ2] at ml
  have e1 : (1 : Int32) = nI 1 := rfl
  have ec : (nI N - 1).toInt = (N : Int) - 1 - (0 : Nat) := by
    have en : (nI N).toInt = N := nI_toInt (by omega)
    rw [sub_toInt (by rw [en, toInt_1]; omega) (by rw [en, toInt_1]; omega), en, toInt_1]
    omega
  obtain ⟨R, r1, r2⟩ := bt_sum (N := N) (y := y) (μ := μ1) (μ' := μ2) (b := fun s => tn (μ 11 s)) (σ := σ) hN y1 y40 (by rw [hμ2, upM_ne (by omega), k1 94 (by omega)]; exact h94) (fun p hp => ⟨(s1 p hp).1, by rw [hμ1, upM_self]; exact (s1 p hp).2⟩) (fun s hs => by rw [k1 11 (by omega)]; exact (hb s hs).2) (fun p hp => by rw [hμ2, upM_self]; exact s3 p hp) N FF FF 0 0 (nI N - 1) (by omega) (by rw [FF_e]; omega) (by rw [FF_e]; omega) (by omega) ec
  have hp : (1 : Int) ≤ (nI y).toInt ∧ (nI y).toInt ≤ 40 := ha
  refine ⟨R, μ1, μ2, ?_, ?_, ?_⟩
  · unfold fX8_batches
    rw [if_neg (show ¬ nI y < (1 : Int32) from fun q => absurd ((nI_ltI (a := y) (b := 1) (by omega) (by omega)).mp q) (by omega)), if_pos (show nI y ≤ (40 : Int32) from nI_le (b := 40) (by omega) (by omega)), h9, c1, cav_n, k1 9 (by omega), h9]
    exact r1
  · unfold fX9_batches
    rw [m_in_g (la := 1) (lb := 40) rfl rfl, if_pos hp, cal_n, if_neg one_ne]
    exact ml.trans r2
  · have g : Ag [79, 116] [] μ μ2 := by
      rw [hμ2, hμ1]
      exact (Ag.up (by decide) (by decide)).tr (Ag.up (by decide) (by decide))
    obtain ⟨i1, i2, i3, i4, i5, i6⟩ := hI
    exact ⟨i1.ag g, i2.ag g, i3.ag g, i4.ag g (by rw [g.at 9]), i5.ag g, i6.ag g⟩
end
section
/-! prices -/
theorem i_ma (a b c : Int32) : a * (b + c) = a * b + a * c := Int32.mul_add
theorem i_aa (a b c : Int32) : a + b + c = a + (b + c) := Int32.add_assoc a b c
theorem i_ac (a b : Int32) : a + b = b + a := Int32.add_comm a b
theorem i_m1 (a : Int32) : a * 1 = a := Int32.mul_one a
theorem i_m0 (a : Int32) : a * 0 = 0 := Int32.mul_zero
theorem i_1m (a : Int32) : 1 * a = a := Int32.one_mul a
theorem i_0m (a : Int32) : 0 * a = 0 := Int32.zero_mul
theorem i_0a (a : Int32) : 0 + a = a := Int32.zero_add a
theorem i_a0 (a : Int32) : a + 0 = a := Int32.add_zero a
theorem i_as (a b : Int32) : a + b - a = b := by rw [i_ac, Int32.add_sub_cancel]
end
section
theorem nI_div50 {i : Nat} (h : i < 2 ^ 31) : nI i / 50 = nI (i / 50) := by
  apply Int32.toInt_inj.mp
  rw [Int32.toInt_div_of_ne_right _ _ (by decide), nI_toInt h, nI_toInt (by omega), show (50 : Int32).toInt = 50 from rfl, Int.tdiv_eq_ediv_of_nonneg (by omega)]
  omega
theorem imax_sub {a b : Nat} (ha : a < 2 ^ 31) (hb : b < 2 ^ 31) : imax 0 (nI a - nI b) = nI (a - b) := by
  have ea : (nI a).toInt = a := nI_toInt ha
  have eb : (nI b).toInt = b := nI_toInt hb
  have es : (nI a - nI b).toInt = (a : Int) - b := by rw [sub_toInt (by omega) (by omega), ea, eb]
  unfold imax
  by_cases h : 0 < nI a - nI b
  · rw [if_pos h, nI_sub]
    rw [Int32.lt_iff_toInt_lt, es, toInt_0] at h
    omega
  · rw [if_neg h]
    rw [Int32.lt_iff_toInt_lt, es, toInt_0] at h
    rw [show a - b = 0 by omega]
    rfl
def part (s x : Nat) : Nat := (if s = 7 then x else min x (50 * s + 50)) - 50 * s
def pS (p : Nat → Int32) (x n : Nat) : Int32 := sumF (fun s => p s * nI (part s x)) n
theorem c_below_loop {F k x : Nat} {μ : Mem} (hk : ln k = 8) (hx : x < 2 ^ 30) : ∀ (d n i : Nat), i + d = 8 → d < n → fX4_below_4 F k n (nI x) (pS (μ k) x i) (nI i) μ = some (pS (μ k) x 8, μ) := by
  intro d
  induction d with
  | zero =>
    intro n i hi hn
    obtain ⟨n, rfl⟩ : ∃ n', n = n' + 1 := ⟨n - 1, by omega⟩
    obtain rfl : i = 8 := by omega
    show fX4_below_4_b F k _ _ _ _ μ = _
    unfold fX4_below_4_b
    rw [if_pos (show (8 : Int32) ≤ nI 8 by decide)]
  | succ d ih =>
    intro n i hi hn
    obtain ⟨n, rfl⟩ : ∃ n', n = n' + 1 := ⟨n - 1, by omega⟩
    have e : ∀ z, z < 2 ^ 31 → z = (if i = 7 then x else min x (50 * i + 50)) → fX4_below_37 F k (fX4_below_4 F k n) (nI x) (pS (μ k) x i) (nI i) (nI i * nI 50) (nI z) μ = some (pS (μ k) x 8, μ) := by
      intro z hz1 hz
      have ep : pS (μ k) x i + μ k i * nI (z - i * 50) = pS (μ k) x (i + 1) := by
        show _ = pS (μ k) x i + μ k i * nI (part i x)
        unfold part
        rw [← hz, show i * 50 = 50 * i by omega]
      unfold fX4_below_37
      rw [rd_n (by omega), pk_mul, imax_sub hz1 (by omega), nI_add1, ep]
      exact ih n (i + 1) (by omega) (by omega)
    show fX4_below_4_b F k _ _ _ _ μ = _
    unfold fX4_below_4_b
    rw [show (8 : Int32) = nI 8 from rfl, if_neg (nI_ge (by omega) (by omega)), nI_add1, ifle (by omega) (by omega), show (50 : Int32) = nI 50 from rfl]
    by_cases c : 8 ≤ i + 1
    · rw [if_pos c]
      exact e x (by omega) (by rw [if_pos (show i = 7 by omega)])
    · rw [if_neg c, show nI i * nI 50 + nI 50 = nI (50 * i + 50) from by rw [pk_mul, nI_add, show i * 50 = 50 * i by omega], imin_n (by omega) (by omega)]
      exact e (min x (50 * i + 50)) (by omega) (by rw [if_neg (show ¬ i = 7 by omega)])
theorem c_below {k x : Nat} {μ : Mem} (hk : ln k = 8) (hx : x < 2 ^ 30) : fX4_below FF k (nI x) μ = some (pS (μ k) x 8, μ) :=
  c_below_loop hk hx 8 FF 0 (by omega) (by rw [FF_e]; omega)
theorem pS_s {p : Nat → Int32} {x : Nat} (hx : x < 400) : ∀ n, n ≤ 8 → pS p (x + 1) n = pS p x n + if x / 50 < n then p (x / 50) else 0
  | 0, _ => by
    rw [if_neg (by omega)]
    rfl
  | n + 1, hn => by
    have ih := pS_s (p := p) hx n (by omega)
    show pS p (x + 1) n + p n * nI (part n (x + 1)) = (pS p x n + p n * nI (part n x)) + _
    rw [ih]
    by_cases c1 : x / 50 < n
    · have e : part n (x + 1) = part n x := by
        unfold part
        by_cases c : n = 7
        · rw [if_pos c, if_pos c]; omega
        · rw [if_neg c, if_neg c]; omega
      rw [if_pos c1, if_pos (by omega), e, i_aa, i_aa, i_ac (p (x / 50))]
    · rw [if_neg c1, i_a0]
      by_cases c2 : x / 50 = n
      · have e : part n (x + 1) = part n x + 1 := by
          unfold part
          by_cases c : n = 7
          · rw [if_pos c, if_pos c]; omega
          · rw [if_neg c, if_neg c]; omega
        rw [if_pos (by omega), e, ← nI_add1, i_ma, i_m1, c2, i_aa]
      · have e : part n (x + 1) = part n x := by
          unfold part
          by_cases c : n = 7
          · rw [if_pos c, if_pos c]; omega
          · rw [if_neg c, if_neg c]; omega
        rw [if_neg (by omega), e, i_a0]
def CC (p : Nat → Int32) (x : Nat) : Int32 := sumF (fun u => p (u / 50)) x
theorem pS_0 {p : Nat → Int32} : ∀ n, pS p 0 n = 0
  | 0 => rfl
  | n + 1 => by
    show pS p 0 n + p n * nI (part n 0) = 0
    have e : part n 0 = 0 := by
      unfold part
      by_cases c : n = 7
      · rw [if_pos c]; omega
      · rw [if_neg c]; omega
    rw [pS_0 n, e, show nI 0 = (0 : Int32) from rfl, i_m0, i_0a]
theorem pS_CC {p : Nat → Int32} : ∀ x, x ≤ 400 → pS p x 8 = CC p x
  | 0, _ => pS_0 8
  | x + 1, hx => by
    rw [pS_s (by omega) 8 (by omega), if_pos (by omega), pS_CC x (by omega)]
    rfl
theorem sumF_add {f : Nat → Int32} {a : Nat} : ∀ n, sumF f (a + n) = sumF f a + sumF (fun j => f (a + j)) n
  | 0 => by rw [show a + 0 = a from rfl]; exact (i_a0 _).symm
  | n + 1 => by
    show sumF f (a + n) + f (a + n) = sumF f a + (sumF (fun j => f (a + j)) n + f (a + n))
    rw [sumF_add n, i_aa]
def goC (U D : Nat → Int32) (a b : Nat) : Int32 := if b ≤ a then CC D a - CC D b else CC U b - CC U a
theorem c_going {a b : Nat} {μ : Mem} (ha : a ≤ 399) (hb : b ≤ 399) : fX4_going FF 73 (nI a) (nI b) μ = some (goC (μ 74) (μ 75) a b, μ) := by
  unfold fX4_going goC
  rw [ifle (by omega) (by omega)]
  by_cases c : b ≤ a
  · rw [if_pos c, if_pos c, show 73 + 1 + 1 = 75 from rfl, c_below rfl (by omega), cal_n, c_below rfl (by omega), cal_n, pS_CC a (by omega), pS_CC b (by omega)]
  · rw [if_neg c, if_neg c, show 73 + 1 + 0 = 74 from rfl, c_below rfl (by omega), cal_n, c_below rfl (by omega), cal_n, pS_CC a (by omega), pS_CC b (by omega)]
theorem m_btw_loop {F lo hi : Nat} {y3 y4 : Int32} {μ : Mem} (hh : hi ≤ 400) (h22 : ¬ μ 89 22 = 0) : ∀ (d n i : Nat), lo + i + d = hi → d < n → fX9_between_6 F n (nI lo) (nI hi) y3 y4 (sumF (fun j => y3 * μ 101 ((lo + j) / 50) + y4 * μ 102 ((lo + j) / 50)) i) (nI (lo + i)) μ = some (sumF (fun j => y3 * μ 101 ((lo + j) / 50) + y4 * μ 102 ((lo + j) / 50)) (hi - lo), μ) := by
  intro d
  induction d with
  | zero =>
    intro n i hi2 hn
    obtain ⟨n, rfl⟩ : ∃ n', n = n' + 1 := ⟨n - 1, by omega⟩
    show fX9_between_6_b F _ _ _ _ _ _ _ μ = _
    unfold fX9_between_6_b fX9_between_56
    rw [if_pos (nI_le (by omega) (by omega)), if_neg h22, show hi - lo = i by omega]
  | succ d ih =>
    intro n i hi2 hn
    obtain ⟨n, rfl⟩ : ∃ n', n = n' + 1 := ⟨n - 1, by omega⟩
    show fX9_between_6_b F _ _ _ _ _ _ _ μ = _
    unfold fX9_between_6_b
    rw [if_neg (nI_ge (by omega) (by omega)), if_neg h22, nI_div50 (by omega), rd_n (by show _ < 8; omega), rd_n (by show _ < 8; omega), nI_add1]
    exact ih n (i + 1) (by omega) (by omega)
theorem m_btw {lo hi : Nat} {y3 y4 : Int32} {μ : Mem} (hl : lo ≤ hi) (hh : hi ≤ 400) (h22 : ¬ μ 89 22 = 0) : fX9_between FF (nI lo) (nI hi) y3 y4 μ = some (sumF (fun j => y3 * μ 101 ((lo + j) / 50) + y4 * μ 102 ((lo + j) / 50)) (hi - lo), μ) :=
  m_btw_loop (F := FF) hh h22 (hi - lo) FF 0 (by omega) (by rw [FF_e]; omega)
theorem m_costOf {a b : Nat} {μ : Mem} (ha : a ≤ 399) (hb : b ≤ 399) (h22 : ¬ μ 89 22 = 0) : fX9_costOf FF (nI a) (nI b) μ = some (goC (μ 101) (μ 102) a b, μ) := by
  unfold fX9_costOf goC
  rw [ifle (by omega) (by omega)]
  by_cases c : b ≤ a
  · rw [if_pos c, if_pos c, m_btw c (by omega) h22, cal_n]
    have e := sumF_add (f := fun u => μ 102 (u / 50)) (a := b) (a - b)
    rw [show b + (a - b) = a by omega] at e
    have e2 : sumF (fun j => (0 : Int32) * μ 101 ((b + j) / 50) + 1 * μ 102 ((b + j) / 50)) (a - b) = sumF (fun j => μ 102 ((b + j) / 50)) (a - b) := sumF_congr (fun i hi => by rw [i_0m, i_1m, i_0a])
    rw [e2]
    unfold CC
    rw [e, i_as]
  · rw [if_neg c, if_neg c, m_btw (by omega) (by omega) h22, cal_n]
    have e := sumF_add (f := fun u => μ 101 (u / 50)) (a := a) (b - a)
    rw [show a + (b - a) = b by omega] at e
    have e2 : sumF (fun j => (1 : Int32) * μ 101 ((a + j) / 50) + 0 * μ 102 ((a + j) / 50)) (b - a) = sumF (fun j => μ 101 ((a + j) / 50)) (b - a) := sumF_congr (fun i hi => by rw [i_0m, i_1m, i_a0])
    rw [e2]
    unfold CC
    rw [e, i_as]
theorem goC_congr {U D U' D' : Nat → Int32} {a b : Nat} (ha : a ≤ 399) (hb : b ≤ 399) (h : ∀ i, i < 8 → U i = U' i ∧ D i = D' i) : goC U D a b = goC U' D' a b := by
  have eU : ∀ x, x ≤ 399 → CC U x = CC U' x := fun x hx => sumF_congr (fun u hu => (h (u / 50) (by omega)).1)
  have eD : ∀ x, x ≤ 399 → CC D x = CC D' x := fun x hx => sumF_congr (fun u hu => (h (u / 50) (by omega)).2)
  unfold goC
  rw [eU a ha, eU b hb, eD a ha, eD b hb]
end
section
/-! the cost of a row -/
variable {wq : Prop}
def nxt (N i : Nat) : Nat := if N ≤ i + 1 then 0 else i + 1
def wy (U D f t : Nat → Int32) (N : Nat) (σ : Nat → Nat) (i : Nat) : Int32 := goC U D (tn (t (σ i))) (tn (f (σ (nxt N i))))
def Dg (N : Nat) (f t : Nat → Int32) : Prop := ∀ i, i < N → (tn (f i) ≤ 399 ∧ f i = nI (tn (f i))) ∧ tn (t i) ≤ 399 ∧ t i = nI (tn (t i))
theorem RelN.dg {N : Nat} {μ : Mem} (hL : RelN wq N (CL μ) (MT μ 0)) : Dg N (μ 12) (μ 13) := fun i hi => by
  obtain ⟨-, -, ⟨x, hx, ex⟩, ⟨y, hy, ey⟩⟩ := hL.oks.1 i hi
  rw [ex, ey, tn_n (by omega), tn_n (by omega)]
  exact ⟨⟨hx, rfl⟩, hy, rfl⟩
theorem c_cost_loop {N : Nat} {σ : Nat → Nat} {μ : Mem} (hN : N ≤ 40) (h9 : μ 9 6 = nI N) (hσ : ∀ p, p < N → σ p < N ∧ μ 14 p = nI (σ p)) (hd : Dg N (μ 12) (μ 13)) : ∀ (d n i : Nat), i + d = N → d < n → fX8_cost_4 FF n (sumF (wy (μ 74) (μ 75) (μ 12) (μ 13) N σ) i) (nI i) μ = some (sumF (wy (μ 74) (μ 75) (μ 12) (μ 13) N σ) N, μ) := by
  intro d
  induction d with
  | zero =>
    intro n i hi hn
    obtain ⟨n, rfl⟩ : ∃ n', n = n' + 1 := ⟨n - 1, by omega⟩
    show fX8_cost_4_b FF _ _ _ μ = _
    unfold fX8_cost_4_b
    rw [h9, if_pos (nI_le (by omega) (by omega)), show i = N by omega]
  | succ d ih =>
    intro n i hi hn
    obtain ⟨n, rfl⟩ : ∃ n', n = n' + 1 := ⟨n - 1, by omega⟩
    have hx : nxt N i < N := by
      unfold nxt
      by_cases c : N ≤ i + 1
      · rw [if_pos c]; omega
      · rw [if_neg c]; omega
    obtain ⟨a1, a2⟩ := hσ i (by omega)
    obtain ⟨b1, b2⟩ := hσ (nxt N i) hx
    have e : fX8_cost_35 FF (fX8_cost_4 FF n) (sumF (wy (μ 74) (μ 75) (μ 12) (μ 13) N σ) i) (nI i) (nI (nxt N i)) μ = some (sumF (wy (μ 74) (μ 75) (μ 12) (μ 13) N σ) N, μ) := by
      unfold fX8_cost_35 fX8_wayBetween
      rw [rd_n (by show i < 40; omega), rd_n (by show nxt N i < 40; omega), a2, b2, rd_n (by show σ i < 40; omega), rd_n (by show σ (nxt N i) < 40; omega), (hd (σ i) a1).2.2, (hd (σ (nxt N i)) b1).1.2, c_going (hd (σ i) a1).2.1 (hd (σ (nxt N i)) b1).1.1, cal_n, cal_n, nI_add1]
      exact ih n (i + 1) (by omega) (by omega)
    show fX8_cost_4_b FF _ _ _ μ = _
    unfold fX8_cost_4_b
    rw [h9, if_neg (nI_ge (by omega) (by omega)), nI_add1, ifle (by omega) (by omega)]
    unfold nxt at e
    by_cases c : N ≤ i + 1
    · rw [if_pos c] at e ⊢
      exact e
    · rw [if_neg c] at e ⊢
      exact e
theorem m_cost_loop {N k1 : Nat} {σ : Nat → Nat} {μ : Mem} (hN : N ≤ 40) (hk : N ≤ ln k1) (hσ : ∀ p, p < N → σ p < N ∧ μ k1 p = nI (σ p)) (hd : Dg N (μ 97) (μ 98)) (h22 : ¬ μ 89 22 = 0) : ∀ (d n i : Nat), i + d = N → d < n → fX9_roundCost_17 FF k1 n (nI N) (sumF (wy (μ 101) (μ 102) (μ 97) (μ 98) N σ) i) (nI i) μ = some (sumF (wy (μ 101) (μ 102) (μ 97) (μ 98) N σ) N, μ) := by
  intro d
  induction d with
  | zero =>
    intro n i hi hn
    obtain ⟨n, rfl⟩ : ∃ n', n = n' + 1 := ⟨n - 1, by omega⟩
    show fX9_roundCost_17_b FF k1 _ _ _ _ μ = _
    unfold fX9_roundCost_17_b
    rw [if_pos (nI_le (by omega) (by omega)), show i = N by omega]
  | succ d ih =>
    intro n i hi hn
    obtain ⟨n, rfl⟩ : ∃ n', n = n' + 1 := ⟨n - 1, by omega⟩
    have hx : nxt N i < N := by
      unfold nxt
      by_cases c : N ≤ i + 1
      · rw [if_pos c]; omega
      · rw [if_neg c]; omega
    obtain ⟨a1, a2⟩ := hσ i (by omega)
    obtain ⟨b1, b2⟩ := hσ (nxt N i) hx
    have e : fX9_roundCost_43 FF k1 (fX9_roundCost_17 FF k1 n) (nI N) (sumF (wy (μ 101) (μ 102) (μ 97) (μ 98) N σ) i) (nI i) (nI (σ (nxt N i))) μ = some (sumF (wy (μ 101) (μ 102) (μ 97) (μ 98) N σ) N, μ) := by
      unfold fX9_roundCost_43
      rw [rd_n (by omega), a2, rd_n (by show σ i < 240; omega), rd_n (by show σ (nxt N i) < 240; omega), (hd (σ i) a1).2.2, (hd (σ (nxt N i)) b1).1.2, m_costOf (hd (σ i) a1).2.1 (hd (σ (nxt N i)) b1).1.1 h22, cal_n, nI_add1]
      exact ih n (i + 1) (by omega) (by omega)
    show fX9_roundCost_17_b FF k1 _ _ _ _ μ = _
    unfold fX9_roundCost_17_b
    rw [if_neg (nI_ge (by omega) (by omega)), nI_add1, ifeq (by omega) (by omega)]
    unfold nxt at e b2
    by_cases c : i + 1 = N
    · rw [if_pos (show N ≤ i + 1 by omega)] at e b2
      rw [if_pos c, show (0 : Int32) = nI 0 from rfl, rd_n (by omega), b2]
      exact e
    · rw [if_neg (show ¬ N ≤ i + 1 by omega)] at e b2
      rw [if_neg c, rd_n (by omega), b2]
      exact e
theorem wy_congr {U D f t U' D' f' t' : Nat → Int32} {N : Nat} {σ : Nat → Nat} (hσ : ∀ p, p < N → σ p < N) (hd : Dg N f t) (hf : ∀ s, s < N → f s = f' s ∧ t s = t' s) (hp : ∀ i, i < 8 → U i = U' i ∧ D i = D' i) : ∀ i, i < N → wy U D f t N σ i = wy U' D' f' t' N σ i := by
  intro i hi
  have hx : nxt N i < N := by
    unfold nxt
    by_cases c : N ≤ i + 1
    · rw [if_pos c]; omega
    · rw [if_neg c]; omega
  unfold wy
  rw [← (hf _ (hσ i hi)).2, ← (hf _ (hσ _ hx)).1]
  exact goC_congr (hd _ (hσ i hi)).2.1 (hd _ (hσ _ hx)).1.1 hp
theorem op_cost : OpW wq (fX8_cost FF) (fX9_cost FF) := by
  intro μ hI
  obtain ⟨N, hL⟩ := hI.2.1
  have h9 : μ 9 6 = nI N := hL.2.1
  have h94 : μ 94 0 = nI N := hL.2.2.1
  have hN := hL.1
  obtain ⟨σ, σ', hσ, hσ', hq⟩ := hL.sig
  obtain ⟨μ2, hμ2⟩ : ∃ μ2, μ2 = upM μ 89 (upd (μ 89) 22 1) := ⟨_, rfl⟩
  have k : ∀ c, c ≠ 89 → μ2 c = μ c := fun c hc => by rw [hμ2, upM_ne hc]
  have eqs : ∀ s, s < N → μ 12 s = μ 97 s ∧ μ 13 s = μ 98 s := fun s hs => ⟨(hL.eqs hs).2.2.1, (hL.eqs hs).2.2.2.1⟩
  have dm : Dg N (μ2 97) (μ2 98) := fun i hi => by
    rw [k 97 (by omega), k 98 (by omega), ← (eqs i hi).1, ← (eqs i hi).2]
    exact hL.dg i hi
  have cl := c_cost_loop hN h9 hσ hL.dg N FF 0 (by omega) (by rw [FF_e]; omega)
  have ml := m_cost_loop (k1 := 99) (σ := σ') (μ := μ2) hN (show N ≤ ln 99 by show N ≤ 240; omega) (fun p hp => ⟨(hσ' p hp).1, by rw [k 99 (by omega)]; exact (hσ' p hp).2⟩) dm (by rw [hμ2, upM_self, upd_s]; decide) N FF 0 (by omega) (by rw [FF_e]; omega)
  rw [k 101 (by omega), k 102 (by omega), k 97 (by omega), k 98 (by omega)] at ml
  have hp : ∀ i, i < 8 → μ 74 i = μ 101 i ∧ μ 75 i = μ 102 i := fun i hi => ⟨(hI.2.2.2.2.2 i hi).1, (hI.2.2.2.2.2 i hi).2.1⟩
  have ew := sumF_congr (n := N) (wy_congr (fun p hp => (hσ p hp).1) hL.dg eqs hp)
  refine ⟨sumF (wy (μ 74) (μ 75) (μ 12) (μ 13) N σ) N, sumF (wy (μ 101) (μ 102) (μ 97) (μ 98) N σ') N, μ, μ2, cl, ?_, ?_, fun q => by rw [hq q]; exact ew⟩
  · unfold fX9_cost fX9_roundCost
    rw [show (0 : Int32) = nI 0 from rfl, rd_n (by decide), h94, st_n, ← hμ2]
    exact (congrArg (fun o => cal o (fun r2 m1 => some (r2, m1))) ml).trans (by rw [cal_n])
  · have g : Ag [] [22] μ μ2 := by
      rw [hμ2]
      exact Ag.fl (by decide)
    obtain ⟨i1, i2, i3, i4, i5, i6⟩ := hI
    exact ⟨i1.ag g, i2.ag g, i3.ag g (by exact ⟨fun k _ _ => by simp, by simp⟩), i4.ag g (by rw [g.at 9]), i5.ag g, i6.ag g⟩
end
