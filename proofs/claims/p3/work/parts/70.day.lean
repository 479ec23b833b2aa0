/-! the day -/
theorem wr_x {μ : Mem} {k i : Nat} (v : Int32) (h : i < ln k) : ∃ m' : Mem, (∀ {α : Type} (f : Mem → Option α), wr μ k (nI i) v f = f m') ∧ m' k i = v ∧ (∀ j, j ≠ i → m' k j = μ k j) ∧ ∀ c, c ≠ k → m' c = μ c :=
  ⟨upM μ k (upd (μ k) i v), fun f => wr_n h, by rw [upM_self, upd_s], fun j hj => by rw [upM_self, upd_ne hj], fun c hc => upM_ne hc⟩
theorem imax_ge {a b : Int32} : (if b ≤ a then a else b) = imax a b := by
  unfold imax
  by_cases h : a < b
  · rw [if_pos h, if_neg]
    rw [Int32.le_iff_toInt_le]
    rw [Int32.lt_iff_toInt_lt] at h
    omega
  · rw [if_neg h, if_pos]
    rw [Int32.le_iff_toInt_le]
    rw [Int32.lt_iff_toInt_lt] at h
    omega
def dSt (l : Nat) (x mf ov : Int32) : Int32 := if l = 0 then imax mf (ov - x) else mf
/-- behind each place: when the mixer is free, when the oven is, when each loaf goes in -/
def dy (l m : Nat) (X B : Nat → Int32) : Nat → Int32 × Int32 × (Nat → Int32)
  | 0 => (0, 0, zz)
  | i + 1 => (if l = 2 then (if i < m then dSt l (X i) (dy l m X B i).1 (dy l m X B i).2.1 + X i else imax (dSt l (X i) (dy l m X B i).1 (dy l m X B i).2.1 + X i) ((dy l m X B i).2.2 (i - m))) else dSt l (X i) (dy l m X B i).1 (dy l m X B i).2.1 + X i, imax (dSt l (X i) (dy l m X B i).1 (dy l m X B i).2.1 + X i) (dy l m X B i).2.1 + B i, upd (dy l m X B i).2.2 i (imax (dSt l (X i) (dy l m X B i).1 (dy l m X B i).2.1 + X i) (dy l m X B i).2.1))
def sA (l m : Nat) (X B : Nat → Int32) (i : Nat) : Int32 := dSt l (X i) (dy l m X B i).1 (dy l m X B i).2.1
def sB (l m : Nat) (X B : Nat → Int32) (i : Nat) : Int32 := sA l m X B i + X i
def sC (l m : Nat) (X B : Nat → Int32) (i : Nat) : Int32 := imax (sB l m X B i) (dy l m X B i).2.1
theorem dy_1 {l m : Nat} {X B : Nat → Int32} {i : Nat} : (dy l m X B (i + 1)).1 = if l = 2 then (if i < m then sB l m X B i else imax (sB l m X B i) ((dy l m X B i).2.2 (i - m))) else sB l m X B i := rfl
theorem dy_2 {l m : Nat} {X B : Nat → Int32} {i : Nat} : (dy l m X B (i + 1)).2.1 = sC l m X B i + B i := rfl
theorem dy_3 {l m : Nat} {X B : Nat → Int32} : ∀ {i j : Nat}, j < i → (dy l m X B i).2.2 j = sC l m X B j
  | 0, _, h => by omega
  | i + 1, j, h => by
    show upd (dy l m X B i).2.2 i (sC l m X B i) j = _
    by_cases e : j = i
    · rw [e, upd_s]
    · rw [upd_ne e]
      exact dy_3 (by omega)
def KN (l m : Nat) (X B : Nat → Int32) (i : Nat) (μ : Mem) : Prop := ∀ p, p < i → μ 56 p = sA l m X B p ∧ μ 57 p = sB l m X B p ∧ μ 58 p = sC l m X B p ∧ μ 59 p = (dy l m X B (p + 1)).2.1 ∧ μ 60 p = (dy l m X B (p + 1)).1
theorem c_lay {l m : Nat} {X B : Nat → Int32} {i : Nat} {μ : Mem} (hi : i < 40) (hl : l ≤ 2) (hm : m ≤ 5) (h2 : l = 2 → 1 ≤ m) (h5 : μ 55 5 = nI l) (h6 : μ 55 6 = nI m) (hk : KN l m X B i μ) : ∃ μ', fX1_lay FF (nI i) (X i) (B i) μ = some μ' ∧ (∀ k, k < 56 ∨ 60 < k → μ' k = μ k) ∧ KN l m X B (i + 1) μ' := by
  have e1 : fX1_lay FF (nI i) (X i) (B i) μ = fX1_lay_16 FF (nI i) (X i) (B i) (dy l m X B i).1 μ := by
    unfold fX1_lay
    by_cases h0 : i = 0
    · subst h0
      rw [if_pos (show nI 0 = 0 from rfl)]
      rfl
    · rw [if_neg (show ¬ nI i = (0 : Int32) from fun q => h0 (nI_inj (b := 0) (by omega) (by omega) q)), show (1 : Int32) = nI 1 from rfl, nI_sub (by omega), rd_n (by show _ < 40; omega), (hk (i - 1) (by omega)).2.2.2.2, show i - 1 + 1 = i by omega]
  have e2 : fX1_lay_16 FF (nI i) (X i) (B i) (dy l m X B i).1 μ = fX1_lay_34 FF (nI i) (X i) (B i) (dy l m X B i).1 (dy l m X B i).2.1 μ := by
    unfold fX1_lay_16
    by_cases h0 : i = 0
    · subst h0
      rw [if_pos (show nI 0 = 0 from rfl)]
      rfl
    · rw [if_neg (show ¬ nI i = (0 : Int32) from fun q => h0 (nI_inj (b := 0) (by omega) (by omega) q)), show (1 : Int32) = nI 1 from rfl, nI_sub (by omega), rd_n (by show _ < 40; omega), (hk (i - 1) (by omega)).2.2.2.1, show i - 1 + 1 = i by omega]
  have e3 : fX1_lay_34 FF (nI i) (X i) (B i) (dy l m X B i).1 (dy l m X B i).2.1 μ = fX1_lay_62 FF (nI i) (X i) (B i) (dy l m X B i).2.1 (sA l m X B i) (nI i) μ := by
    unfold fX1_lay_34 sA dSt
    rw [h5, show (0 : Int32) = nI 0 from rfl, ifeq (by omega) (by omega)]
    by_cases h0 : l = 0
    · rw [if_pos h0, if_pos h0]
    · rw [if_neg h0, if_neg h0]
  rw [e1, e2, e3]
  obtain ⟨m3, f3, a3, b3, g3⟩ := wr_x (μ := μ) (k := 56) (i := i) (sA l m X B i) hi
  obtain ⟨m5, f5, a5, b5, g5⟩ := wr_x (μ := m3) (k := 57) (i := i) (sB l m X B i) hi
  obtain ⟨m7, f7, a7, b7, g7⟩ := wr_x (μ := m5) (k := 58) (i := i) (sC l m X B i) hi
  obtain ⟨m9, f9, a9, b9, g9⟩ := wr_x (μ := m7) (k := 59) (i := i) (sC l m X B i + B i) hi
  obtain ⟨m11, f11, a11, b11, g11⟩ := wr_x (μ := m9) (k := 60) (i := i) (sB l m X B i) hi
  have s1 : fX1_lay_62 FF (nI i) (X i) (B i) (dy l m X B i).2.1 (sA l m X B i) (nI i) μ = (if (m11 55 5) = 2 then (if nI i < (m11 55 6) then some m11 else rd m11 57 (nI i) (fun v12 => rd m11 58 (nI i - (m11 55 6)) (fun v13 => wr m11 60 (nI i) (imax v12 v13) (fun m14 => some m14)))) else some m11) := by
    unfold fX1_lay_62
    rw [f3, rd_n (by exact hi), a3, show sA l m X B i + X i = sB l m X B i from rfl, f5, rd_n (by exact hi), a5, show imax (sB l m X B i) (dy l m X B i).2.1 = sC l m X B i from rfl, f7, rd_n (by exact hi), a7, f9, rd_n (by exact hi), g9 57 (by omega), g7 57 (by omega), a5, f11]
  have q11 : ∀ k, k < 56 ∨ 60 < k → m11 k = μ k := fun k h => by rw [g11 k (by omega), g9 k (by omega), g7 k (by omega), g5 k (by omega), g3 k (by omega)]
  have r56 : ∀ j, m11 56 j = m3 56 j := fun j => by rw [g11 56 (by omega), g9 56 (by omega), g7 56 (by omega), g5 56 (by omega)]
  have r57 : ∀ j, m11 57 j = m5 57 j := fun j => by rw [g11 57 (by omega), g9 57 (by omega), g7 57 (by omega)]
  have r58 : ∀ j, m11 58 j = m7 58 j := fun j => by rw [g11 58 (by omega), g9 58 (by omega)]
  have r59 : ∀ j, m11 59 j = m9 59 j := fun j => by rw [g11 59 (by omega)]
  have old : ∀ p, p < i → m11 56 p = sA l m X B p ∧ m11 57 p = sB l m X B p ∧ m11 58 p = sC l m X B p ∧ m11 59 p = (dy l m X B (p + 1)).2.1 ∧ m11 60 p = (dy l m X B (p + 1)).1 := fun p hp => by
    obtain ⟨o1, o2, o3, o4, o5⟩ := hk p hp
    refine ⟨?_, ?_, ?_, ?_, ?_⟩
    · rw [r56, b3 p (by omega)]; exact o1
    · rw [r57, b5 p (by omega), g3 57 (by omega)]; exact o2
    · rw [r58, b7 p (by omega), g5 58 (by omega), g3 58 (by omega)]; exact o3
    · rw [r59, b9 p (by omega), g7 59 (by omega), g5 59 (by omega), g3 59 (by omega)]; exact o4
    · rw [b11 p (by omega), g9 60 (by omega), g7 60 (by omega), g5 60 (by omega), g3 60 (by omega)]; exact o5
  rw [s1, q11 55 (by omega), h5, h6, show (2 : Int32) = nI 2 from rfl, ifeq (by omega) (by omega), iflt (by omega) (by omega)]
  by_cases hc : l = 2 ∧ ¬ i < m
  · have h1m := h2 hc.1
    rw [if_pos hc.1, if_neg hc.2, rd_n (by exact hi), nI_sub (by omega), rd_n (by show i - m < 40; omega), r57, a5, (old (i - m) (by omega)).2.2.1]
    obtain ⟨m14, f14, a14, b14, g14⟩ := wr_x (μ := m11) (k := 60) (i := i) (imax (sB l m X B i) (sC l m X B (i - m))) hi
    rw [f14]
    refine ⟨m14, rfl, fun k h => by rw [g14 k (by omega), q11 k h], fun p hp => ?_⟩
    rw [g14 56 (by omega), g14 57 (by omega), g14 58 (by omega), g14 59 (by omega)]
    by_cases hpi : p = i
    · subst hpi
      refine ⟨by rw [r56, a3], by rw [r57, a5], by rw [r58, a7], by rw [r59, a9, dy_2], ?_⟩
      rw [a14, dy_1, if_pos hc.1, if_neg hc.2, dy_3 (by omega)]
    · obtain ⟨o1, o2, o3, o4, o5⟩ := old p (by omega)
      exact ⟨o1, o2, o3, o4, by rw [b14 p hpi]; exact o5⟩
  · have res : (if l = 2 then (if i < m then some m11 else rd m11 57 (nI i) (fun v12 => rd m11 58 (nI i - nI m) (fun v13 => wr m11 60 (nI i) (imax v12 v13) (fun m14 => some m14)))) else some m11) = some m11 := by
      by_cases q : l = 2
      · have : i < m := by omega
        rw [if_pos q, if_pos this]
      · rw [if_neg q]
    rw [res]
    refine ⟨m11, rfl, q11, fun p hp => ?_⟩
    by_cases hpi : p = i
    · subst hpi
      refine ⟨by rw [r56, a3], by rw [r57, a5], by rw [r58, a7], by rw [r59, a9, dy_2], ?_⟩
      rw [a11, dy_1]
      by_cases q : l = 2
      · have : p < m := by omega
        rw [if_pos q, if_pos this]
      · rw [if_neg q]
    · exact old p (by omega)
/-- what a row of loaves asks of both -/
def RowC (N : Nat) (k2 : Nat) (X B : Nat → Int32) (μ : Mem) : Prop := μ 9 6 = nI N ∧ ∀ p, p < N → ∃ s, s < 40 ∧ μ k2 p = nI s ∧ μ 10 s = X p ∧ μ 11 s = B p
theorem c_end_loop {N l m k2 : Nat} {X B : Nat → Int32} (hN : N ≤ 40) (hk2 : N ≤ ln k2) (hkk : k2 < 56 ∨ 60 < k2) (hl : l ≤ 2) (hm : m ≤ 5) (h2 : l = 2 → 1 ≤ m) : ∀ (d n i : Nat) (μ : Mem), i + d = N → d < n → RowC N k2 X B μ → μ 55 5 = nI l → μ 55 6 = nI m → KN l m X B i μ → ∃ μ', fX1_endOf_3 FF k2 n (nI i) μ = some ((dy l m X B N).2.1, μ') ∧ (∀ k, k < 56 ∨ 60 < k → μ' k = μ k) ∧ KN l m X B N μ' := by
  intro d
  induction d with
  | zero =>
    intro n i μ hi hn hR h5 h6 hK
    obtain ⟨n, rfl⟩ : ∃ n', n = n' + 1 := ⟨n - 1, by omega⟩
    obtain rfl : i = N := by omega
    refine ⟨μ, ?_, fun _ _ => rfl, hK⟩
    show fX1_endOf_3_b FF k2 _ _ μ = _
    unfold fX1_endOf_3_b
    rw [hR.1, if_pos (nI_le (by omega) (by omega)), show (0 : Int32) = nI 0 from rfl, ifeq (by omega) (by omega)]
    by_cases h0 : i = 0
    · subst h0
      rw [if_pos rfl]
      rfl
    · rw [if_neg h0, show (1 : Int32) = nI 1 from rfl, nI_sub (by omega), rd_n (by show _ < 40; omega), (hK (i - 1) (by omega)).2.2.2.1, show i - 1 + 1 = i by omega]
  | succ d ih =>
    intro n i μ hi hn hR h5 h6 hK
    obtain ⟨n, rfl⟩ : ∃ n', n = n' + 1 := ⟨n - 1, by omega⟩
    obtain ⟨s, s1, s2, s3, s4⟩ := hR.2 i (by omega)
    obtain ⟨μ1, a1, a2, a3⟩ := c_lay (B := B) (show i < 40 by omega) hl hm h2 h5 h6 hK
    have hR1 : RowC N k2 X B μ1 := by
      unfold RowC
      rw [a2 9 (by omega), a2 k2 hkk, a2 10 (by omega), a2 11 (by omega)]
      exact hR
    obtain ⟨μ2, b1, b2, b3⟩ := ih n (i + 1) μ1 (by omega) (by omega) hR1 (by rw [a2 55 (by omega)]; exact h5) (by rw [a2 55 (by omega)]; exact h6) a3
    refine ⟨μ2, ?_, fun k h => by rw [b2 k h, a2 k h], b3⟩
    show fX1_endOf_3_b FF k2 _ _ μ = _
    unfold fX1_endOf_3_b
    rw [hR.1, if_neg (nI_ge (by omega) (by omega)), rd_n (by omega), s2, rd_n (by exact s1), s3, rd_n (by omega), s2, rd_n (by exact s1), s4, a1, cav_n, nI_add1]
    exact b1
def RowM (N : Nat) (k1 : Nat) (X B : Nat → Int32) (μ : Mem) : Prop := μ 94 0 = nI N ∧ ∀ p, p < N → ∃ s, s < 40 ∧ μ k1 p = nI s ∧ μ 95 s = X p ∧ μ 96 s = B p
def KM2 (l m : Nat) (X B : Nat → Int32) (i : Nat) (μ : Mem) : Prop := ∀ p, p < i → μ 103 p = sA l m X B p ∧ μ 104 p = sC l m X B p
theorem m_end_loop {N l m k1 : Nat} {X B : Nat → Int32} (hN : N ≤ 40) (hk1 : N ≤ ln k1) (hkk : k1 < 103 ∨ 104 < k1) (hl : l ≤ 2) (hm : m ≤ 5) (h2 : l = 2 → 1 ≤ m) : ∀ (d n i : Nat) (μ : Mem), i + d = N → d < n → RowM N k1 X B μ → KM2 l m X B i μ → ∃ μ', fX9_endOf_9 FF k1 n (nI l) (nI m) (dy l m X B i).1 (dy l m X B i).2.1 (nI i) μ = some ((dy l m X B N).2.1, μ') ∧ (∀ k, k < 103 ∨ 104 < k → μ' k = μ k) ∧ KM2 l m X B N μ' := by
  intro d
  induction d with
  | zero =>
    intro n i μ hi hn hR hK
    obtain ⟨n, rfl⟩ : ∃ n', n = n' + 1 := ⟨n - 1, by omega⟩
    obtain rfl : i = N := by omega
    refine ⟨μ, ?_, fun _ _ => rfl, hK⟩
    show fX9_endOf_9_b FF k1 _ _ _ _ _ _ μ = _
    unfold fX9_endOf_9_b
    rw [show (0 : Int32) = nI 0 from rfl, rd_n (by decide), hR.1, if_pos (nI_le (by omega) (by omega))]
  | succ d ih =>
    intro n i μ hi hn hR hK
    obtain ⟨n, rfl⟩ : ∃ n', n = n' + 1 := ⟨n - 1, by omega⟩
    obtain ⟨s, s1, s2, s3, s4⟩ := hR.2 i (by omega)
    have l95 : s < ln 95 := by show s < 240; omega
    have l96 : s < ln 96 := by show s < 240; omega
    have i40 : i < 40 := by omega
    obtain ⟨m6, f6, a6, b6, g6⟩ := wr_x (μ := μ) (k := 103) (i := i) (sA l m X B i) i40
    obtain ⟨m7, f7, a7, b7, g7⟩ := wr_x (μ := m6) (k := 104) (i := i) (sC l m X B i) i40
    have q7 : ∀ k, k < 103 ∨ 104 < k → m7 k = μ k := fun k h => by rw [g7 k (by omega), g6 k (by omega)]
    have hR1 : RowM N k1 X B m7 := by
      unfold RowM
      rw [q7 94 (by omega), q7 k1 hkk, q7 95 (by omega), q7 96 (by omega)]
      exact hR
    have hK1 : KM2 l m X B (i + 1) m7 := fun p hp => by
      by_cases hpi : p = i
      · subst hpi
        exact ⟨by rw [g7 103 (by omega), a6], a7⟩
      · obtain ⟨o1, o2⟩ := hK p (by omega)
        exact ⟨by rw [g7 103 (by omega), b6 p hpi]; exact o1, by rw [b7 p hpi, g6 104 (by omega)]; exact o2⟩
    obtain ⟨μ2, c1, c2, c3⟩ := ih n (i + 1) m7 (by omega) (by omega) hR1 hK1
    refine ⟨μ2, ?_, fun k h => by rw [c2 k h, q7 k h], c3⟩
    have t88 : fX9_endOf_88 FF k1 (fX9_endOf_9 FF k1 n) (nI l) (nI m) (nI i) (nI s) (sA l m X B i) (sB l m X B i) (sC l m X B i) μ = fX9_endOf_9 FF k1 n (nI l) (nI m) (dy l m X B (i + 1)).1 (dy l m X B (i + 1)).2.1 (nI (i + 1)) m7 := by
      unfold fX9_endOf_88
      rw [f6, f7, rd_n l96, q7 96 (by omega), s4, show sC l m X B i + B i = (dy l m X B (i + 1)).2.1 from rfl, nI_add1, show (2 : Int32) = nI 2 from rfl, ifeq (by omega) (by omega), iflt (by omega) (by omega), dy_1]
      by_cases q : l = 2
      · have h1m := h2 q
        rw [if_pos q, if_pos q]
        by_cases q2 : i < m
        · rw [if_pos q2, if_pos q2]
        · rw [if_neg q2, if_neg q2, nI_sub (by omega), rd_n (by show i - m < 40; omega), rd_n (by show i - m < 40; omega), (hK1 (i - m) (by omega)).2, dy_3 (by omega), ← imax_ge]
          by_cases q3 : sC l m X B (i - m) ≤ sB l m X B i
          · rw [if_pos q3, if_pos q3]
          · rw [if_neg q3, if_neg q3]
      · rw [if_neg q, if_neg q]
    have t60 : fX9_endOf_60 FF k1 (fX9_endOf_9 FF k1 n) (nI l) (nI m) (dy l m X B i).2.1 (nI i) (nI s) (sA l m X B i) μ = fX9_endOf_9 FF k1 n (nI l) (nI m) (dy l m X B (i + 1)).1 (dy l m X B (i + 1)).2.1 (nI (i + 1)) m7 := by
      unfold fX9_endOf_60
      rw [rd_n l95, s3, show sA l m X B i + X i = sB l m X B i from rfl, ← t88, show sC l m X B i = imax (sB l m X B i) (dy l m X B i).2.1 from rfl, ← imax_le]
      by_cases q : sB l m X B i ≤ (dy l m X B i).2.1
      · rw [if_pos q, if_pos q]
      · rw [if_neg q, if_neg q]
    show fX9_endOf_9_b FF k1 _ _ _ _ _ _ μ = _
    unfold fX9_endOf_9_b
    rw [show (0 : Int32) = nI 0 from rfl, rd_n (by decide), hR.1, if_neg (nI_ge (by omega) (by omega)), rd_n (by omega), s2, ifeq (by omega) (by omega), ← c1, ← t60]
    have eA : sA l m X B i = if l = 0 then imax (dy l m X B i).1 ((dy l m X B i).2.1 - X i) else (dy l m X B i).1 := rfl
    by_cases q : l = 0
    · rw [if_pos q] at eA
      rw [if_pos q, rd_n l95, s3, rd_n l95, s3, eA, ← imax_ge]
      by_cases q2 : (dy l m X B i).2.1 - X i ≤ (dy l m X B i).1
      · rw [if_pos q2, if_pos q2]
      · rw [if_neg q2, if_neg q2]
    · rw [if_neg q] at eA
      rw [if_neg q, eA]
