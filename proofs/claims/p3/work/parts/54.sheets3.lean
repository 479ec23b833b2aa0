variable {wq : Prop}
theorem cut_n {F f : Nat} {x : Int32} {μ : Mem} (hf : f ≤ 2) : fX8_cutToForm F (nI f) x μ = some (if f = 0 then x.toInt8.toInt32 else if f = 1 then x.toInt16.toInt32 else x, μ) := by
  have h3 : f = 0 ∨ f = 1 ∨ f = 2 := by omega
  rcases h3 with rfl | rfl | rfl <;> rfl
theorem mul40 {s i : Nat} : (40 : Int32) * nI s + nI i = nI (40 * s + i) := by rw [show (40 : Int32) = nI 40 from rfl, pk_mul, nI_add]
theorem op_put (a b c d : Int32) : Op wq (fX8_put FF a b c d) (fX9_put FF a b c d) := by
  intro μ hI
  unfold fX8_put fX9_put
  rcases small a 3 (by decide) with h | ⟨s, hs, rfl⟩
  · exact ⟨_, _, _, by rw [c_sh_no h, cal_n, if_pos rfl], by rw [m_sh_no h, cal_n, if_pos rfl], hI⟩
  rcases small b 2 (by decide) with h | ⟨f, hf, rfl⟩
  · exact ⟨_, _, _, by rw [c_sh_yes hs, cal_n, if_neg one_ne, c_fo_no h, cal_n, if_pos rfl], by rw [m_sh_yes hs, cal_n, if_neg one_ne, m_fo_no h, cal_n, if_pos rfl], hI⟩
  have hs4 : s < 4 := by omega
  obtain ⟨a1, a2, a3, z, a4, a5, a6⟩ := hI.1.2 s hs4
  simp only [c_sh_yes hs, m_sh_yes hs, cal_n, if_neg one_ne, c_fo_yes hf, m_fo_yes hf]
  rcases fo_ok a3 with h | ⟨h, h0, f2, hf2, hff⟩
  · rw [c_look_lost hs4 h, cal_n, if_neg one_ne]
    exact ⟨_, _, _, rfl, by rw [m_lack_lost hs4 (by exact a1.symm.trans h)]; rfl, fnd hI⟩
  by_cases hc : μ 2 s = nI f
  · rcases ix c z (by omega) with ⟨i, hi, rfl⟩ | hx
    · rw [c_look_yes hs4 a4 a5 h hc hi, cal_n, if_pos rfl, rr_n (by exact hs4), (gt4 hs4).1, cut_n hf, cal_n, wr_n (by rw [(gt4 hs4).2]; omega)]
      generalize hv : (if f = 0 then d.toInt8.toInt32 else if f = 1 then d.toInt16.toInt32 else d) = v
      refine ⟨1, upM μ (5 + s) (upd (μ (5 + s)) i v), upM (upM μ (5 + s) (upd (μ (5 + s)) i v)) 92 (upd (μ 92) (40 * s + i) v), rfl, ?_, ?_⟩
      · have k : ∀ j, j ≠ 5 + s → upM μ (5 + s) (upd (μ (5 + s)) i v) j = μ j := fun j hj => upM_ne hj
        rw [m_lack_yes hs4 a4 (by rw [k 91 (by omega)]; exact a2.symm.trans a5) (by rw [k 90 (by omega), ← a1]; exact h0) (by rw [k 90 (by omega)]; exact a1.symm.trans hc) hi, cal_n, if_pos rfl, mul40]
        have h3 : f = 0 ∨ f = 1 ∨ f = 2 := by omega
        have hlt : 40 * s + i < ln 92 := by show _ < 160; omega
        rcases h3 with rfl | rfl | rfl
        · rw [if_pos (show nI 0 = 0 from rfl), wr_n hlt, k 92 (by omega), ← hv]; rfl
        · rw [if_neg (show ¬ nI 1 = 0 by decide), if_pos (show nI 1 = 1 from rfl), wr_n hlt, k 92 (by omega), ← hv]; rfl
        · rw [if_neg (show ¬ nI 2 = 0 by decide), if_neg (show ¬ nI 2 = 1 by decide), wr_n hlt, k 92 (by omega), ← hv]; rfl
      · have g : Ag [5, 6, 7, 8, 92, 93] [] μ (upM (upM μ (5 + s) (upd (μ (5 + s)) i v)) 92 (upd (μ 92) (40 * s + i) v)) := (ag5 hs4).tr (Ag.up (by decide) (by decide))
        refine hI.it g (hI.1.it g (t := s) (fun j hj hjs => ?_) (fun x hx => ?_) hs4 (fun z' hz' e j hj => ?_))
        · unfold rowS
          rw [upM_ne (by omega), upM_ne (by omega)]
        · rw [upM_self, upd_ne (by omega)]
        · have ez : z' = z := nI_inj (by omega) (by omega) (e.symm.trans a5)
          subst ez
          unfold rowS
          rw [upM_ne (by omega), upM_self, upM_self]
          by_cases e2 : j = i
          · rw [e2, upd_s, upd_s]
          · rw [upd_ne e2, upd_ne (by omega)]
            exact a6 j hj
    · rw [c_look_no hs4 a4 a5 h hc hx, cal_n, if_neg (by decide)]
      exact ⟨_, _, _, rfl, by rw [m_lack_no (z := z) hs4 a4 (by exact a2.symm.trans a5) (by show 0 ≤ μ 90 s; rw [← a1]; exact h0) (by exact a1.symm.trans hc) hx]; rfl, fnd hI⟩
  · rw [c_look_cast hs4 h hc, cal_n, if_neg (by decide)]
    exact ⟨_, _, _, rfl, by rw [m_lack_cast hs4 (by show 0 ≤ μ 90 s; rw [← a1]; exact h0) (by show ¬ μ 90 s = _; rw [← a1]; exact hc)]; rfl, fnd hI⟩
theorem m_cp1_loop {F s i t j n : Nat} {μ : Mem} (hs : s < 4) (hn : n ≤ 40) (hi : i + n ≤ 40) : ∀ (d q k : Nat), k + d = n → d < q → fX9_copy_120 F q (nI s) (nI i) (nI t) (nI j) (nI n) (nI k) (upM μ 93 (fun x => if x < k then μ 92 (40 * s + i + x) else μ 93 x)) = fX9_copy_157 F F (nI t) (nI j) (nI n) 0 (upM μ 93 (fun x => if x < n then μ 92 (40 * s + i + x) else μ 93 x)) := by
  intro d
  induction d with
  | zero =>
    intro q k hk hq
    obtain ⟨q, rfl⟩ : ∃ n', q = n' + 1 := ⟨q - 1, by omega⟩
    show fX9_copy_120_b F _ _ _ _ _ _ _ _ = _
    unfold fX9_copy_120_b
    rw [if_pos (nI_le (by omega) (by omega)), show k = n by omega]
  | succ d ih =>
    intro q k hk hq
    obtain ⟨q, rfl⟩ : ∃ n', q = n' + 1 := ⟨q - 1, by omega⟩
    show fX9_copy_120_b F _ _ _ _ _ _ _ _ = _
    unfold fX9_copy_120_b
    rw [if_neg (nI_ge (by omega) (by omega)), mul40, nI_add, rd_n (by show _ < 160; omega), wr_n (by show _ < 40; omega), nI_add1, upM_upM, upM_self, upM_ne (by decide)]
    have e : upd (fun x => if x < k then μ 92 (40 * s + i + x) else μ 93 x) k (μ 92 (40 * s + i + k)) = fun x => if x < k + 1 then μ 92 (40 * s + i + x) else μ 93 x := by
      funext x
      unfold upd
      by_cases h1 : x = k
      · rw [if_pos h1, if_pos (by omega), h1]
      · rw [if_neg h1]
        dsimp only
        by_cases h2 : x < k
        · rw [if_pos h2, if_pos (by omega)]
        · rw [if_neg h2, if_neg (by omega)]
    rw [e]
    exact ih q (k + 1) (by omega) (by omega)
theorem m_cp2_loop {F t j n : Nat} {μ : Mem} {g : Nat → Int32} (ht : t < 4) (hn : n ≤ 40) (hj : j + n ≤ 40) (hg : μ 93 = g) : ∀ (d q k : Nat), k + d = n → d < q → fX9_copy_157 F q (nI t) (nI j) (nI n) (nI k) (upM μ 92 (fun x => if 40 * t + j ≤ x ∧ x < 40 * t + j + k then g (x - (40 * t + j)) else μ 92 x)) = some (1, upM μ 92 (fun x => if 40 * t + j ≤ x ∧ x < 40 * t + j + n then g (x - (40 * t + j)) else μ 92 x)) := by
  intro d
  induction d with
  | zero =>
    intro q k hk hq
    obtain ⟨q, rfl⟩ : ∃ n', q = n' + 1 := ⟨q - 1, by omega⟩
    show fX9_copy_157_b F _ _ _ _ _ _ = _
    unfold fX9_copy_157_b
    rw [if_pos (nI_le (by omega) (by omega)), show k = n by omega]
  | succ d ih =>
    intro q k hk hq
    obtain ⟨q, rfl⟩ : ∃ n', q = n' + 1 := ⟨q - 1, by omega⟩
    show fX9_copy_157_b F _ _ _ _ _ _ = _
    unfold fX9_copy_157_b
    rw [if_neg (nI_ge (by omega) (by omega)), rd_n (by show _ < 40; omega), mul40, nI_add, wr_n (by show _ < 160; omega), nI_add1, upM_upM, upM_self, upM_ne (by decide), hg]
    have e : upd (fun x => if 40 * t + j ≤ x ∧ x < 40 * t + j + k then g (x - (40 * t + j)) else μ 92 x) (40 * t + j + k) (g k) = fun x => if 40 * t + j ≤ x ∧ x < 40 * t + j + (k + 1) then g (x - (40 * t + j)) else μ 92 x := by
      funext x
      unfold upd
      by_cases h1 : x = 40 * t + j + k
      · rw [if_pos h1, if_pos (by omega), h1, show 40 * t + j + k - (40 * t + j) = k by omega]
      · rw [if_neg h1]
        dsimp only
        by_cases h2 : 40 * t + j ≤ x ∧ x < 40 * t + j + k
        · rw [if_pos h2, if_pos (by omega)]
        · rw [if_neg h2, if_neg (by omega)]
    rw [e]
    exact ih q (k + 1) (by omega) (by omega)
theorem m_cp {s i t j n : Nat} {μ : Mem} (hs : s < 4) (ht : t < 4) (hi : i + n ≤ 40) (hj : j + n ≤ 40) : ∃ μ', fX9_copy_120 FF FF (nI s) (nI i) (nI t) (nI j) (nI n) 0 μ = some (1, μ') ∧ (∀ k, k ≠ 92 → k ≠ 93 → μ' k = μ k) ∧ ∀ x, μ' 92 x = if 40 * t + j ≤ x ∧ x < 40 * t + j + n then μ 92 (40 * s + i + (x - (40 * t + j))) else μ 92 x := by
  have h1 := m_cp1_loop (F := FF) (s := s) (i := i) (t := t) (j := j) (n := n) (μ := μ) hs (by omega) hi n FF 0 (by omega) (by rw [FF_e]; omega)
  rw [show (fun x => if x < 0 then μ 92 (40 * s + i + x) else μ 93 x) = μ 93 from rfl, upM_id] at h1
  generalize hμ : upM μ 93 (fun x => if x < n then μ 92 (40 * s + i + x) else μ 93 x) = μ1 at h1
  have h2 := m_cp2_loop (F := FF) (t := t) (j := j) (n := n) (μ := μ1) (g := μ1 93) ht (by omega) hj rfl n FF 0 (by omega) (by rw [FF_e]; omega)
  rw [show (fun x => if 40 * t + j ≤ x ∧ x < 40 * t + j + 0 then μ1 93 (x - (40 * t + j)) else μ1 92 x) = μ1 92 from funext (fun x => if_neg (by omega)), upM_id] at h2
  refine ⟨_, h1.trans h2, fun k h92 h93 => ?_, fun x => ?_⟩
  · rw [upM_ne h92, ← hμ, upM_ne h93]
  · rw [upM_self, ← hμ, upM_self, upM_ne (by decide)]
    by_cases h : 40 * t + j ≤ x ∧ x < 40 * t + j + n
    · rw [if_pos h, if_pos h, if_pos (by omega)]
    · rw [if_neg h, if_neg h]
theorem lost_lt : (-1 : Int32) < 0 := by decide
theorem add64 {x y : Int32} : (x.toInt64 + y.toInt64).toInt = x.toInt + y.toInt := by
  have h1 := i32_lo x
  have h2 := i32_lo y
  rw [Int64.toInt_add, Int32.toInt_toInt64, Int32.toInt_toInt64]
  exact Int.bmod_eq_of_le (by omega) (by omega)
theorem op_copy (a b c d e : Int32) : Op wq (fX8_copy FF a b c d e) (fX9_copy FF a b c d e) := by
  intro μ hI
  unfold fX8_copy fX9_copy fX8_copy_39 fX8_copy_107
  rcases small a 3 (by decide) with h | ⟨s, hs, rfl⟩
  · exact ⟨_, _, _, by rw [c_sh_no h, cal_n, if_pos rfl], by rw [m_sh_no h, cal_n, if_pos rfl], hI⟩
  rcases small c 3 (by decide) with h | ⟨t, ht, rfl⟩
  · exact ⟨_, _, _, by rw [c_sh_yes hs, cal_n, if_neg one_ne, c_sh_no h, cal_n, if_pos rfl], by rw [m_sh_yes hs, cal_n, if_neg one_ne, m_sh_no h, cal_n, if_pos rfl], hI⟩
  have hs4 : s < 4 := by omega
  have ht4 : t < 4 := by omega
  obtain ⟨a1, a2, a3, z, a4, a5, a6⟩ := hI.1.2 s hs4
  obtain ⟨b1, b2, b3, w, b4, b5, b6⟩ := hI.1.2 t ht4
  simp only [c_sh_yes hs, m_sh_yes hs, c_sh_yes ht, m_sh_yes ht, cal_n, if_neg one_ne]
  unfold fX7_isLost
  rcases fo_ok a3 with h | ⟨h, h0, f, hf, hff⟩
  · rw [rd_n (by exact hs4), if_pos h, zr_1, cal_n, if_neg one_ne]
    refine ⟨_, _, _, rfl, ?_, fnd hI (v := 1)⟩
    rw [rd_n (by exact hs4)]
    show (if μ 90 s < 0 then _ else _) = _
    rw [← a1, h, if_pos lost_lt]
    rfl
  rw [rd_n (by exact hs4), if_neg h, zr_0, cal_n, if_pos rfl]
  have h0' : ¬ μ 90 s < 0 := by
    rw [← a1, Int32.lt_iff_toInt_lt, toInt_0]
    rw [Int32.le_iff_toInt_le, toInt_0] at h0
    omega
  rcases fo_ok b3 with k | ⟨k, k0, f2, hf2, hff2⟩
  · rw [rd_n (by exact ht4), if_pos k, zr_1, cal_n, if_neg one_ne]
    refine ⟨_, _, _, rfl, ?_, fnd hI (v := 1)⟩
    rw [rd_n (by exact hs4)]
    show (if μ 90 s < 0 then _ else _) = _
    rw [if_neg h0', rd_n (by exact ht4)]
    show (if 0 ≤ μ 90 t then _ else _) = _
    rw [← b1, k, if_neg neg_lost]
    rfl
  rw [rd_n (by exact ht4), if_neg k, zr_0, cal_n, if_pos rfl, rd_n (by exact hs4), rd_n (by exact ht4)]
  by_cases hst : μ 2 s = μ 2 t
  · rw [if_pos hst]
    by_cases hix : (0 ≤ b.toInt ∧ 0 ≤ e.toInt ∧ b.toInt + e.toInt ≤ z) ∧ (0 ≤ d.toInt ∧ d.toInt + e.toInt ≤ w)
    · obtain ⟨n, hn, rfl⟩ : ∃ n : Nat, n ≤ 40 ∧ e = nI n := ⟨e.toInt.toNat, by omega, of_toInt (by omega) (by omega)⟩
      obtain ⟨i, hi, rfl⟩ : ∃ n : Nat, n ≤ 40 ∧ b = nI n := ⟨b.toInt.toNat, by omega, of_toInt (by omega) (by omega)⟩
      obtain ⟨j, hj, rfl⟩ : ∃ n : Nat, n ≤ 40 ∧ d = nI n := ⟨d.toInt.toNat, by omega, of_toInt (by omega) (by omega)⟩
      rw [nI_toInt (by omega), nI_toInt (by omega), nI_toInt (by omega)] at hix
      have hiz : i + n ≤ z := by omega
      have hjw : j + n ≤ w := by omega
      rw [c_has_yes hs4 a4 a5 hiz, cal_n, if_neg one_ne, c_has_yes ht4 b4 b5 hjw, cal_n, if_neg one_ne, rr_n (by exact hs4), rr_n (by exact ht4), (gt4 hs4).1, (gt4 ht4).1, cpy_n (by rw [(gt4 hs4).2]; omega) (by rw [(gt4 ht4).2]; omega)]
      generalize hμ1 : upM μ (5 + t) (va_cpy (μ (5 + s)) (μ (5 + t)) i j n) = μ1
      have kk : ∀ q, q ≠ 5 + t → μ1 q = μ q := fun q hq => by rw [← hμ1, upM_ne hq]
      obtain ⟨μ2, m1, m2, m3⟩ := m_cp (s := s) (i := i) (t := t) (j := j) (n := n) (μ := μ1) hs4 ht4 (by omega) (by omega)
      refine ⟨1, μ1, μ2, rfl, ?_, ?_⟩
      · rw [rd_n (by exact hs4), kk 90 (by omega), if_neg h0', rd_n (by exact ht4), kk 90 (by omega), if_pos (by rw [← b1]; exact k0), rd_n (by exact hs4), rd_n (by exact ht4), kk 90 (by omega), if_pos (by rw [← a1, ← b1]; exact hst), if_neg (nI_pos (by omega)), if_neg (nI_pos (by omega)), if_neg (nI_pos (by omega)), rd_n (by exact hs4), kk 91 (by omega), if_neg, rd_n (by exact ht4), kk 91 (by omega), if_pos]
        · exact m1
        · rw [Int64.le_iff_toInt_le, add64, Int32.toInt_toInt64, ← b2, b5, nI_toInt (by omega), nI_toInt (by omega), nI_toInt (by omega)]
          omega
        · rw [Int64.lt_iff_toInt_lt, add64, Int32.toInt_toInt64, ← a2, a5, nI_toInt (by omega), nI_toInt (by omega), nI_toInt (by omega)]
          omega
      · have g : Ag [5, 6, 7, 8, 92, 93] [] μ μ2 := by
          refine Ag.tr (b := μ1) (hμ1 ▸ ag5 ht4) ⟨fun q h9 hq => m2 q (fun x => hq (by rw [x]; decide)) (fun x => hq (by rw [x]; decide)), fun q _ => by rw [m2 89 (by decide) (by decide)]⟩
        refine hI.it g (hI.1.it g (t := t) (fun q hq hqt => ?_) (fun x hx => ?_) ht4 (fun z' hz' e q hq => ?_))
        · unfold rowS
          rw [m2 _ (by omega) (by omega), kk _ (by omega)]
        · rw [m3, if_neg (by omega), kk 92 (by omega)]
        · have ez : z' = w := nI_inj (by omega) (by omega) (e.symm.trans b5)
          subst ez
          unfold rowS
          rw [m2 _ (by omega) (by omega), m3, ← hμ1, upM_self, upM_ne (by omega)]
          unfold va_cpy
          by_cases hq2 : j ≤ q ∧ q < j + n
          · rw [if_pos hq2, if_pos (by omega), show 40 * t + q - (40 * t + j) = q - j by omega, show 40 * s + i + (q - j) = 40 * s + (i + (q - j)) by omega]
            exact a6 _ (by omega)
          · rw [if_neg hq2, if_neg (by omega)]
            exact b6 q hq
    · have hm : ∀ μ1, μ1 90 = μ 90 → μ1 91 = μ 91 → rd μ1 90 (nI s) (fun v5 => if v5 < 0 then cal (fX9_met FF 1 μ1) fun r7 m6 => some (r7, m6) else rd μ1 90 (nI t) fun v8 => if 0 ≤ v8 then rd μ1 90 (nI s) fun v9 => rd μ1 90 (nI t) fun v10 => if v9 = v10 then if b < 0 then cal (fX9_met FF 2 μ1) fun r12 m11 => some (r12, m11) else if d < 0 then cal (fX9_met FF 2 μ1) fun r14 m13 => some (r14, m13) else if e < 0 then cal (fX9_met FF 2 μ1) fun r16 m15 => some (r16, m15) else rd μ1 91 (nI s) fun v17 => if v17.toInt64 < b.toInt64 + e.toInt64 then cal (fX9_met FF 2 μ1) fun r19 m18 => some (r19, m18) else rd μ1 91 (nI t) fun v20 => if d.toInt64 + e.toInt64 ≤ v20.toInt64 then fX9_copy_120 FF FF (nI s) b (nI t) d e 0 μ1 else cal (fX9_met FF 2 μ1) fun r22 m21 => some (r22, m21) else cal (fX9_met FF 4 μ1) fun r24 m23 => some (r24, m23) else cal (fX9_met FF 1 μ1) fun r26 m25 => some (r26, m25)) = fX9_met FF 2 μ1 := by
        intro μ1 e1 e2
        rw [rd_n (by exact hs4), e1, if_neg h0', rd_n (by exact ht4), e1, if_pos (by rw [← b1]; exact k0), rd_n (by exact hs4), rd_n (by exact ht4), e1, if_pos (by rw [← a1, ← b1]; exact hst)]
        by_cases q1 : b < 0
        · rw [if_pos q1]; rfl
        by_cases q2 : d < 0
        · rw [if_neg q1, if_pos q2]; rfl
        by_cases q3 : e < 0
        · rw [if_neg q1, if_neg q2, if_pos q3]; rfl
        rw [if_neg q1, if_neg q2, if_neg q3, rd_n (by exact hs4), e2, ← a2, a5]
        by_cases q4 : (nI z).toInt64 < b.toInt64 + e.toInt64
        · rw [if_pos q4]; rfl
        rw [if_neg q4, rd_n (by exact ht4), e2, ← b2, b5, if_neg]
        · rfl
        · intro q5
          rw [Int32.lt_iff_toInt_lt, toInt_0] at q1 q2 q3
          rw [Int64.lt_iff_toInt_lt, add64, Int32.toInt_toInt64, nI_toInt (by omega)] at q4
          rw [Int64.le_iff_toInt_le, add64, Int32.toInt_toInt64, nI_toInt (by omega)] at q5
          exact hix ⟨⟨by omega, by omega, by omega⟩, by omega, by omega⟩
      by_cases hiz : 0 ≤ b.toInt ∧ 0 ≤ e.toInt ∧ b.toInt + e.toInt ≤ z
      · obtain ⟨n, hn, rfl⟩ : ∃ n : Nat, n ≤ 40 ∧ e = nI n := ⟨e.toInt.toNat, by omega, of_toInt (by omega) (by omega)⟩
        obtain ⟨i, hi, rfl⟩ : ∃ n : Nat, n ≤ 40 ∧ b = nI n := ⟨b.toInt.toNat, by omega, of_toInt (by omega) (by omega)⟩
        rw [nI_toInt (by omega), nI_toInt (by omega)] at hiz
        rw [c_has_yes hs4 a4 a5 (by omega), cal_n, if_neg one_ne, c_has_no ht4 b4 b5 (by rw [nI_toInt (by omega), nI_toInt (by omega)] at hix; rw [nI_toInt (by omega)]; omega), cal_n, if_pos rfl]
        exact ⟨_, _, _, rfl, hm (upM μ 1 (upd (μ 1) 3 2)) rfl rfl, fnd hI⟩
      · rw [c_has_no hs4 a4 a5 (by omega), cal_n, if_pos rfl]
        exact ⟨_, _, _, rfl, hm (upM μ 1 (upd (μ 1) 3 2)) rfl rfl, fnd hI⟩
  · rw [if_neg hst]
    refine ⟨_, _, _, rfl, ?_, fnd hI (v := 4)⟩
    rw [rd_n (by exact hs4)]
    show (if μ 90 s < 0 then _ else _) = _
    rw [if_neg h0', rd_n (by exact ht4)]
    show (if 0 ≤ μ 90 t then _ else _) = _
    rw [← b1, if_pos k0, rd_n (by exact hs4), rd_n (by exact ht4)]
    show (if μ 90 s = μ 90 t then _ else _) = _
    rw [if_neg (by rw [← a1, ← b1]; exact hst)]
    rfl
