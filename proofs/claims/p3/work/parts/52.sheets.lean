/-! small tests -/
variable {wq : Prop}
theorem t_no {α : Sort _} {x : Int32} {n : Nat} {A B : α} (hn : n + 1 < 2 ^ 31) (h : x < 0 ∨ nI n < x) : (if x < 0 then A else if nI (n + 1) ≤ x then A else B) = A := by
  by_cases h0 : x < 0
  · rw [if_pos h0]
  · rw [if_neg h0, if_pos]
    rcases h with h | h
    · exact absurd h h0
    · rw [Int32.lt_iff_toInt_lt, nI_toInt (by omega)] at h
      rw [Int32.le_iff_toInt_le, nI_toInt (by omega)]
      omega
theorem t_yes {α : Sort _} {j n : Nat} {A B : α} (hn : n + 1 < 2 ^ 31) (h : j ≤ n) : (if nI j < 0 then A else if nI (n + 1) ≤ nI j then A else B) = B := by
  rw [if_neg (nI_pos (by omega)), if_neg (nI_ge (by omega) (by omega))]
theorem t2_no {α : Sort _} {x : Int32} {n : Nat} {A B : α} (hn : n < 2 ^ 31) (h : x < 0 ∨ nI n < x) : (if x < 0 then A else if nI n < x then A else B) = A := by
  by_cases h0 : x < 0
  · rw [if_pos h0]
  · rw [if_neg h0, if_pos]
    rcases h with h | h
    · exact absurd h h0
    · exact h
theorem t2_yes {α : Sort _} {j n : Nat} {A B : α} (hn : n < 2 ^ 31) (h : j ≤ n) : (if nI j < 0 then A else if nI n < nI j then A else B) = B := by
  rw [if_neg (nI_pos (by omega)), if_neg (nI_nlt h hn)]
theorem c_sh_no {F : Nat} {x : Int32} {μ : Mem} (h : x < 0 ∨ nI 3 < x) : fX8_isSheet F x μ = some (0, μ) := t_no (n := 3) (by decide) h
theorem c_sh_yes {F j : Nat} {μ : Mem} (h : j ≤ 3) : fX8_isSheet F (nI j) μ = some (1, μ) := t_yes (n := 3) (by decide) h
theorem c_fo_no {F : Nat} {x : Int32} {μ : Mem} (h : x < 0 ∨ nI 2 < x) : fX8_isForm F x μ = some (0, μ) := t_no (n := 2) (by decide) h
theorem c_fo_yes {F j : Nat} {μ : Mem} (h : j ≤ 2) : fX8_isForm F (nI j) μ = some (1, μ) := t_yes (n := 2) (by decide) h
theorem c_sp_no {F : Nat} {x : Int32} {μ : Mem} (h : x < 0 ∨ nI 100000 < x) : fX8_isSpan F x μ = some (0, μ) := t2_no (n := 100000) (by decide) h
theorem c_sp_yes {F j : Nat} {μ : Mem} (h : j ≤ 100000) : fX8_isSpan F (nI j) μ = some (1, μ) := t2_yes (n := 100000) (by decide) h
theorem c_de_no {F : Nat} {x : Int32} {μ : Mem} (h : x < 0 ∨ nI 399 < x) : fX8_isDegree F x μ = some (0, μ) := t2_no (n := 399) (by decide) h
theorem c_de_yes {F j : Nat} {μ : Mem} (h : j ≤ 399) : fX8_isDegree F (nI j) μ = some (1, μ) := t2_yes (n := 399) (by decide) h
theorem lN_toInt64 {n : Nat} (h : n < 2 ^ 31) : (Int64.ofNat n).toInt = (n : Int) := lN_toInt h
theorem m_in_no {F n : Nat} {x : Int32} {μ : Mem} (hn : n < 2 ^ 31) (h : x < 0 ∨ nI n < x) : fX9_in F x.toInt64 (Int64.ofNat 0) (Int64.ofNat n) μ = some (0, μ) := by
  unfold fX9_in
  simp only [Int64.lt_iff_toInt_lt, lN_toInt64 (show 0 < 2 ^ 31 by decide), lN_toInt64 hn, Int32.toInt_toInt64]
  rw [Int32.lt_iff_toInt_lt, Int32.lt_iff_toInt_lt, nI_toInt hn, Int32.toInt_zero] at h
  by_cases h0 : x.toInt < ((0 : Nat) : Int)
  · rw [if_pos h0, zr_0]
  · rw [if_neg h0, if_pos (by omega), zr_0]
theorem m_in_yes {F j n : Nat} {μ : Mem} (hn : n < 2 ^ 31) (h : j ≤ n) : fX9_in F (nI j).toInt64 (Int64.ofNat 0) (Int64.ofNat n) μ = some (1, μ) := by
  unfold fX9_in
  simp only [Int64.lt_iff_toInt_lt, lN_toInt64 (show 0 < 2 ^ 31 by decide), lN_toInt64 hn, Int32.toInt_toInt64, nI_toInt (show j < 2 ^ 31 by omega)]
  rw [if_neg (by omega), if_neg (by omega), zr_1]
theorem m_sh_no {F : Nat} {x : Int32} {μ : Mem} (h : x < 0 ∨ nI 3 < x) : fX9_isSheet F x μ = some (0, μ) := by
  unfold fX9_isSheet
  rw [show (0 : Int64) = Int64.ofNat 0 from rfl, show (3 : Int64) = Int64.ofNat 3 from rfl, m_in_no (by decide) h, cal_n, zr_0]
theorem m_sh_yes {F j : Nat} {μ : Mem} (h : j ≤ 3) : fX9_isSheet F (nI j) μ = some (1, μ) := by
  unfold fX9_isSheet
  rw [show (0 : Int64) = Int64.ofNat 0 from rfl, show (3 : Int64) = Int64.ofNat 3 from rfl, m_in_yes (by decide) h, cal_n, zr_1]
theorem m_fo_no {F : Nat} {x : Int32} {μ : Mem} (h : x < 0 ∨ nI 2 < x) : fX9_in F x.toInt64 0 2 μ = some (0, μ) := m_in_no (n := 2) (by decide) h
theorem m_fo_yes {F j : Nat} {μ : Mem} (h : j ≤ 2) : fX9_in F (nI j).toInt64 0 2 μ = some (1, μ) := m_in_yes (n := 2) (by decide) h
theorem m_sp_no {F : Nat} {x : Int32} {μ : Mem} (h : x < 0 ∨ nI 100000 < x) : fX9_in F x.toInt64 0 100000 μ = some (0, μ) := m_in_no (n := 100000) (by decide) h
theorem m_sp_yes {F j : Nat} {μ : Mem} (h : j ≤ 100000) : fX9_in F (nI j).toInt64 0 100000 μ = some (1, μ) := m_in_yes (n := 100000) (by decide) h
theorem m_de_no {F : Nat} {x : Int32} {μ : Mem} (h : x < 0 ∨ nI 399 < x) : fX9_in F x.toInt64 0 399 μ = some (0, μ) := m_in_no (n := 399) (by decide) h
theorem m_de_yes {F j : Nat} {μ : Mem} (h : j ≤ 399) : fX9_in F (nI j).toInt64 0 399 μ = some (1, μ) := m_in_yes (n := 399) (by decide) h
theorem one_ne : ¬ (1 : Int32) = 0 := by decide
/-! findings -/
theorem fnd {μ : Mem} {v : Int32} (h : Inv wq μ) : Inv wq (upM (upM μ 1 (upd (μ 1) 3 v)) 89 (upd (upM μ 1 (upd (μ 1) 3 v) 89) 0 v)) := by
  have g : Ag [1] [0] μ (upM (upM μ 1 (upd (μ 1) 3 v)) 89 (upd (upM μ 1 (upd (μ 1) 3 v) 89) 0 v)) := (Ag.up (by decide) (by decide)).tr (Ag.fl (by decide))
  obtain ⟨h1, h2, h3, h4, h5, h6⟩ := h
  refine ⟨h1.ag2 g rfl, h2.ag g, h3.ag g, h4.ag g rfl, h5.ag g, h6.ag g⟩
/-- the answer of a finding, on both sides -/
theorem fnd_op {μ : Mem} (h : Inv wq μ) (v : Int32) : ∃ r μ1 μ2, fX7_finding FF v μ = some (r, μ1) ∧ fX9_met FF v μ1 = some (r, μ2) ∧ Inv wq μ2 := ⟨_, _, _, rfl, rfl, fnd h⟩
theorem gt4 {s : Nat} (h : s < 4) : gt 4 s = 5 + s ∧ ln (5 + s) = 40 := (show ∀ s, s < 4 → gt 4 s = 5 + s ∧ ln (5 + s) = 40 by decide) s h
theorem SH.mk1 {μ μ' : Mem} (h : SH μ) {s : Nat} (hfo : μ' 1 3 = μ' 89 0) (h2 : ∀ i, i ≠ s → μ' 2 i = μ 2 i ∧ μ' 90 i = μ 90 i ∧ μ' 3 i = μ 3 i ∧ μ' 91 i = μ 91 i) (hr : ∀ i, i < 4 → i ≠ s → rowS μ' i = rowS μ i) (hit : ∀ x, (x < 40 * s ∨ 40 * s + 40 ≤ x) → μ' 92 x = μ 92 x)
    (hs : μ' 2 s = μ' 90 s ∧ μ' 3 s = μ' 91 s ∧ (μ' 2 s = -1 ∨ ∃ f, f ≤ 2 ∧ μ' 2 s = nI f) ∧ ∃ z, z ≤ 40 ∧ μ' 3 s = nI z ∧ ∀ i, i < z → rowS μ' s i = μ' 92 (40 * s + i)) : SH μ' := by
  refine ⟨hfo, fun i hi => ?_⟩
  by_cases e : i = s
  · rw [e]; exact hs
  · obtain ⟨e1, e2, e3, e4⟩ := h2 i e
    rw [e1, e2, e3, e4, hr i hi e]
    obtain ⟨a1, a2, a3, z, a4, a5, a6⟩ := h.2 i hi
    refine ⟨a1, a2, a3, z, a4, a5, fun j hj => ?_⟩
    rw [hit _ (by omega)]
    exact a6 j hj
/-! Arrays.fill -/
theorem fill_loop {F k : Nat} {v : Int32} {μ : Mem} : ∀ (d n i : Nat), i + d = ln k → d < n → fJ7_fill_53178_5 F k n v (nI i) (nI (ln k)) (upM μ k (fun j => if j < i then v else μ k j)) = some (upM μ k (fun j => if j < ln k then v else μ k j)) := by
  have hl := ln_le k
  intro d
  induction d with
  | zero =>
    intro n i hi hn
    obtain ⟨n, rfl⟩ : ∃ n', n = n' + 1 := ⟨n - 1, by omega⟩
    show fJ7_fill_53178_5_b F k _ _ _ _ _ = _
    unfold fJ7_fill_53178_5_b
    rw [if_pos (nI_le (by omega) (by omega)), show i = ln k by omega]
  | succ d ih =>
    intro n i hi hn
    obtain ⟨n, rfl⟩ : ∃ n', n = n' + 1 := ⟨n - 1, by omega⟩
    show fJ7_fill_53178_5_b F k _ _ _ _ _ = _
    unfold fJ7_fill_53178_5_b
    rw [if_neg (nI_ge (by omega) (by omega)), wr_n (by omega), nI_add1, upM_upM, upM_self]
    have e : upd (fun j => if j < i then v else μ k j) i v = fun j => if j < i + 1 then v else μ k j := by
      funext j
      unfold upd
      by_cases h1 : j = i
      · rw [if_pos h1, if_pos (by omega)]
      · rw [if_neg h1]
        dsimp only
        by_cases h2 : j < i
        · rw [if_pos h2, if_pos (by omega)]
        · rw [if_neg h2, if_neg (by omega)]
    rw [e]
    exact ih n (i + 1) (by omega) (by omega)
theorem fill_n {k : Nat} {v : Int32} {μ : Mem} : fJ7_fill_53178 FF k v μ = some (upM μ k (fun j => if j < ln k then v else μ k j)) := by
  have hl := ln_le k
  have h := fill_loop (F := FF) (k := k) (v := v) (μ := μ) (ln k) FF 0 (by omega) (by rw [FF_e]; omega)
  rw [show (fun j => if j < 0 then v else μ k j) = μ k from rfl, upM_id] at h
  exact h
theorem renew_n {s z : Nat} {f : Int32} {μ : Mem} (hs : s < 4) : fX7_renew FF (nI s) f (nI z) μ = some (upM (upM (upM μ 2 (upd (μ 2) s f)) 3 (upd (μ 3) s (nI z))) (5 + s) (fun j => if j < 40 then 0 else μ (5 + s) j)) := by
  obtain ⟨e1, e2⟩ := gt4 hs
  unfold fX7_renew
  rw [wr_n (by exact hs), wr_n (by exact hs), rr_n (by exact hs), fill_n, cav_n, e1, e2, upM_ne (by omega), upM_ne (by omega), upM_ne (by omega)]
theorem m_sheet_loop {F s z : Nat} {μ : Mem} (hs : s < 4) (hz : z ≤ 40) : ∀ (d n i : Nat), i + d = z → d < n → fX9_sheet_55 F n (nI s) (nI z) (nI i) (upM μ 92 (fun x => if 40 * s ≤ x ∧ x < 40 * s + i then 0 else μ 92 x)) = some (nI z, upM μ 92 (fun x => if 40 * s ≤ x ∧ x < 40 * s + z then 0 else μ 92 x)) := by
  intro d
  induction d with
  | zero =>
    intro n i hi hn
    obtain ⟨n, rfl⟩ : ∃ n', n = n' + 1 := ⟨n - 1, by omega⟩
    show fX9_sheet_55_b F _ _ _ _ _ = _
    unfold fX9_sheet_55_b
    rw [if_pos (nI_le (by omega) (by omega)), show i = z by omega]
  | succ d ih =>
    intro n i hi hn
    obtain ⟨n, rfl⟩ : ∃ n', n = n' + 1 := ⟨n - 1, by omega⟩
    show fX9_sheet_55_b F _ _ _ _ _ = _
    unfold fX9_sheet_55_b
    rw [if_neg (nI_ge (by omega) (by omega)), show (40 : Int32) * nI s + nI i = nI (40 * s + i) from by rw [show (40 : Int32) = nI 40 from rfl, pk_mul, nI_add], wr_n (by show _ < 160; omega), nI_add1, upM_upM, upM_self]
    have e : upd (fun x => if 40 * s ≤ x ∧ x < 40 * s + i then 0 else μ 92 x) (40 * s + i) 0 = fun x => if 40 * s ≤ x ∧ x < 40 * s + (i + 1) then 0 else μ 92 x := by
      funext j
      unfold upd
      by_cases h1 : j = 40 * s + i
      · rw [if_pos h1, if_pos (by omega)]
      · rw [if_neg h1]
        dsimp only
        by_cases h2 : 40 * s ≤ j ∧ j < 40 * s + i
        · rw [if_pos h2, if_pos (by omega)]
        · rw [if_neg h2, if_neg (by omega)]
    rw [e]
    exact ih n (i + 1) (by omega) (by omega)
theorem if_m {α : Type} {A B : α} {p q : Prop} [Decidable p] [Decidable q] (h : p ↔ q) : (if p then A else B) = if q then A else B := by
  by_cases e : p
  · rw [if_pos e, if_pos (h.mp e)]
  · rw [if_neg e, if_neg (fun x => e (h.mpr x))]
theorem m_sheet_n {s z : Nat} {f : Int32} {μ : Mem} (hs : s < 4) (hz : z ≤ 40) : fX9_sheet_55 FF FF (nI s) (nI z) 0 μ = some (nI z, upM μ 92 (fun x => if 40 * s ≤ x ∧ x < 40 * s + z then 0 else μ 92 x)) := by
  have hm := m_sheet_loop (F := FF) (s := s) (z := z) (μ := μ) hs hz z FF 0 (by omega) (by rw [FF_e]; omega)
  rw [show (fun x => if 40 * s ≤ x ∧ x < 40 * s + 0 then (0 : Int32) else μ 92 x) = μ 92 from funext (fun x => if_neg (by omega)), upM_id] at hm
  exact hm
theorem op_sheet (a b c : Int32) : Op wq (fX8_sheet FF a b c) (fX9_sheet FF a b c) := by
  intro μ hI
  unfold fX8_sheet fX9_sheet
  rcases small a 3 (by decide) with h | ⟨s, hs, rfl⟩
  · exact ⟨_, _, _, by rw [c_sh_no h, cal_n, if_pos rfl], by rw [m_sh_no h, cal_n, if_pos rfl], hI⟩
  rcases small b 2 (by decide) with h | ⟨f, hf, rfl⟩
  · exact ⟨_, _, _, by rw [c_sh_yes hs, cal_n, if_neg one_ne, c_fo_no h, cal_n, if_pos rfl], by rw [m_sh_yes hs, cal_n, if_neg one_ne, m_fo_no h, cal_n, if_pos rfl], hI⟩
  by_cases h40 : c ≤ 40
  · by_cases h0 : 0 ≤ c
    · obtain ⟨z, hz, rfl⟩ : ∃ z, z ≤ 40 ∧ c = nI z := nI_of2 (M := 40) rfl (by rw [Int32.lt_iff_toInt_lt]; rw [Int32.le_iff_toInt_le] at h0; omega) h40
      refine ⟨nI z, _, _, by rw [c_sh_yes hs, cal_n, if_neg one_ne, c_fo_yes hf, cal_n, if_neg one_ne, if_pos h40, if_pos h0, renew_n (by omega), cav_n], by rw [m_sh_yes hs, cal_n, if_neg one_ne, m_fo_yes hf, cal_n, if_neg one_ne, if_pos h40, if_pos h0, wr_n (by show s < 4; omega), wr_n (by show s < 4; omega), m_sheet_n (f := 0) (by omega) hz], ?_⟩
      generalize hμ1 : upM (upM (upM μ 2 (upd (μ 2) s (nI f))) 3 (upd (μ 3) s (nI z))) (5 + s) (fun j => if j < 40 then 0 else μ (5 + s) j) = μ1
      have k : ∀ i, i ≠ 2 → i ≠ 3 → i ≠ 5 + s → μ1 i = μ i := fun i h2 h3 h5 => by rw [← hμ1, upM_ne h5, upM_ne h3, upM_ne h2]
      have k2 : μ1 2 = upd (μ 2) s (nI f) := by rw [← hμ1, upM_ne (by omega)]; rfl
      have k3 : μ1 3 = upd (μ 3) s (nI z) := by rw [← hμ1, upM_ne (by omega)]; rfl
      have k5 : μ1 (5 + s) = fun j => if j < 40 then 0 else μ (5 + s) j := by rw [← hμ1, upM_self]
      have g : Ag [2, 3, 5, 6, 7, 8, 90, 91, 92] [] μ (upM (upM (upM μ1 90 (upd (μ1 90) s (nI f))) 91 (upd (upM μ1 90 (upd (μ1 90) s (nI f)) 91) s (nI z))) 92 (fun x => if 40 * s ≤ x ∧ x < 40 * s + z then 0 else upM (upM μ1 90 (upd (μ1 90) s (nI f))) 91 (upd (upM μ1 90 (upd (μ1 90) s (nI f)) 91) s (nI z)) 92 x)) := by
        refine Ag.tr (b := μ1) ⟨fun i h9 hi => k i (fun q => hi (by rw [q]; decide)) (fun q => hi (by rw [q]; decide)) (fun q => hi ?_), fun j _ => by rw [k 89 (by decide) (by decide) (by omega)]⟩ (((Ag.up (by decide) (by decide)).tr (Ag.up (by decide) (by decide))).tr (Ag.up (by decide) (by decide)))
        have h4 : s = 0 ∨ s = 1 ∨ s = 2 ∨ s = 3 := by omega
        rcases h4 with rfl | rfl | rfl | rfl <;> rw [q] <;> decide
      obtain ⟨h1, h2, h3, h4, h5, h6⟩ := hI
      refine ⟨h1.mk1 (s := s) ?_ (fun i hi => ?_) (fun i hi hs => ?_) (fun x hx => ?_) ?_, h2.ag g, h3.ag g, h4.ag g (by rw [g.at 9]), h5.ag g, h6.ag g⟩
      · rw [g.at 1, g.fi 0]; exact h1.1
      · refine ⟨?_, ?_, ?_, ?_⟩
        · show μ1 2 i = _; rw [k2, upd_ne hi]
        · show upd (μ1 90) s _ i = _; rw [upd_ne hi, k 90 (by decide) (by decide) (by omega)]
        · show μ1 3 i = _; rw [k3, upd_ne hi]
        · show upd (μ1 91) s _ i = _; rw [upd_ne hi, k 91 (by decide) (by decide) (by omega)]
      · unfold rowS
        rw [upM_ne (by omega), upM_ne (by omega), upM_ne (by omega), k _ (by omega) (by omega) (by omega)]
      · show (if 40 * s ≤ x ∧ x < 40 * s + z then (0 : Int32) else μ1 92 x) = _
        rw [if_neg (by omega), k 92 (by decide) (by decide) (by omega)]
      · refine ⟨?_, ?_, Or.inr ⟨f, hf, ?_⟩, z, hz, ?_, fun i hi => ?_⟩
        · show μ1 2 s = upd (μ1 90) s _ s; rw [k2, upd_s, upd_s]
        · show μ1 3 s = upd (μ1 91) s _ s; rw [k3, upd_s, upd_s]
        · show μ1 2 s = _; rw [k2, upd_s]
        · show μ1 3 s = _; rw [k3, upd_s]
        · unfold rowS
          rw [upM_ne (by omega), upM_ne (by omega), upM_ne (by omega), k5, upM_self]
          dsimp only
          rw [if_pos (by omega), if_pos (by omega)]
    · rw [c_sh_yes hs, cal_n, if_neg one_ne, c_fo_yes hf, cal_n, if_neg one_ne, if_pos h40, if_neg h0]
      simp only [m_sh_yes hs, cal_n, if_neg one_ne, m_fo_yes hf, if_pos h40, if_neg h0]
      exact fnd_op hI 5
  · exact ⟨_, _, _, by rw [c_sh_yes hs, cal_n, if_neg one_ne, c_fo_yes hf, cal_n, if_neg one_ne, if_neg h40], by rw [m_sh_yes hs, cal_n, if_neg one_ne, m_fo_yes hf, cal_n, if_neg one_ne, if_neg h40], hI⟩
