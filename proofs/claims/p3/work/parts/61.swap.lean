/-! the row's exchanges -/
variable {wq : Prop}
def swp (f : Nat → Int32) (i j : Nat) : Nat → Int32 := upd (upd f i (f j)) j (f i)
theorem swp_e {f : Nat → Int32} {i j k : Nat} : swp f i j k = f (if k = j then i else if k = i then j else k) := by
  unfold swp
  by_cases h : k = j
  · rw [h, upd_s, if_pos rfl]
  · rw [upd_ne h, if_neg h]
    by_cases h2 : k = i
    · rw [h2, upd_s, if_pos rfl]
    · rw [upd_ne h2, if_neg h2]
theorem swp_congr {f g : Nat → Int32} {i j N : Nat} (h : ∀ k, k < N → f k = g k) (hi : i < N) (hj : j < N) : ∀ k, k < N → swp f i j k = swp g i j k := by
  intro k hk
  rw [swp_e, swp_e]
  refine h _ ?_
  by_cases h1 : k = j
  · rw [if_pos h1]; exact hi
  · rw [if_neg h1]
    by_cases h2 : k = i
    · rw [if_pos h2]; exact hj
    · rw [if_neg h2]; exact hk
theorem PermF.swp {f : Nat → Int32} {N i j : Nat} (h : PermF f N) (hi : i < N) (hj : j < N) : PermF (swp f i j) N := by
  obtain ⟨σ, τ, h1, h2⟩ := h
  have st : ∀ a b, a < N → b < N → σ a = σ b → a = b := fun a b ha hb e => by rw [← (h1 a ha).2.2, ← (h1 b hb).2.2, e]
  have pl : ∀ k, k < N → (if k = j then i else if k = i then j else k) < N := fun k hk => by
    by_cases h1 : k = j
    · rw [if_pos h1]; exact hi
    · rw [if_neg h1]
      by_cases h2 : k = i
      · rw [if_pos h2]; exact hj
      · rw [if_neg h2]; exact hk
  have pp : ∀ k, (if (if k = j then i else if k = i then j else k) = j then i else if (if k = j then i else if k = i then j else k) = i then j else (if k = j then i else if k = i then j else k)) = k := fun k => by
    by_cases h1 : k = j
    · subst h1
      rw [if_pos rfl]
      by_cases h2 : i = k
      · rw [if_pos h2, h2]
      · rw [if_neg h2, if_pos rfl]
    · rw [if_neg h1]
      by_cases h2 : k = i
      · rw [if_pos h2, if_pos rfl, h2]
      · rw [if_neg h2, if_neg h1, if_neg h2]
  refine ⟨fun k => σ (if k = j then i else if k = i then j else k), fun v => if τ v = j then i else if τ v = i then j else τ v, fun k hk => ⟨(h1 _ (pl k hk)).1, ?_, ?_⟩, fun v hv => ⟨pl _ (h2 v hv).1, ?_⟩⟩
  · rw [swp_e]
    exact (h1 _ (pl k hk)).2.1
  · show (if τ (σ (if k = j then i else if k = i then j else k)) = j then i else if τ (σ (if k = j then i else if k = i then j else k)) = i then j else τ (σ (if k = j then i else if k = i then j else k))) = k
    rw [(h1 _ (pl k hk)).2.2]
    exact pp k
  · show σ (if (if τ v = j then i else if τ v = i then j else τ v) = j then i else if (if τ v = j then i else if τ v = i then j else τ v) = i then j else (if τ v = j then i else if τ v = i then j else τ v)) = v
    rw [pp]
    exact (h2 v hv).2
theorem c_exch {F k i j : Nat} {μ : Mem} (hi : i < ln k) (hj : j < ln k) : fX8_exchange F k (nI i) (nI j) μ = some (upM μ k (swp (μ k) i j)) := by
  unfold fX8_exchange
  rw [rd_n hi, rd_n hj, wr_n hi, wr_n hj, upM_upM, upM_self]
  rfl
theorem op_swap (a b : Int32) : Op wq (fX8_swap FF a b) (fX9_swap FF a b) := by
  intro μ hI
  obtain ⟨N, μc, hL, c1, c2, c3⟩ := keepOp2 hI
  have h9 : μ 9 6 = nI N := hL.2.1
  have h94 : μ 94 0 = nI N := hL.2.2.1
  have hN := hL.1
  unfold fX8_swap fX9_swap
  rcases (ix a N (by omega)).symm with h | ⟨i, hi, rfl⟩
  · exact ⟨_, _, _, by rw [c_lf_no h9 hN h, cal_n, if_pos rfl], by rw [m_lf_no h94 hN h, cal_n, if_pos rfl], hI⟩
  rcases (ix b N (by omega)).symm with h | ⟨j, hj, rfl⟩
  · exact ⟨_, _, _, by rw [c_lf_yes h9 hN hi, cal_n, if_neg one_ne, c_lf_no h9 hN h, cal_n, if_pos rfl], by rw [m_lf_yes h94 hN hi, cal_n, if_neg one_ne, m_lf_no h94 hN h, cal_n, if_pos rfl], hI⟩
  have e14 : μc 14 = μ 14 := c2 14 (by omega) (by omega)
  obtain ⟨μm, m1, m2, m3, m4, m5, m6⟩ := c3 (upM μc 14 (swp (μ 14) i j)) (fun k hk => by rw [upM_ne (by omega), c2 k (by omega) (by omega)]) (fun k hk => by rw [upM_ne (by omega)])
  have f2 : ∀ k, k ≠ 14 → k ≠ 89 → (k < 94 ∨ 100 ≤ k) → k ≠ 16 → (k < 18 ∨ 53 ≤ k) → upM μm 99 (swp (μm 99) i j) k = μ k := fun k q1 q3 q4 q5 q6 => by rw [upM_ne (by omega), m2 k q3 q4, upM_ne q1, c2 k q5 q6]
  have g14 : upM μm 99 (swp (μm 99) i j) 14 = swp (μ 14) i j := by rw [upM_ne (by omega), m2 14 (by omega) (by omega), upM_self]
  refine ⟨1, upM μc 14 (swp (μ 14) i j), upM μm 99 (swp (μm 99) i j), ?_, ?_, Inv.alt (N := N) hI (fun k q1 q2 q3 => f2 k (by omega) q3 q2 (by omega) (by omega)) (fun j q1 q2 => m3 j q1) ?_ ?_ ?_⟩
  · rw [c_lf_yes h9 hN hi, cal_n, if_neg one_ne, c_lf_yes h9 hN hj, cal_n, if_neg one_ne, c1, cav_n, c_exch (by show i < 40; omega) (by show j < 40; omega), e14, cav_n]
  · have h94' : upM μc 14 (swp (μ 14) i j) 94 0 = nI N := by rw [upM_ne (by omega), c2 94 (by omega) (by omega)]; exact h94
    rw [m_lf_yes h94' hN hi, cal_n, if_neg one_ne, m_lf_yes h94' hN hj, cal_n, if_neg one_ne, m1, cav_n, rd_n (by show i < 240; omega), rd_n (by show j < 240; omega), wr_n (by show i < 240; omega), wr_n (by show j < 240; omega), upM_upM, upM_self]
    rfl
  · refine RelN.mk hN (by rw [f2 9 (by omega) (by omega) (by omega) (by omega) (by omega)]; exact h9) m4 (fun k hk => ?_) ?_ ⟨fun k hk => ?_, ?_⟩
    · rw [g14, f2 10 (by omega) (by omega) (by omega) (by omega) (by omega), f2 11 (by omega) (by omega) (by omega) (by omega) (by omega), f2 12 (by omega) (by omega) (by omega) (by omega) (by omega), f2 13 (by omega) (by omega) (by omega) (by omega) (by omega)]
      obtain ⟨e1, e2, e3, e4, e5⟩ := hL.eqs hk
      have q : ∀ c, 95 ≤ c → c < 100 → μm c k = μ c k := fun c h1 h2 => m5 c h1 h2 k (by omega)
      refine ⟨e1.trans (q 95 (by omega) (by omega)).symm, e2.trans (q 96 (by omega) (by omega)).symm, e3.trans (q 97 (by omega) (by omega)).symm, e4.trans (q 98 (by omega) (by omega)).symm, fun hq => ?_⟩
      show _ = swp (μm 99) i j k
      exact swp_congr (fun k hk => ((hL.eqs hk).2.2.2.2 hq).trans (m5 99 (by omega) (by omega) k (by omega)).symm) hi hj k hk
    · rw [upM_self]
      exact (hL.oko.congr (fun k hk => m5 99 (by omega) (by omega) k (by omega))).swp hi hj
    · rw [f2 10 (by omega) (by omega) (by omega) (by omega) (by omega), f2 11 (by omega) (by omega) (by omega) (by omega) (by omega), f2 12 (by omega) (by omega) (by omega) (by omega) (by omega), f2 13 (by omega) (by omega) (by omega) (by omega) (by omega)]
      exact hL.oks.1 k hk
    · rw [g14]
      exact hL.oks.2.swp hi hj
  · refine m6 _ (fun k hk => by rw [upM_ne (by omega)]) (by rw [upM_ne (by omega)]) (by rw [upM_ne (by omega)]) (fun c h1 h2 k hk => ?_)
    by_cases h99 : c = 99
    · subst h99
      rw [upM_self]
      unfold swp
      rw [upd_ne (by omega), upd_ne (by omega)]
    rw [upM_ne h99]
  · exact hI.2.2.2.1.same (f2 54 (by omega) (by omega) (by omega) (by omega) (by omega)) (f2 100 (by omega) (by omega) (by omega) (by omega) (by omega)) (f2 53 (by omega) (by omega) (by omega) (by omega) (by omega)) (m3 12 (by decide)) (m3 14 (by decide)) (m3 15 (by decide)) (by rw [f2 9 (by omega) (by omega) (by omega) (by omega) (by omega)])
/-- the row found is used -/
theorem m_use_loop {F N : Nat} {μ : Mem} (hN : N ≤ 40) (h : μ 94 0 = nI N) : ∀ (d n i : Nat), i + d = N → d < n → fX9_use_23 F n (nI i) (upM μ 99 (fun x => if x < i then μ 100 x else μ 99 x)) = some (1, upM μ 99 (fun x => if x < N then μ 100 x else μ 99 x)) := by
  intro d
  induction d with
  | zero =>
    intro n i hi hn
    obtain ⟨n, rfl⟩ : ∃ n', n = n' + 1 := ⟨n - 1, by omega⟩
    show fX9_use_23_b F _ _ _ = _
    unfold fX9_use_23_b
    rw [show (0 : Int32) = nI 0 from rfl, rd_n (by decide), upM_ne (by omega), h, if_pos (nI_le (by omega) (by omega)), show i = N by omega]
  | succ d ih =>
    intro n i hi hn
    obtain ⟨n, rfl⟩ : ∃ n', n = n' + 1 := ⟨n - 1, by omega⟩
    show fX9_use_23_b F _ _ _ = _
    unfold fX9_use_23_b
    rw [show (0 : Int32) = nI 0 from rfl, rd_n (by decide), upM_ne (by omega), h, if_neg (nI_ge (by omega) (by omega)), rd_n (by show i < 40; omega), wr_n (by show i < 240; omega), nI_add1, upM_upM, upM_self, upM_ne (by omega)]
    have e : upd (fun x => if x < i then μ 100 x else μ 99 x) i (μ 100 i) = fun x => if x < i + 1 then μ 100 x else μ 99 x := by
      funext x
      unfold upd
      by_cases h1 : x = i
      · rw [if_pos h1, if_pos (by omega), h1]
      · rw [if_neg h1]
        show (if x < i then μ 100 x else μ 99 x) = _
        by_cases h2 : x < i
        · rw [if_pos h2, if_pos (by omega)]
        · rw [if_neg h2, if_neg (by omega)]
    rw [e]
    exact ih n (i + 1) (by omega) (by omega)
theorem op_use : Op wq (fX8_use FF) (fX9_use FF) := by
  intro μ hI
  obtain ⟨N, μc, hL, c1, c2, c3⟩ := keepOp2 hI
  have h9 : μ 9 6 = nI N := hL.2.1
  have h94 : μ 94 0 = nI N := hL.2.2.1
  have hN := hL.1
  obtain ⟨B, b1, b2, b3, b4, b5, b6, b7, b8, b9⟩ := hI.2.2.2.1
  unfold fX8_use fX9_use
  by_cases h53 : μ 53 2 = 0
  · rw [h53] at b8
    by_cases h14 : μ 89 14 = 0
    · exact ⟨_, _, _, by rw [if_pos h53], by rw [if_pos h14], hI⟩
    · rw [if_neg h14] at b8
      exact ⟨_, _, _, by rw [if_pos h53], by rw [if_neg h14, if_pos b8.symm], hI⟩
  · have h14 : ¬ μ 89 14 = 0 := fun q => by rw [if_pos q] at b8; exact h53 b8
    rw [if_neg h14] at b8
    have h15 : ¬ μ 89 15 = 0 := fun q => h53 (b8.trans q)
    have h1 : μ 53 2 = 1 := by rcases b6 with q | q; exact absurd q h15; rw [b8, q]
    obtain ⟨hB, hP⟩ := b9 h1
    have eB : N = B := nI_inj (by omega) (by omega) (h9.symm.trans hB)
    subst eB
    have e54 : μc 54 = μ 54 := c2 54 (by omega) (by omega)
    have e53 : μc 53 = μ 53 := c2 53 (by omega) (by omega)
    have e14 : μc 14 = μ 14 := c2 14 (by omega) (by omega)
    obtain ⟨μm, m1, m2, m3, m4, m5, m6⟩ := c3 (upM μc 14 (va_cpy (μ 54) (μ 14) 0 0 N)) (fun k hk => by rw [upM_ne (by omega), c2 k (by omega) (by omega)]) (fun k hk => by rw [upM_ne (by omega)])
    have f2 : ∀ k, k ≠ 14 → k ≠ 89 → (k < 94 ∨ 100 ≤ k) → k ≠ 16 → (k < 18 ∨ 53 ≤ k) → upM μm 99 (fun x => if x < N then μm 100 x else μm 99 x) k = μ k := fun k q1 q3 q4 q5 q6 => by rw [upM_ne (by omega), m2 k q3 q4, upM_ne q1, c2 k q5 q6]
    have g14 : ∀ i, i < N → upM μm 99 (fun x => if x < N then μm 100 x else μm 99 x) 14 i = μ 54 i := fun i hi => by
      rw [upM_ne (by omega), m2 14 (by omega) (by omega), upM_self]
      unfold va_cpy
      rw [if_pos (by omega)]
      congr 1
      omega
    have e100 : μm 100 = μ 100 := by rw [m2 100 (by omega) (by omega), upM_ne (by omega), c2 100 (by omega) (by omega)]
    have k89 : upM μc 14 (va_cpy (μ 54) (μ 14) 0 0 N) 89 = μ 89 := by rw [upM_ne (by omega), c2 89 (by omega) (by omega)]
    refine ⟨1, upM μc 14 (va_cpy (μ 54) (μ 14) 0 0 N), upM μm 99 (fun x => if x < N then μm 100 x else μm 99 x), ?_, ?_, Inv.alt (N := N) hI (fun k q1 q2 q3 => f2 k (by omega) q3 q2 (by omega) (by omega)) (fun j q1 q2 => m3 j q1) ?_ ?_ ?_⟩
    · rw [if_neg h53, c1, cav_n, e53, b2, show (0 : Int32) = nI 0 from rfl, cpy_n (by show 0 + N ≤ 40; omega) (by show 0 + N ≤ 40; omega), e54, e14]
    · rw [if_neg (by rw [k89]; exact h14), if_neg (by rw [k89]; exact h15), m1, cav_n]
      have hl := m_use_loop (F := FF) (μ := μm) hN m4 N FF 0 (by omega) (by rw [FF_e]; omega)
      have e0 : upM μm 99 (fun x => if x < 0 then μm 100 x else μm 99 x) = μm := by
        have : (fun x => if x < 0 then μm 100 x else μm 99 x) = μm 99 := funext fun x => if_neg (by omega)
        rw [this, upM_id]
      rw [e0] at hl
      exact hl
    · refine RelN.mk hN (by rw [f2 9 (by omega) (by omega) (by omega) (by omega) (by omega)]; exact h9) m4 (fun k hk => ?_) (hP.congr (fun k hk => by rw [upM_self, if_pos hk, e100]; exact (b4 k hk).symm)) ⟨fun k hk => ?_, ?_⟩
      · rw [g14 k hk, f2 10 (by omega) (by omega) (by omega) (by omega) (by omega), f2 11 (by omega) (by omega) (by omega) (by omega) (by omega), f2 12 (by omega) (by omega) (by omega) (by omega) (by omega), f2 13 (by omega) (by omega) (by omega) (by omega) (by omega)]
        obtain ⟨e1, e2, e3, e4, e5⟩ := hL.eqs hk
        have q : ∀ c, 95 ≤ c → c < 100 → μm c k = μ c k := fun c h1 h2 => m5 c h1 h2 k (by omega)
        refine ⟨e1.trans (q 95 (by omega) (by omega)).symm, e2.trans (q 96 (by omega) (by omega)).symm, e3.trans (q 97 (by omega) (by omega)).symm, e4.trans (q 98 (by omega) (by omega)).symm, fun _ => ?_⟩
        rw [upM_self, if_pos hk, e100]
        exact b4 k hk
      · rw [f2 10 (by omega) (by omega) (by omega) (by omega) (by omega), f2 11 (by omega) (by omega) (by omega) (by omega) (by omega), f2 12 (by omega) (by omega) (by omega) (by omega) (by omega), f2 13 (by omega) (by omega) (by omega) (by omega) (by omega)]
        exact hL.oks.1 k hk
      · exact hP.congr g14
    · refine m6 _ (fun k hk => by rw [upM_ne (by omega)]) (by rw [upM_ne (by omega)]) (by rw [upM_ne (by omega)]) (fun c h1 h2 k hk => ?_)
      by_cases h99 : c = 99
      · subst h99
        rw [upM_self, if_neg (by omega)]
      rw [upM_ne h99]
    · exact hI.2.2.2.1.same (f2 54 (by omega) (by omega) (by omega) (by omega) (by omega)) (f2 100 (by omega) (by omega) (by omega) (by omega) (by omega)) (f2 53 (by omega) (by omega) (by omega) (by omega) (by omega)) (m3 12 (by decide)) (m3 14 (by decide)) (m3 15 (by decide)) (by rw [f2 9 (by omega) (by omega) (by omega) (by omega) (by omega)])
