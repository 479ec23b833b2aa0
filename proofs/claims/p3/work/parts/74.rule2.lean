variable {wq : Prop}
def Ld (N : Nat) (X B : Nat → Int32) : Prop := ∀ i, i < N → (∃ x, x ≤ 100000 ∧ X i = nI x) ∧ ∃ x, x ≤ 100000 ∧ B i = nI x
theorem m_rule_in {F k1 N x : Nat} {μ : Mem} (hk : k1 < 95 ∨ 96 < k1) (hN : N ≤ 40) (hx : x < N) (hl : N ≤ ln k1) (hd : Ld N (μ 95) (μ 96)) (rec2 : Int32 → Mem → Option Mem) : ∀ (j n : Nat) (g : Nat → Int32), j ≤ x → j < n → (∀ p, p < j → ∃ s, s < x ∧ g p = nI s) → fX9_byRule_14 F k1 rec2 n (nI x) (nI j) (upM μ k1 g) = rec2 (nI (x + 1)) (upM μ k1 (shI (fun v => ahd (μ 95) (μ 96) v x) (nI x) j g)) := by
  have l1 := ln_le k1
  intro j
  induction j with
  | zero =>
    intro n g hj hn hg
    obtain ⟨n, rfl⟩ : ∃ n', n = n' + 1 := ⟨n - 1, by omega⟩
    show fX9_byRule_14_b F k1 rec2 _ _ _ _ = _
    unfold fX9_byRule_14_b fX9_byRule_45
    rw [if_pos (show nI 0 ≤ 0 by decide), wr_n (by omega), nI_add1, upM_upM, upM_self]
    rfl
  | succ j ih =>
    intro n g hj hn hg
    obtain ⟨n, rfl⟩ : ∃ n', n = n' + 1 := ⟨n - 1, by omega⟩
    obtain ⟨s, hs, es⟩ := hg j (by omega)
    have e : shI (fun v => ahd (μ 95) (μ 96) v x) (nI x) (j + 1) g = if ahd (μ 95) (μ 96) s x = true then shI (fun v => ahd (μ 95) (μ 96) v x) (nI x) j (upd g (j + 1) (g j)) else upd g (j + 1) (nI x) := by
      show (if ahd (μ 95) (μ 96) (tn (g j)) x = true then _ else _) = _
      rw [es, tn_n (by omega)]
    obtain ⟨⟨a, la, ea⟩, ⟨b, lb, eb⟩⟩ := hd x hx
    obtain ⟨⟨c, lc, ec⟩, ⟨d, ld, ed⟩⟩ := hd s (by omega)
    have e95 : upM μ k1 g 95 = μ 95 := upM_ne (by omega)
    have e96 : upM μ k1 g 96 = μ 96 := upM_ne (by omega)
    have am := m_ahead (F := F) (μ := upM μ k1 g) hs (show x < 40 by omega) (by rw [e95]; exact ea) (by rw [e96]; exact eb) (by rw [e95]; exact ec) (by rw [e96]; exact ed) la lb lc ld
    rw [e95, e96] at am
    show fX9_byRule_14_b F k1 rec2 _ _ _ _ = _
    unfold fX9_byRule_14_b fX9_byRule_45
    rw [show (0 : Int32) = nI 0 from rfl, if_neg (nI_ge (by omega) (by omega)), show (1 : Int32) = nI 1 from rfl, nI_sub (by omega), show j + 1 - 1 = j by omega, rd_n (by omega), upM_self, es, am, cal_n, e]
    by_cases c : ahd (μ 95) (μ 96) s x = true
    · rw [if_pos c, if_pos c, if_neg (show ¬ (1 : Int32) = nI 0 by decide), rd_n (by omega), upM_self, es, wr_n (by omega), upM_upM, upM_self, show nI (j + 1) + -nI 1 = nI j from nI_addm1 j]
      exact ih n _ (by omega) (by omega) (fun p hp => by rw [upd_ne (by omega)]; exact hg p (by omega))
    · rw [if_neg c, if_neg c, if_pos (show (0 : Int32) = nI 0 from rfl), wr_n (by omega), upM_upM, upM_self, show nI x + nI 1 = nI (x + 1) from nI_add1 x]
theorem m_byRule {k1 N : Nat} {μ : Mem} (hk : k1 < 94 ∨ 96 < k1) (hN : N ≤ 40) (hl : N ≤ ln k1) (h : μ 94 0 = nI N) (hd : Ld N (μ 95) (μ 96)) : fX9_byRule FF k1 μ = some (upM μ k1 (srI (ahd (μ 95) (μ 96)) (μ k1) N)) := by
  have loop : ∀ (d n i : Nat), i + d = N → d < n → fX9_byRule_2 FF k1 n (nI i) (upM μ k1 (srI (ahd (μ 95) (μ 96)) (μ k1) i)) = some (upM μ k1 (srI (ahd (μ 95) (μ 96)) (μ k1) N)) := by
    intro d
    induction d with
    | zero =>
      intro n i hi hn
      obtain ⟨n, rfl⟩ : ∃ n', n = n' + 1 := ⟨n - 1, by omega⟩
      show fX9_byRule_2_b FF k1 _ _ _ = _
      unfold fX9_byRule_2_b
      rw [show (0 : Int32) = nI 0 from rfl, rd_n (by decide), upM_ne (by omega), h, if_pos (nI_le (by omega) (by omega)), show i = N by omega]
    | succ d ih =>
      intro n i hi hn
      obtain ⟨n, rfl⟩ : ∃ n', n = n' + 1 := ⟨n - 1, by omega⟩
      show fX9_byRule_2_b FF k1 _ _ _ = _
      unfold fX9_byRule_2_b
      obtain ⟨σ, τ, p1, p2⟩ := srI_perm (gt := ahd (μ 95) (μ 96)) (g := μ k1) i
      rw [show (0 : Int32) = nI 0 from rfl, rd_n (by decide), upM_ne (by omega), h, if_neg (nI_ge (by omega) (by omega)), m_rule_in (by omega) hN (by omega) hl hd _ i FF _ (by omega) (by rw [FF_e]; omega) (fun p hp => ⟨σ p, (p1 p hp).1, (p1 p hp).2.1⟩)]
      exact ih n (i + 1) (by omega) (by omega)
  have := loop N FF 0 (by omega) (by rw [FF_e]; omega)
  rw [show srI (ahd (μ 95) (μ 96)) (μ k1) 0 = μ k1 from rfl, upM_id] at this
  exact this
/-- both find the same row -/
theorem rules_eq {N : Nat} {X B X' B' k g g' : Nat → Int32} (hN : N ≤ 40) (hX : ∀ i, i < N → X i = X' i ∧ B i = B' i) : ∀ p, p < N → srI (gtK (ruF X B N k)) g N p = srI (ahd X' B') g' N p := by
  refine srI_congr (by omega) (fun s x hs hx => ?_)
  unfold gtK ahd ruF
  rw [if_pos (by omega), if_pos hx]
  unfold ruK
  rw [(hX s (by omega)).1, (hX s (by omega)).2, (hX x hx).1, (hX x hx).2]
theorem Inv.alt2 {N : Nat} {μ μ2 : Mem} (hI : Inv wq μ) (e : ∀ k, (k < 9 ∨ 61 ≤ k) → (k < 94 ∨ 100 ≤ k) → k ≠ 89 → k ≠ 103 → k ≠ 104 → μ2 k = μ k) (ej : ∀ j, j ≠ 11 → j ≠ 15 → μ2 89 j = μ 89 j) (hl : RelN wq N (CL μ2) (MT μ2 0)) (hH : HI wq μ2) (hB : BT μ2) : Inv wq μ2 := by
  have g : Ag (List.range' 9 52 ++ List.range' 94 6 ++ [103, 104]) [11, 15] μ μ2 := by
    refine ⟨fun k h9 hk => ?_, fun j hj => ?_⟩
    · simp only [List.mem_append, List.mem_range'_1, List.mem_cons, List.not_mem_nil, or_false, not_or, not_and] at hk
      exact e k (by omega) (by omega) h9 (by omega) (by omega)
    · simp only [List.mem_cons, List.not_mem_nil, or_false, not_or] at hj
      exact ej j hj.1 hj.2
  obtain ⟨i1, i2, i3, i4, i5, i6⟩ := hI
  exact ⟨i1.ag g, ⟨N, hl⟩, hH, hB, i5.ag g, i6.ag g⟩
theorem RelN.ld {N : Nat} {μ : Mem} (hL : RelN wq N (CL μ) (MT μ 0)) : Ld N (μ 10) (μ 11) := fun i hi => ⟨(hL.oks.1 i hi).1, (hL.oks.1 i hi).2.1⟩
theorem Ld.congr {N : Nat} {X B X' B' : Nat → Int32} (h : Ld N X B) (e : ∀ i, i < N → X' i = X i ∧ B' i = B i) : Ld N X' B' := fun i hi => by
  rw [(e i hi).1, (e i hi).2]
  exact h i hi
theorem op_rule : Op wq (fX8_rule FF) (fX9_rule FF) := by
  intro μ hI
  obtain ⟨N, μc, hL, c1, c2, c3⟩ := keepOp2 hI
  have h9 : μ 9 6 = nI N := hL.2.1
  have hN := hL.1
  obtain ⟨μa, a1, a2, a3⟩ := c_byRule (k1 := 14) (μ := μc) hN (by exact hN) (by omega) (by rw [c2 9 (by omega) (by omega)]; exact h9)
  rw [c2 10 (by omega) (by omega), c2 11 (by omega) (by omega)] at a3
  obtain ⟨σ, τ, p1, p2⟩ := srI_perm (gt := gtK (ruF (μ 10) (μ 11) N (μc 15))) (g := μc 14) N
  have hσ : ∀ p, p < N → σ p < N ∧ μa 14 p = nI (σ p) := fun p hp => ⟨(p1 p hp).1, by rw [a3]; exact (p1 p hp).2.1⟩
  have a4 : ∀ k, k ≠ 14 → k ≠ 15 → k ≠ 16 → (k < 18 ∨ 53 ≤ k) → μa k = μ k := fun k q1 q2 q3 q4 => by rw [a2 k q2 q1, c2 k q3 q4]
  have hRC : RowC N 14 (fun p => μ 10 (σ p)) (fun p => μ 11 (σ p)) μa := by
    refine ⟨by rw [a4 9 (by omega) (by omega) (by omega) (by omega)]; exact h9, fun p hp => ⟨σ p, by have := (hσ p hp).1; omega, (hσ p hp).2, ?_, ?_⟩⟩
    · rw [a4 10 (by omega) (by omega) (by omega) (by omega)]
    · rw [a4 11 (by omega) (by omega) (by omega) (by omega)]
  obtain ⟨μ0, μ1, b1, b2, b3, b4⟩ := c_day (l := 1) (m := 0) hN (show N ≤ ln 14 from hN) (by omega) (by omega) (by omega) (by omega) hRC
  obtain ⟨μm, m1, m2, m3, m4, m5, m6⟩ := c3 μ1 (fun k hk => by rw [b3 k (by omega), a4 k (by omega) (by omega) (by omega) (by omega)]) (fun k hk => by rw [b3 k (by omega), a2 k (by omega) (by omega)])
  have q95 : ∀ i, i < N → μm 95 i = μ 10 i ∧ μm 96 i = μ 11 i := fun i hi => ⟨(m5 95 (by omega) (by omega) i (by omega)).trans (hL.eqs hi).1.symm, (m5 96 (by omega) (by omega) i (by omega)).trans (hL.eqs hi).2.1.symm⟩
  have d1 := m_byRule (k1 := 99) (μ := μm) (by omega) hN (show N ≤ ln 99 by show N ≤ 240; omega) m4 (hL.ld.congr q95)
  obtain ⟨μr, hμr⟩ : ∃ μr, μr = upM μm 99 (srI (ahd (μm 95) (μm 96)) (μm 99) N) := ⟨_, rfl⟩
  rw [← hμr] at d1
  have r99 : ∀ p, p < N → μr 99 p = μa 14 p := fun p hp => by
    rw [hμr, upM_self, a3]
    exact (rules_eq hN (fun i hi => ⟨(q95 i hi).1.symm, (q95 i hi).2.symm⟩) p hp).symm
  have r0 : ∀ k, k ≠ 99 → μr k = μm k := fun k hk => by rw [hμr, upM_ne hk]
  have hRM : RowM N 99 (fun p => μ 10 (σ p)) (fun p => μ 11 (σ p)) μr := by
    refine ⟨by rw [r0 94 (by omega)]; exact m4, fun p hp => ⟨σ p, by have := (hσ p hp).1; omega, by rw [r99 p hp]; exact (hσ p hp).2, ?_, ?_⟩⟩
    · rw [r0 95 (by omega)]; exact (q95 _ (hσ p hp).1).1
    · rw [r0 96 (by omega)]; exact (q95 _ (hσ p hp).1).2
  obtain ⟨μ2, e1, e2, e3⟩ := m_day (l := 1) (m := 0) hN (show N ≤ ln 99 by show N ≤ 240; omega) (by omega) (by omega) (by omega) (by omega) hRM
  have fr : ∀ k, k ≠ 14 → k ≠ 15 → k ≠ 16 → (k < 18 ∨ 53 ≤ k) → (k < 55 ∨ 60 < k) → (k < 94 ∨ 100 ≤ k) → k ≠ 89 → (k < 103 ∨ 104 < k) → μ2 k = μ k := fun k q1 q2 q3 q4 q5 q6 q7 q8 => by rw [e2 k q8, r0 k (by omega), m2 k q7 q6, b3 k q5, a4 k q1 q2 q3 q4]
  have f89 : ∀ j, j ≠ 11 → μ2 89 j = μ 89 j := fun j hj => by rw [e2 89 (by omega), r0 89 (by omega), m3 j hj]
  have s14 : μ2 14 = μa 14 := by rw [e2 14 (by omega), r0 14 (by omega), m2 14 (by omega) (by omega), b3 14 (by omega)]
  refine ⟨(dy 1 0 (fun p => μ 10 (σ p)) (fun p => μ 11 (σ p)) N).2.1, μ1, μ2, ?_, ?_, Inv.alt2 (N := N) hI (fun k q1 q2 q3 q4 q5 => fr k (by omega) (by omega) (by omega) (by omega) (by omega) q2 q3 (by omega)) (fun j q1 q2 => f89 j q1) ?_ ?_ ?_⟩
  · unfold fX8_rule
    rw [c1, cav_n, a1, cav_n, show (1 : Int32) = nI 1 from rfl, show (0 : Int32) = nI 0 from rfl, b1, cav_n, show nI 0 = (0 : Int32) from rfl, b2, cal_n]
  · unfold fX9_rule
    rw [m1, cav_n, d1, cav_n, show (1 : Int32) = nI 1 from rfl, show (0 : Int32) = nI 0 from rfl, e1, cal_n]
  · refine RelN.mk hN (by rw [fr 9 (by omega) (by omega) (by omega) (by omega) (by omega) (by omega) (by omega) (by omega)]; exact h9) (by rw [e2 94 (by omega), r0 94 (by omega)]; exact m4) (fun k hk => ?_) ((srI_perm N).congr (fun k hk => by rw [e2 99 (by omega), r99 k hk, a3])) ⟨fun k hk => ?_, ?_⟩
    · rw [s14, fr 10 (by omega) (by omega) (by omega) (by omega) (by omega) (by omega) (by omega) (by omega), fr 11 (by omega) (by omega) (by omega) (by omega) (by omega) (by omega) (by omega) (by omega), fr 12 (by omega) (by omega) (by omega) (by omega) (by omega) (by omega) (by omega) (by omega), fr 13 (by omega) (by omega) (by omega) (by omega) (by omega) (by omega) (by omega) (by omega)]
      obtain ⟨z1, z2, z3, z4, z5⟩ := hL.eqs hk
      have q : ∀ c, 95 ≤ c → c < 99 → μ2 c k = μ c k := fun c h1 h2 => by rw [e2 c (by omega), r0 c (by omega)]; exact m5 c h1 (by omega) k (by omega)
      refine ⟨z1.trans (q 95 (by omega) (by omega)).symm, z2.trans (q 96 (by omega) (by omega)).symm, z3.trans (q 97 (by omega) (by omega)).symm, z4.trans (q 98 (by omega) (by omega)).symm, fun _ => ?_⟩
      rw [e2 99 (by omega), r99 k hk]
    · rw [fr 10 (by omega) (by omega) (by omega) (by omega) (by omega) (by omega) (by omega) (by omega), fr 11 (by omega) (by omega) (by omega) (by omega) (by omega) (by omega) (by omega) (by omega), fr 12 (by omega) (by omega) (by omega) (by omega) (by omega) (by omega) (by omega) (by omega), fr 13 (by omega) (by omega) (by omega) (by omega) (by omega) (by omega) (by omega) (by omega)]
      exact hL.oks.1 k hk
    · rw [s14, a3]
      exact srI_perm N
  · refine m6 _ (fun k hk => by rw [e2 k (by omega), r0 k (by omega)]) (by rw [e2 89 (by omega), r0 89 (by omega)]) (by rw [e2 94 (by omega), r0 94 (by omega)]) (fun c h1 h2 k hk => ?_)
    rw [e2 c (by omega)]
    by_cases h99 : c = 99
    · subst h99
      rw [hμr, upM_self]
      exact srI_out (by omega)
    · rw [r0 c h99]
  · exact hI.2.2.2.1.same (fr 54 (by omega) (by omega) (by omega) (by omega) (by omega) (by omega) (by omega) (by omega)) (fr 100 (by omega) (by omega) (by omega) (by omega) (by omega) (by omega) (by omega) (by omega)) (fr 53 (by omega) (by omega) (by omega) (by omega) (by omega) (by omega) (by omega) (by omega)) (f89 12 (by decide)) (f89 14 (by decide)) (f89 15 (by decide)) (by rw [fr 9 (by omega) (by omega) (by omega) (by omega) (by omega) (by omega) (by omega) (by omega)])
