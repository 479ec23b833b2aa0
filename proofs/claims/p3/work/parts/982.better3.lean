/-! better, if the passes are not too many -/
variable {wq : Prop}
/-- the class's passes come to an end, whatever they find -/
theorem c_bet_any {N l m : Nat} {μ0 : Mem} (hL : RelN wq N (CL μ0) (MT μ0 0)) (h1 : 1 ≤ N) (hl : l ≤ 2) (hm : m ≤ 5) (h2 : l = 2 → 1 ≤ m) (h5 : μ0 55 5 = nI l) (h6 : μ0 55 6 = nI m) : ∀ (d n j y4 : Nat) (y3 : Int32) (r : Nat → Int32) (μ : Mem), j + d = 1000000 → d < n → y4 ≤ 40 → PermF r N → (∀ k, k ≠ 14 → (k < 56 ∨ 60 < k) → μ k = μ0 k) → μ 14 = r →
    ∃ (res : Int32) (row : Nat → Int32) (μ' : Mem), fX8_better_39 FF n y3 (nI y4) (nI j) μ = some (res, μ') ∧ (∀ k, k ≠ 14 → (k < 56 ∨ 60 < k) → μ' k = μ0 k) ∧ μ' 14 = row ∧ PermF row N := by
  have hN := hL.1
  intro d
  induction d with
  | zero =>
    intro n j y4 y3 r μ hj hn hy hP hk h14
    obtain ⟨n, rfl⟩ : ∃ n', n = n' + 1 := ⟨n - 1, by omega⟩
    refine ⟨y3, r, μ, ?_, hk, h14, hP⟩
    show fX8_better_39_b FF _ _ _ _ μ = _
    unfold fX8_better_39_b
    rw [show (1000000 : Int32) = nI 1000000 from rfl, if_pos (nI_le (by omega) (by omega))]
  | succ d ih =>
    intro n j y4 y3 r μ hj hn hy hP hk h14
    obtain ⟨n, rfl⟩ : ∃ n', n = n' + 1 := ⟨n - 1, by omega⟩
    by_cases h0 : y4 = 0
    · subst h0
      refine ⟨y3, r, μ, ?_, hk, h14, hP⟩
      show fX8_better_39_b FF _ _ _ _ μ = _
      unfold fX8_better_39_b
      rw [show (1000000 : Int32) = nI 1000000 from rfl, if_neg (nI_ge (by omega) (by omega)), if_pos (show nI 0 ≤ (0 : Int32) by decide)]
    · have ny : ¬ nI y4 ≤ (0 : Int32) := nI_ge (a := 0) (by omega) (by omega)
      obtain ⟨μe, g1, g2, g3⟩ := c_row14 (i := 0) (μ := μ) (r := r) hL hl hm h2 h5 h6 hP (by omega) hk h14 (fun p hp => by omega)
      have ke : ∀ k, k ≠ 14 → (k < 56 ∨ 60 < k) → μe k = μ0 k := fun k q1 q2 => by rw [g2 k q2]; exact hk k q1 q2
      obtain ⟨μ', p1, p2, p3⟩ := c_pass hL h1 hl hm h2 h5 h6 (N - 1) FF 0 0 r (eN l m μ0 N r) μe (by omega) (by rw [FF_e]; omega) hP ke (by rw [g2 14 (by omega)]; exact h14) (fun p hp => by omega)
      have inv := pas_inv (E := eN l m μ0 N) (N := N) (N - 1) 0 r (eN l m μ0 N r) 0 (by omega) hP rfl
      obtain ⟨res, row, ν, w1, w2, w3, w4⟩ := ih n (j + 1) (pas (eN l m μ0 N) (N - 1) 0 r (eN l m μ0 N r) 0).2.2 (y3 + nI (pas (eN l m μ0 N) (N - 1) 0 r (eN l m μ0 N r) 0).2.2) _ μ' (by omega) (by omega) (by omega) inv.1 p2 p3
      refine ⟨res, row, ν, ?_, w2, w3, w4⟩
      show fX8_better_39_b FF _ _ _ _ μ = _
      unfold fX8_better_39_b fX8_passOfNeighbours
      rw [show (1000000 : Int32) = nI 1000000 from rfl, if_neg (nI_ge (by omega) (by omega)), if_neg ny, show (0 : Int32) = nI 0 from rfl, g1, cal_n, p1, cal_n, nI_add1]
      exact w1
theorem better_at (a b : Int32) {μ : Mem} (hI : Inv wq μ) (HB : wq → μ 9 6 = 0 ∨ HBet wq) : ∃ r r' μ1 μ2, fX8_better FF a b μ = some (r, μ1) ∧ fX9_better FF a b μ1 = some (r', μ2) ∧ Inv wq μ2 ∧ (wq → r = r') := by
  unfold fX8_better fX9_better
  rcases (law_or a b).symm with ⟨w1, w2⟩ | ⟨l, m, hl, hm, h2, h3, rfl, rfl, w1, w2⟩
  · exact ⟨-2, -2, μ, μ, by rw [w1, cal_n, if_pos rfl], by rw [w2, cal_n, if_pos rfl], hI, fun _ => rfl⟩
  obtain ⟨N, μc, hL, c1, c2, c3⟩ := keepOp2 hI
  have h9 : μ 9 6 = nI N := hL.2.1
  have hN := hL.1
  obtain ⟨μs, f1, f2, f3, f4⟩ := follow_n (l := l) (m := m) (μ := μc)
  have sk : ∀ k, k ≠ 55 → k ≠ 16 → (k < 18 ∨ 53 ≤ k) → μs k = μ k := fun k q1 q2 q3 => by rw [f2 k q1, c2 k q2 q3]
  have hLs : RelN wq N (CL μs) (MT μs 0) := by
    have e1 : CL μs = CL μ := by
      unfold CL
      rw [sk 9 (by omega) (by omega) (by omega), sk 10 (by omega) (by omega) (by omega), sk 11 (by omega) (by omega) (by omega), sk 12 (by omega) (by omega) (by omega), sk 13 (by omega) (by omega) (by omega), sk 14 (by omega) (by omega) (by omega)]
    have e2 : MT μs 0 = MT μ 0 := by
      unfold MT
      rw [sk 94 (by omega) (by omega) (by omega), sk 95 (by omega) (by omega) (by omega), sk 96 (by omega) (by omega) (by omega), sk 97 (by omega) (by omega) (by omega), sk 98 (by omega) (by omega) (by omega), sk 99 (by omega) (by omega) (by omega)]
    rw [e1, e2]
    exact hL
  have hP : PermF (μ 14) N := hL.oks.2
  have hPs : PermF (μs 14) N := by rw [sk 14 (by omega) (by omega) (by omega)]; exact hP
  -- both come to a row, to the same one if wq
  have core : ∃ (res : Int32) (row : Nat → Int32) (μ1 : Mem), fX8_better_39 FF FF 0 1 0 μs = some (res, μ1) ∧ (∀ k, k ≠ 14 → (k < 56 ∨ 60 < k) → μ1 k = μs k) ∧ μ1 14 = row ∧ PermF row N ∧ ∀ μm : Mem, μm 94 0 = nI N → PermF (μm 99) N → (∀ c, 95 ≤ c → c < 100 → ∀ i, i < 40 → μm c i = μ c i) → ∃ (res' : Int32) (μ2 : Mem), cal (fX9_endOf FF 99 (nI l) (nI m) μm) (fun r5 m4 => fX9_better_32 FF FF (nI l) (nI m) 0 r5 1 m4) = some (res', μ2) ∧ (∀ k, k ≠ 99 → (k < 103 ∨ 104 < k) → μ2 k = μm k) ∧ (wq → res = res' ∧ ∀ p, p < N → row p = μ2 99 p) ∧ PermF (μ2 99) N ∧ ∀ p, 40 ≤ p → μ2 99 p = μm 99 p := by
    by_cases h0 : N = 0
    · subst h0
      obtain ⟨n, hn⟩ : ∃ n, FF = n + 1 + 1 := ⟨9999998, rfl⟩
      obtain ⟨μe, g1, g2, g3⟩ := c_row14 (i := 0) (μ := μs) (r := μs 14) hLs hl hm h2 f3 f4 hPs (by omega) (fun _ _ _ => rfl) rfl (fun p hp => by omega)
      have e9 : μe 9 6 = nI 0 := by rw [g2 9 (by omega)]; exact hLs.2.1
      refine ⟨0, μe 14, μe, ?_, fun k _ q2 => g2 k q2, rfl, by rw [g2 14 (by omega)]; exact hPs, fun μm hm94 hPm hm5 => ?_⟩
      · have e1 : fX8_better_39 FF FF 0 1 0 μs = fX8_better_39 FF (n + 1 + 1) 0 1 0 μs := by rw [← hn]
        rw [e1]
        show fX8_better_39_b FF _ _ _ _ μs = _
        unfold fX8_better_39_b fX8_passOfNeighbours
        rw [if_neg (show ¬ (1000000 : Int32) ≤ 0 by decide), if_neg (show ¬ (1 : Int32) ≤ 0 by decide), show fX1_endOf FF 14 0 μs = some (eN l m μs 0 (μs 14), μe) from g1, cal_n]
        have e2 : fX8_passOfNeighbours_24 FF FF 0 (eN l m μs 0 (μs 14)) 0 μe = some (0, μe) := by
          have : fX8_passOfNeighbours_24 FF FF 0 (eN l m μs 0 (μs 14)) 0 μe = fX8_passOfNeighbours_24 FF (n + 1 + 1) 0 (eN l m μs 0 (μs 14)) 0 μe := by rw [← hn]
          rw [this]
          show fX8_passOfNeighbours_24_b FF _ _ _ _ μe = _
          unfold fX8_passOfNeighbours_24_b
          rw [e9, if_pos (show nI 0 ≤ 0 + 1 by decide)]
        rw [e2, cal_n]
        show fX8_better_39_b FF _ (0 + 0) 0 (0 + 1) μe = _
        unfold fX8_better_39_b
        rw [if_neg (show ¬ (1000000 : Int32) ≤ 0 + 1 by decide), if_pos (show (0 : Int32) ≤ 0 by decide)]
        rfl
      · obtain ⟨μy, y1, y2⟩ := m_row99 (μ0 := μs) (μ := μm) (r := μs 14) hLs hl hm h2 hPs hm94 (fun i hi => by omega) (fun p hp => by omega)
        refine ⟨0, μy, ?_, fun k _ q2 => y2 k q2, fun _ => ⟨rfl, fun p hp => by omega⟩, by rw [y2 99 (by omega)]; exact hPm, fun p _ => by rw [y2 99 (by omega)]⟩
        rw [y1, cal_n]
        have e1 : ∀ e, fX9_better_32 FF FF (nI l) (nI m) 0 e 1 μy = fX9_better_32 FF (n + 1 + 1) (nI l) (nI m) 0 e 1 μy := fun e => by rw [← hn]
        rw [e1]
        show fX9_better_32_b FF _ _ _ _ _ _ μy = _
        unfold fX9_better_32_b
        rw [if_neg one_ne]
        have e2 : ∀ e, fX9_better_43 FF (fX9_better_32 FF (n + 1)) FF (nI l) (nI m) 0 e 0 0 μy = fX9_better_43 FF (fX9_better_32 FF (n + 1)) (n + 1 + 1) (nI l) (nI m) 0 e 0 0 μy := fun e => by rw [← hn]
        rw [e2]
        show fX9_better_43_b FF _ _ _ _ _ _ _ _ μy = _
        unfold fX9_better_43_b
        rw [show rd μy 94 0 = rd μy 94 (nI 0) from rfl, rd_n (by decide), y2 94 (by omega), hm94, if_pos (show nI 0 ≤ 0 + 1 by decide)]
        show fX9_better_32_b FF _ _ _ _ _ 0 μy = _
        unfold fX9_better_32_b
        rw [if_pos rfl]
    · have n1 : 1 ≤ N := by omega
      have hE : ∀ r, PermF r N → ∃ e, e ≤ 8000000 ∧ eN l m μs N r = nI e := fun r h => eN_b hLs h2 h
      have cE : ∀ r s : Nat → Int32, (∀ p, p < N → r p = s p) → eN l m μs N r = eN l m μs N s := fun r s h => eN_congr h
      have exK : ∀ r, PermF r N → ∃ K, K < 8000001 ∧ StpP (eN l m μs N) N K r := fun r hr => by
        obtain ⟨e, le, he⟩ := hE r hr
        exact StpP_ex (E := eN l m μs N) (N := N) n1 (fun r h => by
          obtain ⟨e, le, he⟩ := hE r h
          rw [he, nI_toInt (by omega)]
          omega) 8000001 r hr (by
          rw [he, nI_toInt (by omega)]
          omega)
      -- the reference, from its own row
      have mod : ∀ μm : Mem, μm 94 0 = nI N → PermF (μm 99) N → (∀ c, 95 ≤ c → c < 100 → ∀ i, i < 40 → μm c i = μ c i) → ∀ K, K < 8000001 → StpP (eN l m μs N) N K (μm 99) → ∃ μ2 : Mem, cal (fX9_endOf FF 99 (nI l) (nI m) μm) (fun r5 m4 => fX9_better_32 FF FF (nI l) (nI m) 0 r5 1 m4) = some (nI (toP (eN l m μs N) N K (μm 99)), μ2) ∧ (∀ k, k ≠ 99 → (k < 103 ∨ 104 < k) → μ2 k = μm k) ∧ μ2 99 = itP (eN l m μs N) N K (μm 99) := by
        intro μm hm94 hPm hm5 K hK hS
        have h5' : ∀ i, i < N → μm 95 i = μs 10 i ∧ μm 96 i = μs 11 i := fun i hi => by
          rw [hm5 95 (by omega) (by omega) i (by omega), hm5 96 (by omega) (by omega) i (by omega), sk 10 (by omega) (by omega) (by omega), sk 11 (by omega) (by omega) (by omega)]
          exact ⟨(hL.eqs hi).1.symm, (hL.eqs hi).2.1.symm⟩
        obtain ⟨μy, y1, y2⟩ := m_row99 (μ0 := μs) (μ := μm) (r := μm 99) hLs hl hm h2 hPm hm94 h5' (fun _ _ => rfl)
        obtain ⟨μ2, x1, x2, x3⟩ := m_bet (μ0 := μs) (ν0 := μm) hLs n1 hl hm h2 hm94 h5' K FF 0 1 (μm 99) μy (by rw [FF_e]; omega) one_ne hS hPm (fun k _ q2 => y2 k q2) (y2 99 (by omega))
        refine ⟨μ2, ?_, x2, x3⟩
        rw [y1, cal_n]
        refine Eq.trans x1 ?_
        rw [Nat.zero_add]
      by_cases hq : wq
      · obtain ⟨K, hK, hS⟩ := exK (μs 14) hPs
        have hB : HBet wq := (HB hq).resolve_left (fun q => h0 (nI_inj (b := 0) (by omega) (by omega) (h9.symm.trans q)))
        have hKb := hB N l m μs (μs 14) K hLs n1 hl hm h2 h3 hPs hS
        obtain ⟨μ1, z1, z2, z3⟩ := c_bet hLs n1 hl hm h2 f3 f4 K FF 0 1 0 (μs 14) μs (by omega) (by rw [FF_e]; omega) (by omega) (by omega) hS hPs (fun _ _ _ => rfl) rfl
        refine ⟨0 + nI (toP (eN l m μs N) N K (μs 14)), itP (eN l m μs N) N K (μs 14), μ1, z1, z2, z3, itP_perm n1 K _ hPs, fun μm hm94 hPm hm5 => ?_⟩
        have hr : ∀ p, p < N → μs 14 p = μm 99 p := fun p hp => by
          rw [sk 14 (by omega) (by omega) (by omega), hm5 99 (by omega) (by omega) p (by omega)]
          exact (hL.eqs hp).2.2.2.2 hq
        obtain ⟨t1, t2, t3⟩ := itP_congr n1 cE K (μs 14) (μm 99) hr
        obtain ⟨μ2, x1, x2, x3⟩ := mod μm hm94 hPm hm5 K hK (t3.mp hS)
        exact ⟨_, μ2, x1, x2, fun _ => ⟨by rw [t2, i_0a], fun p hp => by rw [x3]; exact t1 p hp⟩, by rw [x3]; exact itP_perm n1 K _ hPm, fun p hp => by rw [x3]; exact itP_out n1 K _ p (by omega)⟩
      · obtain ⟨res, row, μ1, z1, z2, z3, z4⟩ := c_bet_any hLs n1 hl hm h2 f3 f4 1000000 FF 0 1 0 (μs 14) μs (by omega) (by rw [FF_e]; omega) (by omega) hPs (fun _ _ _ => rfl) rfl
        refine ⟨res, row, μ1, z1, z2, z3, z4, fun μm hm94 hPm hm5 => ?_⟩
        obtain ⟨K, hK, hS⟩ := exK (μm 99) hPm
        obtain ⟨μ2, x1, x2, x3⟩ := mod μm hm94 hPm hm5 K hK hS
        exact ⟨_, μ2, x1, x2, fun h => absurd h hq, by rw [x3]; exact itP_perm n1 K _ hPm, fun p hp => by rw [x3]; exact itP_out n1 K _ p (by omega)⟩
  obtain ⟨res, row, μ1, z1, z2, z3, z4, z5⟩ := core
  have k1 : ∀ k, k ≠ 14 → k ≠ 16 → (k < 18 ∨ 53 ≤ k) → (k < 55 ∨ 60 < k) → μ1 k = μ k := fun k q1 q2 q3 q4 => by rw [z2 k q1 (by omega), sk k (by omega) q2 q3]
  obtain ⟨μm, m1, m2, m3, m4, m5, m6⟩ := c3 μ1 (fun k hk => k1 k (by omega) (by omega) (by omega) (by omega)) (fun k hk => by rw [z2 k (by omega) (by omega), f2 k (by omega)])
  obtain ⟨res', μ2, x1, x2, x3, x5, x4⟩ := z5 μm m4 (hL.oko.congr (fun k hk => m5 99 (by omega) (by omega) k (by omega))) m5
  have fr : ∀ k, k ≠ 14 → k ≠ 16 → (k < 18 ∨ 53 ≤ k) → (k < 55 ∨ 60 < k) → (k < 94 ∨ 100 ≤ k) → k ≠ 89 → (k < 103 ∨ 104 < k) → μ2 k = μ k := fun k q1 q2 q3 q4 q5 q6 q7 => by rw [x2 k (by omega) q7, m2 k q6 q5, k1 k q1 q2 q3 q4]
  have f89 : ∀ j, j ≠ 11 → μ2 89 j = μ 89 j := fun j hj => by rw [x2 89 (by omega) (by omega), m3 j hj]
  have s14 : μ2 14 = row := by rw [x2 14 (by omega) (by omega), m2 14 (by omega) (by omega), z3]
  refine ⟨res, res', μ1, μ2, ?_, ?_, Inv.alt2 (N := N) hI (fun k q1 q2 q3 q4 q5 => fr k (by omega) (by omega) (by omega) (by omega) q2 q3 (by omega)) (fun j q1 q2 => f89 j q1) ?_ ?_ ?_, fun q => (x3 q).1⟩
  · rw [w1, cal_n, if_neg one_ne, c1, cav_n, f1, cav_n]
    exact z1
  · rw [w2, cal_n, if_neg one_ne, m1, cav_n]
    exact x1
  · refine RelN.mk hN (by rw [fr 9 (by omega) (by omega) (by omega) (by omega) (by omega) (by omega) (by omega)]; exact h9) (by rw [x2 94 (by omega) (by omega)]; exact m4) (fun k hk => ?_) x5 ⟨fun k hk => ?_, ?_⟩
    · rw [s14, fr 10 (by omega) (by omega) (by omega) (by omega) (by omega) (by omega) (by omega), fr 11 (by omega) (by omega) (by omega) (by omega) (by omega) (by omega) (by omega), fr 12 (by omega) (by omega) (by omega) (by omega) (by omega) (by omega) (by omega), fr 13 (by omega) (by omega) (by omega) (by omega) (by omega) (by omega) (by omega)]
      obtain ⟨y1, y2, y3, y4, y5⟩ := hL.eqs hk
      have q : ∀ c, 95 ≤ c → c < 99 → μ2 c k = μ c k := fun c h1 h2 => by rw [x2 c (by omega) (by omega)]; exact m5 c h1 (by omega) k (by omega)
      exact ⟨y1.trans (q 95 (by omega) (by omega)).symm, y2.trans (q 96 (by omega) (by omega)).symm, y3.trans (q 97 (by omega) (by omega)).symm, y4.trans (q 98 (by omega) (by omega)).symm, fun hq => (x3 hq).2 k hk⟩
    · rw [fr 10 (by omega) (by omega) (by omega) (by omega) (by omega) (by omega) (by omega), fr 11 (by omega) (by omega) (by omega) (by omega) (by omega) (by omega) (by omega), fr 12 (by omega) (by omega) (by omega) (by omega) (by omega) (by omega) (by omega), fr 13 (by omega) (by omega) (by omega) (by omega) (by omega) (by omega) (by omega)]
      exact hL.oks.1 k hk
    · rw [s14]; exact z4
  · refine m6 _ (fun k hk => by rw [x2 k (by omega) (by omega)]) (by rw [x2 89 (by omega) (by omega)]) (by rw [x2 94 (by omega) (by omega)]) (fun c h1 h2 k hk => ?_)
    by_cases h99 : c = 99
    · subst h99
      exact x4 k hk
    · rw [x2 c h99 (by omega)]
  · exact hI.2.2.2.1.same (fr 54 (by omega) (by omega) (by omega) (by omega) (by omega) (by omega) (by omega)) (fr 100 (by omega) (by omega) (by omega) (by omega) (by omega) (by omega) (by omega)) (fr 53 (by omega) (by omega) (by omega) (by omega) (by omega) (by omega) (by omega)) (f89 12 (by decide)) (f89 14 (by decide)) (f89 15 (by decide)) (by rw [fr 9 (by omega) (by omega) (by omega) (by omega) (by omega) (by omega) (by omega)])
theorem op_better_of (HB : wq → HBet wq) (a b : Int32) : OpW wq (fX8_better FF a b) (fX9_better FF a b) := fun _ hI => better_at a b hI (fun q => Or.inr (HB q))
