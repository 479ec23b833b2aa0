/-! all rounds -/
theorem gt80 : ∀ i, i < 8 → gt 80 i = 81 + i := by decide
theorem ln81 : ∀ i, i < 8 → ln (81 + i) = 8 := by decide
theorem c_way {N a b : Nat} {μ : Mem} (hN : N ≤ 40) (ha : a < N) (hb : b < N) (hd : Dg N (μ 12) (μ 13)) : fX8_wayBetween FF (nI a) (nI b) μ = some (goC (μ 74) (μ 75) (tn (μ 13 a)) (tn (μ 12 b)), μ) := by
  unfold fX8_wayBetween
  rw [rd_n (by show a < 40; omega), rd_n (by show b < 40; omega), (hd a ha).2.2, (hd b hb).1.2, c_going (hd a ha).2.1 (hd b hb).1.1, cal_n]
  rw [← (hd a ha).2.2, ← (hd b hb).1.2]
def WG (μ : Mem) (a b : Nat) : Int32 := goC (μ 74) (μ 75) (tn (μ 13 a)) (tn (μ 12 b))
def FW (μ μ' : Mem) : Prop := ∀ k, (k < 81 ∨ 88 < k) → μ' k = μ k
theorem FW.dg {N : Nat} {μ μ' : Mem} (h : FW μ μ') (hd : Dg N (μ 12) (μ 13)) : Dg N (μ' 12) (μ' 13) := by
  rw [h 12 (by omega), h 13 (by omega)]; exact hd
theorem FW.wg {μ μ' : Mem} (h : FW μ μ') : WG μ' = WG μ := by
  funext a b
  unfold WG
  rw [h 74 (by omega), h 75 (by omega), h 12 (by omega), h 13 (by omega)]
theorem c_lay_in {N i : Nat} {μ : Mem} (hN : N ≤ 8) (hi : i < N) (h9 : μ 9 6 = nI N) (hd : Dg N (μ 12) (μ 13)) (rec2 : Int32 → Mem → Option Mem) : ∀ (d n j : Nat) (ν : Mem), j + d = N → d < n → FW μ ν → (∀ p, p < j → ν (81 + i) p = WG μ i p) → ∃ ν', fX8_layWays_15 FF rec2 n (nI i) (nI j) ν = rec2 (nI (i + 1)) ν' ∧ (∀ k, k ≠ 81 + i → ν' k = ν k) ∧ ∀ p, p < N → ν' (81 + i) p = WG μ i p := by
  intro d
  induction d with
  | zero =>
    intro n j ν hj hn hF hp
    obtain ⟨n, rfl⟩ : ∃ n', n = n' + 1 := ⟨n - 1, by omega⟩
    obtain rfl : j = N := by omega
    refine ⟨ν, ?_, fun _ _ => rfl, hp⟩
    show fX8_layWays_15_b FF _ _ _ _ ν = _
    unfold fX8_layWays_15_b
    rw [hF 9 (by omega), h9, if_pos (nI_le (by omega) (by omega)), nI_add1]
  | succ d ih =>
    intro n j ν hj hn hF hp
    obtain ⟨n, rfl⟩ : ∃ n', n = n' + 1 := ⟨n - 1, by omega⟩
    have l8 : ln (81 + i) = 8 := ln81 i (by omega)
    obtain ⟨m4, f4, a4, b4, c4⟩ := wr_x (μ := ν) (k := 81 + i) (i := j) (WG μ i j) (by rw [l8]; omega)
    obtain ⟨ν', q1, q2, q3⟩ := ih n (j + 1) m4 (by omega) (by omega) (fun k hk => by rw [c4 k (by omega)]; exact hF k hk) (fun p hp' => by
      by_cases c : p = j
      · rw [c, a4]
      · rw [b4 p c]; exact hp p (by omega))
    refine ⟨ν', ?_, fun k hk => by rw [q2 k hk, c4 k hk], q3⟩
    show fX8_layWays_15_b FF _ _ _ _ ν = _
    unfold fX8_layWays_15_b
    rw [hF 9 (by omega), h9, if_neg (nI_ge (by omega) (by omega)), rr_n (by show i < 8; omega), gt80 i (by omega), c_way (N := N) (by omega) hi (by omega) (hF.dg hd), cal_n]
    have e : goC (ν 74) (ν 75) (tn (ν 13 i)) (tn (ν 12 j)) = WG μ i j := by rw [← hF.wg]; rfl
    rw [e, f4, nI_add1]
    exact q1
theorem c_layW {N : Nat} {μ : Mem} (hN : N ≤ 8) (h9 : μ 9 6 = nI N) (hd : Dg N (μ 12) (μ 13)) : ∃ μ', fX8_layWays FF μ = some μ' ∧ FW μ μ' ∧ ∀ i, i < N → ∀ p, p < N → μ' (81 + i) p = WG μ i p := by
  have loop : ∀ (d n i : Nat) (ν : Mem), i + d = N → d < n → FW μ ν → (∀ a, a < i → ∀ p, p < N → ν (81 + a) p = WG μ a p) → ∃ μ', fX8_layWays_2 FF n (nI i) ν = some μ' ∧ FW μ μ' ∧ ∀ i, i < N → ∀ p, p < N → μ' (81 + i) p = WG μ i p := by
    intro d
    induction d with
    | zero =>
      intro n i ν hi hn hF hp
      obtain ⟨n, rfl⟩ : ∃ n', n = n' + 1 := ⟨n - 1, by omega⟩
      obtain rfl : i = N := by omega
      refine ⟨ν, ?_, hF, hp⟩
      show fX8_layWays_2_b FF _ _ ν = _
      unfold fX8_layWays_2_b
      rw [hF 9 (by omega), h9, if_pos (nI_le (by omega) (by omega))]
    | succ d ih =>
      intro n i ν hi hn hF hp
      obtain ⟨n, rfl⟩ : ∃ n', n = n' + 1 := ⟨n - 1, by omega⟩
      obtain ⟨ν', q1, q2, q3⟩ := c_lay_in (i := i) hN (by omega) h9 hd (fX8_layWays_2 FF n) N FF 0 ν (by omega) (by rw [FF_e]; omega) hF (fun p hp => by omega)
      have e : fX8_layWays_2 FF (n + 1) (nI i) ν = fX8_layWays_2 FF n (nI (i + 1)) ν' := by
        show fX8_layWays_2_b FF _ _ ν = _
        unfold fX8_layWays_2_b
        rw [hF 9 (by omega), h9, if_neg (nI_ge (by omega) (by omega))]
        exact q1
      rw [e]
      refine ih n (i + 1) ν' (by omega) (by omega) (fun k hk => by rw [q2 k (by omega)]; exact hF k hk) (fun a ha p hp' => ?_)
      by_cases c : a = i
      · rw [c]; exact q3 p hp'
      · rw [q2 _ (by omega)]; exact hp a (by omega) p hp'
  exact loop N FF 0 μ (by omega) (by rw [FF_e]; omega) (fun _ _ => rfl) (fun a ha => by omega)
def cN (μ : Mem) (N : Nat) (r : Nat → Int32) : Int32 := sumF (wy (μ 74) (μ 75) (μ 12) (μ 13) N (fun p => tn (r p))) N
theorem cN_congr {μ : Mem} {N : Nat} {r s : Nat → Int32} (h : ∀ p, p < N → r p = s p) : cN μ N r = cN μ N s := by
  unfold cN
  refine sumF_congr (fun i hi => ?_)
  have hx : nxt N i < N := by
    unfold nxt
    by_cases c : N ≤ i + 1
    · rw [if_pos c]; omega
    · rw [if_neg c]; omega
  unfold wy
  show goC _ _ (tn (μ 13 (tn (r i)))) (tn (μ 12 (tn (r (nxt N i))))) = goC _ _ (tn (μ 13 (tn (s i)))) (tn (μ 12 (tn (s (nxt N i)))))
  rw [h i hi, h _ hx]
theorem c_roundW {N : Nat} {μ0 μ : Mem} {r : Nat → Int32} (h1 : 1 ≤ N) (hN : N ≤ 8) (h9 : μ 9 6 = nI N) (h72 : μ 72 = r) (hP : PermF r N) (hw : ∀ i, i < N → ∀ p, p < N → μ (81 + i) p = WG μ0 i p) : fX8_roundOfWays FF 72 μ = some (cN μ0 N r, μ) := by
  obtain ⟨p1, p2⟩ := hP.inj (by omega)
  have p1' : ∀ i, i < N → tn (r i) < N := p1.1
  have way : ∀ (α : Type) (a b : Nat) (f : Int32 → Option α), a < N → b < N → rd μ 72 (nI a) (fun v5 => rr 80 v5 (fun t6 => rd μ 72 (nI b) (fun v7 => rd μ t6 v7 f))) = f (WG μ0 (tn (r a)) (tn (r b))) := fun α a b f ha hb => by
    rw [rd_n (by show a < 8; omega), h72, p2 a ha, rr_n (by show tn (r a) < 8; have := p1' a ha; omega), gt80 _ (by have := p1' a ha; omega), rd_n (by show b < 8; omega), h72, p2 b hb, rd_n (by rw [ln81 _ (by have := p1' a ha; omega)]; have := p1' b hb; omega), hw _ (p1' a ha) _ (p1' b hb), tn_n (by have := p1' a ha; omega), tn_n (by have := p1' b hb; omega)]
  have loop : ∀ (d n i : Nat), i + d + 1 = N → d < n → ∀ v, fX8_roundOfWays_26 FF 72 n (nI (N - 1)) (v + sumF (fun p => WG μ0 (tn (r p)) (tn (r (p + 1)))) i) (nI i) μ = some (v + sumF (fun p => WG μ0 (tn (r p)) (tn (r (p + 1)))) (N - 1), μ) := by
    intro d
    induction d with
    | zero =>
      intro n i hi hn v
      obtain ⟨n, rfl⟩ : ∃ n', n = n' + 1 := ⟨n - 1, by omega⟩
      show fX8_roundOfWays_26_b FF _ _ _ _ _ μ = _
      unfold fX8_roundOfWays_26_b
      rw [if_pos (nI_le (by omega) (by omega)), show i = N - 1 by omega]
    | succ d ih =>
      intro n i hi hn v
      obtain ⟨n, rfl⟩ : ∃ n', n = n' + 1 := ⟨n - 1, by omega⟩
      show fX8_roundOfWays_26_b FF _ _ _ _ _ μ = _
      unfold fX8_roundOfWays_26_b
      rw [if_neg (nI_ge (by omega) (by omega)), nI_add1, way _ i (i + 1) _ (by omega) (by omega), i_aa]
      exact ih n (i + 1) (by omega) (by omega) v
  unfold fX8_roundOfWays
  rw [h9, show (1 : Int32) = nI 1 from rfl, nI_sub h1, show (0 : Int32) = nI 0 from rfl, way _ (N - 1) 0 _ (by omega) (by omega)]
  have l := loop (N - 1) FF 0 (by omega) (by rw [FF_e]; omega) (WG μ0 (tn (r (N - 1))) (tn (r 0)))
  rw [show sumF (fun p => WG μ0 (tn (r p)) (tn (r (p + 1)))) 0 = 0 from rfl, i_a0] at l
  refine l.trans ?_
  obtain ⟨M, rfl⟩ : ∃ M, N = M + 1 := ⟨N - 1, by omega⟩
  have e : cN μ0 (M + 1) r = sumF (fun p => WG μ0 (tn (r p)) (tn (r (p + 1)))) M + WG μ0 (tn (r M)) (tn (r 0)) := by
    show sumF (wy _ _ _ _ (M + 1) _) M + wy _ _ _ _ (M + 1) _ M = _
    congr 1
    · refine sumF_congr (fun i hi => ?_)
      unfold wy nxt
      rw [if_neg (by omega)]
      rfl
    · unfold wy nxt
      rw [if_pos (by omega)]
      rfl
  rw [e, show M + 1 - 1 = M from rfl, i_ac]
