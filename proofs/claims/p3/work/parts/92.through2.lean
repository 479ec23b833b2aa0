/-! all rounds, on both sides -/
variable {wq : Prop}
noncomputable def thr (N : Nat) (C : (Nat → Int32) → Int32) : Nat → (Nat → Int32) → Int32 → Int32
  | 0, _, e => e
  | d + 1, r, e =>
    match nxR N r with
    | none => e
    | some (i, r') => if i = 0 then e else thr N C d r' (imin e (C r'))
theorem thr_n {N d : Nat} {C : (Nat → Int32) → Int32} {r : Nat → Int32} {e : Int32} (h : nxR N r = none) : thr N C (d + 1) r e = e := by
  unfold thr
  rw [h]
theorem thr_0 {N d : Nat} {C : (Nat → Int32) → Int32} {r r' : Nat → Int32} {e : Int32} (h : nxR N r = some (0, r')) : thr N C (d + 1) r e = e := by
  unfold thr
  rw [h]
  exact if_pos rfl
theorem thr_s {N d i : Nat} {C : (Nat → Int32) → Int32} {r r' : Nat → Int32} {e : Int32} (h : nxR N r = some (i, r')) (hi : i ≠ 0) : thr N C (d + 1) r e = thr N C d r' (imin e (C r')) := by
  rw [thr, h]
  exact if_neg hi
theorem thr_congr {N : Nat} {C : (Nat → Int32) → Int32} (hC : ∀ r s, (∀ p, p < N → r p = s p) → C r = C s) : ∀ (d : Nat) (r s : Nat → Int32) (e : Int32), (∀ p, p < N → r p = s p) → thr N C d r e = thr N C d s e
  | 0, _, _, _, _ => rfl
  | d + 1, r, s, e, h => by
    rcases nxR_congr h with ⟨h1, h2⟩ | ⟨i, r', s', h1, h2, h3⟩
    · rw [thr_n h1, thr_n h2]
    · by_cases hi : i = 0
      · subst hi
        rw [thr_0 h1, thr_0 h2]
      · rw [thr_s h1 hi, thr_s h2 hi, hC r' s' h3]
        exact thr_congr hC d r' s' _ h3
theorem perm0 {N i : Nat} {r r' : Nat → Int32} (hN : N ≤ 40) (hP : PermF r N) (h0 : r 0 = 0) (hx : nxR N r = some (i, r')) : (i = 0 → ¬ r' 0 = 0) ∧ (i ≠ 0 → r' 0 = 0) := by
  obtain ⟨s1, s2, s3, j, s4, s5, s6, s7⟩ := nxR_some hx
  obtain ⟨p1, p2⟩ := hP.inj hN
  refine ⟨fun hi q => ?_, fun hi => by rw [s2 0 (by omega)]; exact h0⟩
  subst hi
  have a := p1.2 0 j s4 s5
  have a : tn (r 0) ≠ tn (r j) := a
  rw [h0, ← s6, q] at a
  exact a rfl
theorem c_thr {N : Nat} {μ0 : Mem} (h1 : 1 ≤ N) (hN : N ≤ 8) (h9 : μ0 9 6 = nI N) (h71 : μ0 71 1 = nI N) (hw : ∀ i, i < N → ∀ p, p < N → μ0 (81 + i) p = WG μ0 i p) : ∀ (d n c : Nat) (r : Nat → Int32) (e : Int32) (μ : Mem), PermF r N → r 0 = 0 → 5040 ≤ rkR N r + d → c ≤ rkR N r → d < n → (∀ k, k ≠ 72 → μ k = μ0 k) → μ 72 = r → ∃ μ', cal (fX6_step FF μ) (fun r6 m5 => fX8_through_54 FF n e r6 (nI (c + 1)) m5) = some (thr N (cN μ0 N) d r e, μ') ∧ ∀ k, k ≠ 72 → μ' k = μ0 k := by
  intro d
  induction d with
  | zero =>
    intro n c r e μ hP h0 hd
    have := rkR_b hP (Or.inr ⟨hN, h0⟩)
    omega
  | succ d ih =>
    intro n c r e μ hP h0 hd hc hn hk h72
    obtain ⟨n, rfl⟩ : ∃ n', n = n' + 1 := ⟨n - 1, by omega⟩
    have eμ : μ = upM μ 72 r := by rw [← h72, upM_id]
    have st := c_step0 (N := N) (μ := μ) (r := r) hN (by rw [hk 71 (by omega)]; exact h71)
    rw [← eμ] at st
    rw [st]
    have stop : ∀ (v : Int32) (ν : Mem), v ≤ 0 → fX8_through_54 FF (n + 1) e v (nI (c + 1)) ν = some (e, ν) := fun v ν hv => by
      show fX8_through_54_b FF _ _ _ _ ν = _
      unfold fX8_through_54_b
      by_cases q : (5040 : Int32) ≤ nI (c + 1)
      · rw [if_pos q]
      · rw [if_neg q, if_pos hv]
    cases hx : nxR N r with
    | none =>
      rw [thr_n hx]
      refine ⟨μ, ?_, hk⟩
      show cal (some ((-1 : Int32), μ)) _ = _
      rw [cal_n]
      exact stop (-1) μ (by decide)
    | some v =>
      obtain ⟨i, r'⟩ := v
      have hP' := (nxR_perm hP hx).1
      have hb := (nxR_perm hP hx).2
      have k0 : ∀ k, k ≠ 72 → upM μ 72 r' k = μ0 k := fun k q1 => by rw [upM_ne q1]; exact hk k q1
      show ∃ μ', cal (some (nI i, upM μ 72 r')) _ = _ ∧ _
      rw [cal_n]
      by_cases hi : i = 0
      · subst hi
        rw [thr_0 hx]
        exact ⟨_, stop (nI 0) _ (by decide), k0⟩
      · have h0' := (perm0 (by omega) hP h0 hx).2 hi
        have rl := rkR_lt (by omega) hP hx
        have rb' := rkR_b hP' (Or.inr ⟨hN, h0'⟩)
        rw [thr_s hx hi]
        have cw := c_roundW (μ0 := μ0) (μ := upM μ 72 r') h1 hN (by rw [k0 9 (by omega)]; exact h9) upM_self hP' (fun a ha p hp => by rw [k0 _ (by omega)]; exact hw a ha p hp)
        have e1 : fX8_through_54 FF (n + 1) e (nI i) (nI (c + 1)) (upM μ 72 r') = cal (fX6_step FF (upM μ 72 r')) (fun r6 m5 => fX8_through_54 FF n (imin e (cN μ0 N r')) r6 (nI (c + 1 + 1)) m5) := by
          show fX8_through_54_b FF _ _ _ _ _ = _
          unfold fX8_through_54_b
          rw [show (5040 : Int32) = nI 5040 from rfl, if_neg (nI_ge (by omega) (by omega)), if_neg (show ¬ nI i ≤ (0 : Int32) from nI_ge (a := 0) (by omega) (by omega)), cw, cal_n, nI_add1]
        rw [e1]
        exact ih n (c + 1) r' _ _ hP' h0' (by omega) (by omega) (by omega) k0 upM_self
theorem m_cst {N : Nat} {μ0 μ : Mem} {r : Nat → Int32} (hL : RelN wq N (CL μ0) (MT μ0 0)) (hpr : PR μ0) (hk : ∀ k, 94 ≤ k → k ≤ 102 → k ≠ 100 → μ k = μ0 k) (hr : μ 105 = r) (hP : PermF r N) : fX9_roundCost FF 105 μ = some (cN μ0 N r, upM μ 89 (upd (μ 89) 22 1)) := by
  obtain ⟨p1, p2⟩ := hP.inj hL.1
  have hN := hL.1
  obtain ⟨μ2, hμ2⟩ : ∃ μ2, μ2 = upM μ 89 (upd (μ 89) 22 1) := ⟨_, rfl⟩
  have k : ∀ c, c ≠ 89 → μ2 c = μ c := fun c hc => by rw [hμ2, upM_ne hc]
  have eqs : ∀ s, s < N → μ0 12 s = μ2 97 s ∧ μ0 13 s = μ2 98 s := fun s hs => by
    rw [k 97 (by omega), k 98 (by omega), hk 97 (by omega) (by omega) (by omega), hk 98 (by omega) (by omega) (by omega)]
    exact ⟨(hL.eqs hs).2.2.1, (hL.eqs hs).2.2.2.1⟩
  have dm : Dg N (μ2 97) (μ2 98) := fun i hi => by
    rw [← (eqs i hi).1, ← (eqs i hi).2]
    exact hL.dg i hi
  have ml := m_cost_loop (k1 := 105) (σ := fun p => tn (r p)) (μ := μ2) hN (show N ≤ ln 105 from hN) (fun p hp => ⟨p1.1 p hp, by rw [k 105 (by omega), hr]; exact p2 p hp⟩) dm (by rw [hμ2, upM_self, upd_s]; decide) N FF 0 (by omega) (by rw [FF_e]; omega)
  have ew := sumF_congr (n := N) (wy_congr (U := μ0 74) (D := μ0 75) (U' := μ2 101) (D' := μ2 102) (f' := μ2 97) (t' := μ2 98) (σ := fun p => tn (r p)) (fun p hp => p1.1 p hp) hL.dg eqs (fun i hi => by
    rw [k 101 (by omega), k 102 (by omega), hk 101 (by omega) (by omega) (by omega), hk 102 (by omega) (by omega) (by omega)]
    exact ⟨(hpr i hi).1, (hpr i hi).2.1⟩))
  unfold fX9_roundCost
  rw [show (0 : Int32) = nI 0 from rfl, rd_n (by decide), hk 94 (by omega) (by omega) (by omega), show μ0 94 0 = nI N from hL.2.2.1, st_n, ← hμ2]
  refine ml.trans ?_
  rw [← ew]
  rfl
theorem m_thr {N : Nat} {μ0 ν : Mem} (hL : RelN wq N (CL μ0) (MT μ0 0)) (hpr : PR μ0) (h1 : 1 ≤ N) (hN : N ≤ 8) (hν : ∀ k, 94 ≤ k → k ≤ 102 → k ≠ 100 → ν k = μ0 k) : ∀ (d n : Nat) (r : Nat → Int32) (e : Int32) (μ : Mem), PermF r N → r 0 = 0 → 5040 ≤ rkR N r + d → d < n → (∀ k, k ≠ 89 → k ≠ 105 → μ k = ν k) → (∀ j, j ≠ 22 → μ 89 j = ν 89 j) → μ 105 = r → ∃ μ', fX9_through_39 FF n e μ = some (thr N (cN μ0 N) d r e, μ') ∧ (∀ k, k ≠ 89 → k ≠ 105 → μ' k = ν k) ∧ ∀ j, j ≠ 22 → μ' 89 j = ν 89 j := by
  intro d
  induction d with
  | zero =>
    intro n r e μ hP h0 hd
    have := rkR_b hP (Or.inr ⟨hN, h0⟩)
    omega
  | succ d ih =>
    intro n r e μ hP h0 hd hn hk hj hr
    obtain ⟨n, rfl⟩ : ∃ n', n = n' + 1 := ⟨n - 1, by omega⟩
    have eμ : μ = upM μ 105 r := by rw [← hr, upM_id]
    have st := m_step0 (N := N) (μ := μ) (r := r) hN (by rw [hk 94 (by omega) (by omega), hν 94 (by omega) (by omega) (by omega)]; exact hL.2.2.1)
    rw [← eμ] at st
    have e0 : fX9_through_39 FF (n + 1) e μ = cal (fX9_nextRow FF μ) (fun r7 m6 => (if r7 = 0 then some (e, m6) else rd m6 105 0 (fun v8 => (if v8 = 0 then cal (fX9_roundCost FF 105 m6) (fun r10 m9 => (if e ≤ r10 then fX9_through_39 FF n e m9 else fX9_through_39 FF n r10 m9)) else some (e, m6))))) := rfl
    rw [e0, st]
    cases hx : nxR N r with
    | none =>
      rw [thr_n hx]
      exact ⟨μ, rfl, hk, hj⟩
    | some v =>
      obtain ⟨i, r'⟩ := v
      have hP' := (nxR_perm hP hx).1
      have k0 : ∀ k, k ≠ 89 → k ≠ 105 → upM μ 105 r' k = ν k := fun k q1 q2 => by rw [upM_ne q2]; exact hk k q1 q2
      have j0 : ∀ j, j ≠ 22 → upM μ 105 r' 89 j = ν 89 j := fun j q => by rw [upM_ne (by omega)]; exact hj j q
      show ∃ μ', cal (some ((1 : Int32), upM μ 105 r')) _ = _ ∧ _
      rw [cal_n, if_neg one_ne, show (0 : Int32) = nI 0 from rfl, rd_n (by decide), upM_self, show nI 0 = (0 : Int32) from rfl]
      by_cases hi : i = 0
      · subst hi
        rw [thr_0 hx, if_neg ((perm0 (by omega) hP h0 hx).1 rfl)]
        exact ⟨_, rfl, k0, j0⟩
      · have h0' := (perm0 (by omega) hP h0 hx).2 hi
        have rl := rkR_lt (by omega) hP hx
        rw [thr_s hx hi, if_pos h0', m_cst (μ0 := μ0) (μ := upM μ 105 r') hL hpr (fun k q1 q2 q3 => by rw [k0 k (by omega) (by omega)]; exact hν k q1 q2 q3) upM_self hP', cal_n, ← imin_le]
        have rest := fun e2 => ih n r' e2 (upM (upM μ 105 r') 89 (upd (upM μ 105 r' 89) 22 1)) hP' h0' (by omega) (by omega) (fun k q1 q2 => by rw [upM_ne q1]; exact k0 k q1 q2) (fun j q => by rw [upM_self, upd_ne q]; exact j0 j q) (by rw [upM_ne (by omega), upM_self])
        by_cases q : e ≤ cN μ0 N r'
        · rw [if_pos q, if_pos q]
          exact rest e
        · rw [if_neg q, if_neg q]
          exact rest _
theorem imin_max {c : Int32} : imin 2147483647 c = c := by
  rw [← imin_le]
  by_cases q : (2147483647 : Int32) ≤ c
  · rw [if_pos q]
    rw [Int32.le_iff_toInt_le, show (2147483647 : Int32).toInt = 2147483647 from rfl] at q
    have b := Int32.toInt_lt c
    exact (of_toInt (n := 2147483647) (by omega) (by omega)).symm
  · rw [if_neg q]
theorem op_through : Op wq (fX8_through FF) (fX9_through FF) := by
  intro μ hI
  obtain ⟨N, hL⟩ := hI.2.1
  have h9 : μ 9 6 = nI N := hL.2.1
  have h94 : μ 94 0 = nI N := hL.2.2.1
  have hN := hL.1
  unfold fX8_through fX9_through
  by_cases h0 : N = 0
  · subst h0
    exact ⟨-5, μ, μ, by rw [h9, if_pos (show nI 0 = 0 from rfl)], by rw [show (0 : Int32) = nI 0 from rfl, rd_n (by decide), h94, if_pos rfl], hI⟩
  have n0 : ¬ nI N = 0 := fun q => h0 (nI_inj (b := 0) (by omega) (by omega) q)
  by_cases h8 : N ≤ 8
  · obtain ⟨μw, a1, a2, a3⟩ := c_layW (N := N) (μ := μ) h8 h9 hL.dg
    obtain ⟨μb, b1, b2, b3, b4⟩ := c_begin (N := N) (μ := μw) h8
    have bk : ∀ k, k ≠ 71 → k ≠ 72 → (k < 81 ∨ 88 < k) → μb k = μ k := fun k q1 q2 q3 => by rw [b4 k q1 q2, a2 k q3]
    have hW : WG μb = WG μ := by
      funext a b
      unfold WG
      rw [bk 74 (by omega) (by omega) (by omega), bk 75 (by omega) (by omega) (by omega), bk 12 (by omega) (by omega) (by omega), bk 13 (by omega) (by omega) (by omega)]
    have hC : cN μb N = cN μ N := by
      funext r
      unfold cN
      rw [bk 74 (by omega) (by omega) (by omega), bk 75 (by omega) (by omega) (by omega), bk 12 (by omega) (by omega) (by omega), bk 13 (by omega) (by omega) (by omega)]
    have q9 : μb 9 6 = nI N := by rw [bk 9 (by omega) (by omega) (by omega)]; exact h9
    have hw : ∀ i, i < N → ∀ p, p < N → μb (81 + i) p = WG μb i p := fun i hi p hp => by
      rw [hW, b4 _ (by omega) (by omega)]
      exact a3 i hi p hp
    have hr : ∀ p, p < N → μb 72 p = idR p := fun p hp => b3 p hp
    have hP : PermF (μb 72) N := idR_perm.congr hr
    have z0 : μb 72 0 = 0 := b3 0 (by omega)
    obtain ⟨n, hn⟩ : ∃ n, FF = n + 1 := ⟨9999999, rfl⟩
    have n1 : 5040 < n := by rw [FF_e] at hn; omega
    obtain ⟨μ1, c1, c2⟩ := c_thr (μ0 := μb) (by omega) h8 q9 b2 hw 5040 n 0 (μb 72) (cN μb N (μb 72)) μb hP z0 (by omega) (by omega) n1 (fun _ _ => rfl) rfl
    have cw := c_roundW (μ0 := μb) (μ := μb) (by omega) h8 q9 rfl hP hw
    have start : fX8_through_54 FF FF 2147483647 1 0 μb = some (thr N (cN μ N) 5040 idR (cN μ N idR), μ1) := by
      have e1 : fX8_through_54 FF FF 2147483647 1 0 μb = fX8_through_54 FF (n + 1) 2147483647 1 (nI 0) μb := by rw [← hn]; rfl
      rw [e1]
      show fX8_through_54_b FF _ _ _ _ _ = _
      unfold fX8_through_54_b
      rw [show (5040 : Int32) = nI 5040 from rfl, if_neg (nI_ge (by omega) (by omega)), if_neg (show ¬ (1 : Int32) ≤ 0 by decide), cw, cal_n, imin_max, nI_add1]
      refine c1.trans ?_
      rw [hC, cN_congr hr, thr_congr (fun r s h => cN_congr h) 5040 (μb 72) idR _ hr]
    have k1 : ∀ k, k ≠ 71 → k ≠ 72 → (k < 81 ∨ 88 < k) → μ1 k = μ k := fun k q1 q2 q3 => by rw [c2 k q2, bk k q1 q2 q3]
    have e94 : μ1 94 0 = nI N := by rw [k1 94 (by omega) (by omega) (by omega)]; exact h94
    obtain ⟨μf, f1, f2, f3⟩ := m_begin (N := N) (μ := μ1) hN e94
    have hr2 : ∀ p, p < N → μf 105 p = idR p := fun p hp => f2 p hp
    have hP2 : PermF (μf 105) N := idR_perm.congr hr2
    have fk : ∀ k, k ≠ 105 → k ≠ 71 → k ≠ 72 → (k < 81 ∨ 88 < k) → μf k = μ k := fun k q0 q1 q2 q3 => by rw [f3 k q0, k1 k q1 q2 q3]
    have mc := m_cst (μ0 := μ) (μ := μf) hL hI.2.2.2.2.2 (fun k q1 q2 q3 => fk k (by omega) (by omega) (by omega) (by omega)) rfl hP2
    obtain ⟨μ2, g1, g2, g3⟩ := m_thr (μ0 := μ) (ν := μf) hL hI.2.2.2.2.2 (by omega) h8 (fun k q1 q2 q3 => fk k (by omega) (by omega) (by omega) (by omega)) 5040 FF (μf 105) (cN μ N (μf 105)) (upM μf 89 (upd (μf 89) 22 1)) hP2 (f2 0 (by omega)) (by omega) (by rw [FF_e]; omega) (fun k q1 q2 => upM_ne q1) (fun j q => by rw [upM_self, upd_ne q]) (upM_ne (by omega))
    rw [cN_congr hr2, thr_congr (fun r s h => cN_congr h) 5040 (μf 105) idR _ hr2] at g1
    refine ⟨thr N (cN μ N) 5040 idR (cN μ N idR), μ1, μ2, ?_, ?_, hI.free3 (fun k z1 z2 z3 z4 z5 z6 => by rw [g2 k z6 (by omega), fk k (by omega) (by omega) (by omega) (by omega)]) (fun j q1 q2 => by rw [g3 j q2, fk 89 (by omega) (by omega) (by omega) (by omega)])⟩
    · rw [h9, if_neg n0, if_pos (show nI N ≤ (8 : Int32) from nI_le (b := 8) h8 (by omega)), a1, cav_n, show μw 9 6 = nI N from by rw [a2 9 (by omega)]; exact h9, b1, cav_n]
      exact start
    · rw [show (0 : Int32) = nI 0 from rfl, rd_n (by decide), e94, if_neg (show ¬ nI N = nI 0 from n0), rd_n (by decide), e94, if_pos (show nI N ≤ (8 : Int32) from nI_le (b := 8) h8 (by omega)), f1, cav_n, mc, cal_n, cN_congr hr2]
      exact g1
  · refine ⟨-4, μ, μ, ?_, ?_, hI⟩
    · rw [h9, if_neg n0, if_neg (show ¬ nI N ≤ (8 : Int32) from nI_ge (a := 8) (by omega) (by omega))]
    · rw [show (0 : Int32) = nI 0 from rfl, rd_n (by decide), h94, if_neg (show ¬ nI N = nI 0 from n0), rd_n (by decide), h94, if_neg (show ¬ nI N ≤ (8 : Int32) from nI_ge (a := 8) (by omega) (by omega))]
