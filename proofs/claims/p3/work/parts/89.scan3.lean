/-! the reference goes through all rows -/
variable {wq : Prop}
theorem m_row {N l m : Nat} {μ0 μ : Mem} {r : Nat → Int32} (hL : RelN wq N (CL μ0) (MT μ0 0)) (hl : l ≤ 2) (hm : m ≤ 5) (h2 : l = 2 → 1 ≤ m) (hP : PermF r N) (hk : ∀ k, 94 ≤ k → k ≤ 96 → μ k = μ0 k) (hr : μ 105 = r) : ∃ μ', fX9_endOf FF 105 (nI l) (nI m) μ = some (eN l m μ0 N r, μ') ∧ ∀ k, k < 103 ∨ 104 < k → μ' k = μ k := by
  obtain ⟨p1, p2⟩ := hP.inj hL.1
  have hN := hL.1
  obtain ⟨μ', a, b, c⟩ := m_day (l := l) (m := m) (k1 := 105) (X := fun p => μ0 10 (tn (r p))) (B := fun p => μ0 11 (tn (r p))) (μ := μ) hN (by show N ≤ 40; omega) (by omega) hl hm h2 ⟨by rw [hk 94 (by omega) (by omega)]; exact hL.2.2.1, fun p hp => ⟨tn (r p), by
    have := p1.1 p hp
    have this : tn (r p) < N := this
    omega, by rw [hr]; exact p2 p hp, by rw [hk 95 (by omega) (by omega)]; exact (hL.eqs (p1.1 p hp)).1.symm, by rw [hk 96 (by omega) (by omega)]; exact (hL.eqs (p1.1 p hp)).2.1.symm⟩⟩
  exact ⟨μ', a, b⟩
theorem m_scan {N l m : Nat} {y1 : Int32} {μ0 ν : Mem} (hy : y1 = 0) (hL : RelN wq N (CL μ0) (MT μ0 0)) (h7 : N ≤ 7) (hl : l ≤ 2) (hm : m ≤ 5) (h2 : l = 2 → 1 ≤ m) (hν : ∀ k, 94 ≤ k → k ≤ 99 → ν k = μ0 k) : ∀ (d n : Nat) (r b : Nat → Int32) (e : Int32) (μ : Mem), PermF r N → 5040 ≤ rkR N r + d → d < n → (∀ k, k ≠ 89 → k ≠ 100 → k ≠ 103 → k ≠ 104 → k ≠ 105 → μ k = ν k) → (∀ j, j ≠ 12 → j ≠ 14 → j ≠ 15 → μ 89 j = ν 89 j) → μ 89 12 = nI N → μ 89 14 = 1 → μ 89 15 = 1 → μ 105 = r → (∀ p, p < N → μ 100 p = b p) →
    ∃ μ', fX9_least_89 FF n (nI l) (nI m) e μ = some ((scn N (eN l m μ0 N) (Sk y1 μ0 N) d r e b).1, μ') ∧ (∀ p, p < N → μ' 100 p = (scn N (eN l m μ0 N) (Sk y1 μ0 N) d r e b).2 p) ∧ (∀ k, k ≠ 89 → k ≠ 100 → k ≠ 103 → k ≠ 104 → k ≠ 105 → μ' k = ν k) ∧ (∀ j, j ≠ 12 → j ≠ 14 → j ≠ 15 → μ' 89 j = ν 89 j) ∧ μ' 89 12 = nI N ∧ μ' 89 14 = 1 ∧ μ' 89 15 = 1 := by
  intro d
  induction d with
  | zero =>
    intro n r b e μ hP hd
    have := rkR_b hP (Or.inl h7)
    omega
  | succ d ih =>
    intro n r b e μ hP hd hn hk hj h12 h14 h15 hr hb
    obtain ⟨n, rfl⟩ : ∃ n', n = n' + 1 := ⟨n - 1, by omega⟩
    have eμ : μ = upM μ 105 r := by rw [← hr, upM_id]
    have st := m_step0 (N := N) (μ := μ) (r := r) (by omega) (by rw [hk 94 (by omega) (by omega) (by omega) (by omega) (by omega), hν 94 (by omega) (by omega)]; exact hL.2.2.1)
    rw [← eμ] at st
    have e0 : fX9_least_89 FF (n + 1) (nI l) (nI m) e μ = cal (fX9_nextRow FF μ) (fun r15 m14 => (if r15 = 0 then some (e, m14) else cal (fX9_endOf FF 105 (nI l) (nI m) m14) (fun r17 m16 => (if e ≤ r17 then fX9_least_89 FF n (nI l) (nI m) e m16 else cav (fX9_finds FF 105 m16) (fun m18 => fX9_least_89 FF n (nI l) (nI m) r17 m18))))) := rfl
    rw [e0, st]
    cases hx : nxR N r with
    | none =>
      rw [scn_n hx]
      exact ⟨μ, rfl, hb, hk, hj, h12, h14, h15⟩
    | some v =>
      obtain ⟨i, r'⟩ := v
      have hP' := (nxR_perm hP hx).1
      have rl := rkR_lt (by omega) hP hx
      obtain ⟨μe, g1, g2⟩ := m_row (μ0 := μ0) (μ := upM μ 105 r') hL hl hm h2 hP' (fun k q1 q2 => by rw [upM_ne (by omega), hk k (by omega) (by omega) (by omega) (by omega) (by omega)]; exact hν k q1 (by omega)) upM_self
      have ke : ∀ k, k ≠ 89 → k ≠ 100 → k ≠ 103 → k ≠ 104 → k ≠ 105 → μe k = ν k := fun k q1 q2 q3 q4 q5 => by rw [g2 k (by omega), upM_ne q5]; exact hk k q1 q2 q3 q4 q5
      have e105 : μe 105 = r' := by rw [g2 105 (by omega), upM_self]
      have e100 : μe 100 = μ 100 := by rw [g2 100 (by omega), upM_ne (by omega)]
      have e89 : μe 89 = μ 89 := by rw [g2 89 (by omega), upM_ne (by omega)]
      have skip := ih n r' b e μe hP' (by omega) (by omega) ke (fun j q1 q2 q3 => by rw [e89]; exact hj j q1 q2 q3) (by rw [e89]; exact h12) (by rw [e89]; exact h14) (by rw [e89]; exact h15) e105 (fun p hp => by rw [e100]; exact hb p hp)
      obtain ⟨μ8, f1, f2, f3, f4, f5, f6, f7⟩ := m_finds (N := N) (μ := μe) (by omega) (by rw [ke 94 (by omega) (by omega) (by omega) (by omega) (by omega), hν 94 (by omega) (by omega)]; exact hL.2.2.1)
      have recd := ih n r' r' (eN l m μ0 N r') μ8 hP' (by omega) (by omega) (fun k q1 q2 q3 q4 q5 => by rw [f7 k q1 q2]; exact ke k q1 q2 q3 q4 q5) (fun j q1 q2 q3 => by rw [f6 j q1 q2 q3, e89]; exact hj j q1 q2 q3) f3 f4 f5 (by rw [f7 105 (by omega) (by omega)]; exact e105) (fun p hp => by rw [f2 p hp, e105])
      show ∃ μ', cal (some ((1 : Int32), upM μ 105 r')) _ = _ ∧ _
      rw [cal_n, if_neg one_ne, g1, cal_n]
      by_cases q : e ≤ eN l m μ0 N r'
      · rw [if_pos q, scn_le hx q]
        exact skip
      · rw [if_neg q, f1, cav_n, scn_gt hx q (fun w => w.1 hy)]
        exact recd
def enc (e : Int32) : Int32 := if e = 2147483647 then -1 else e
def Rcd (e : Int32) : Prop := ∃ x, x ≤ 8000000 ∧ e = nI x
theorem Rcd.enc {e : Int32} (h : Rcd e) : enc e = e ∧ ¬ e < 0 := by
  obtain ⟨x, hx, rfl⟩ := h
  refine ⟨if_neg (fun q => max_nle hx (by rw [q]; decide)), nI_pos (by omega)⟩
theorem m_scan2 {N l m : Nat} {y1 : Int32} {μ0 ν κ : Mem} (hκ : ∀ p, p < N → κ 14 p = μ0 99 p) (hy : ¬ y1 = 0) (hL : RelN wq N (CL μ0) (MT μ0 0)) (h7 : N ≤ 7) (hl : l ≤ 2) (hm : m ≤ 5) (h2 : l = 2 → 1 ≤ m) (hν : ∀ k, 94 ≤ k → k ≤ 99 → ν k = μ0 k) : ∀ (d n : Nat) (r b : Nat → Int32) (e : Int32) (μ : Mem), PermF r N → 5040 ≤ rkR N r + d → d < n → (e = 2147483647 ∨ Rcd e) → (∀ k, k ≠ 103 → k ≠ 104 → k ≠ 105 → μ k = ν k) → μ 105 = r →
    ∃ μ', cal (fX9_nextRow FF μ) (fun rr mm => fX9_second_46 FF n (nI l) (nI m) (enc e) rr mm) = some (enc (scn N (eN l m μ0 N) (Sk y1 κ N) d r e b).1, μ') ∧ ∀ k, k ≠ 103 → k ≠ 104 → k ≠ 105 → μ' k = ν k := by
  intro d
  induction d with
  | zero =>
    intro n r b e μ hP hd
    have := rkR_b hP (Or.inl h7)
    omega
  | succ d ih =>
    intro n r b e μ hP hd hn he hk hr
    obtain ⟨n, rfl⟩ : ∃ n', n = n' + 1 := ⟨n - 1, by omega⟩
    have eμ : μ = upM μ 105 r := by rw [← hr, upM_id]
    have h94 : ν 94 0 = nI N := by rw [hν 94 (by omega) (by omega)]; exact hL.2.2.1
    have st := m_step0 (N := N) (μ := μ) (r := r) (by omega) (by rw [hk 94 (by omega) (by omega) (by omega)]; exact h94)
    rw [← eμ] at st
    rw [st]
    cases hx : nxR N r with
    | none =>
      rw [scn_n hx]
      refine ⟨μ, ?_, hk⟩
      show cal (some ((0 : Int32), μ)) _ = _
      rw [cal_n]
      show fX9_second_46_b FF _ _ _ _ _ _ = _
      unfold fX9_second_46_b
      rw [if_pos rfl]
    | some v =>
      obtain ⟨i, r'⟩ := v
      have hP' := (nxR_perm hP hx).1
      have rl := rkR_lt (by omega) hP hx
      have k0 : ∀ k, k ≠ 103 → k ≠ 104 → k ≠ 105 → upM μ 105 r' k = ν k := fun k q1 q2 q3 => by rw [upM_ne q3]; exact hk k q1 q2 q3
      obtain ⟨μe, g1, g2⟩ := m_row (μ0 := μ0) (μ := upM μ 105 r') hL hl hm h2 hP' (fun k q1 q2 => by rw [k0 k (by omega) (by omega) (by omega)]; exact hν k q1 (by omega)) upM_self
      have ke : ∀ k, k ≠ 103 → k ≠ 104 → k ≠ 105 → μe k = ν k := fun k q1 q2 q3 => by rw [g2 k (by omega)]; exact k0 k q1 q2 q3
      have e105 : μe 105 = r' := by rw [g2 105 (by omega), upM_self]
      have hE : Rcd (eN l m μ0 N r') := eN_b hL h2 hP'
      show ∃ μ', cal (some ((1 : Int32), upM μ 105 r')) _ = _ ∧ _
      rw [cal_n]
      show ∃ μ', fX9_second_46_b FF _ _ _ _ _ _ = _ ∧ _
      unfold fX9_second_46_b
      rw [if_neg one_ne]
      rcases m_isOrd (N := N) (μ := upM μ 105 r') (by omega) (by rw [k0 94 (by omega) (by omega) (by omega)]; exact h94) with ⟨o1, o2⟩ | ⟨o1, o2⟩
      · rw [o2, cal_n, if_neg one_ne, scn_sk hx ⟨hy, fun p hp => by
          have := o1 p hp
          rw [upM_self, k0 99 (by omega) (by omega) (by omega), hν 99 (by omega) (by omega)] at this
          exact this.trans (hκ p hp).symm⟩]
        exact ih n r' b e _ hP' (by omega) (by omega) he k0 upM_self
      · have nS : ¬ Sk y1 κ N r' := fun w => o1 (fun p hp => by
          rw [upM_self, k0 99 (by omega) (by omega) (by omega), hν 99 (by omega) (by omega)]
          exact (w.2 p hp).trans (hκ p hp))
        rw [o2, cal_n, if_pos rfl, g1, cal_n]
        have recd := ih n r' r' (eN l m μ0 N r') μe hP' (by omega) (by omega) (Or.inr hE) ke e105
        rw [hE.enc.1] at recd
        rcases he with rfl | he
        · rw [show enc 2147483647 = -1 from rfl, if_pos (show (-1 : Int32) < 0 by decide), scn_gt hx (by
            obtain ⟨x, hx1, hx2⟩ := hE
            rw [hx2]
            exact max_nle hx1) nS]
          exact recd
        · rw [he.enc.1, if_neg he.enc.2]
          by_cases q : e ≤ eN l m μ0 N r'
          · rw [if_pos q, scn_le hx q]
            have s := ih n r' b e μe hP' (by omega) (by omega) (Or.inr he) ke e105
            rw [he.enc.1] at s
            exact s
          · rw [if_neg q, scn_gt hx q nS]
            exact recd
theorem scn_rcd {N : Nat} {E : (Nat → Int32) → Int32} {S : (Nat → Int32) → Prop} (hE : ∀ r, PermF r N → Rcd (E r)) : ∀ (d : Nat) (r b : Nat → Int32) (e : Int32), PermF r N → Rcd e → Rcd (scn N E S d r e b).1
  | 0, _, _, _, _, h => h
  | d + 1, r, b, e, hP, h => by
    cases hx : nxR N r with
    | none => rw [scn_n hx]; exact h
    | some v =>
      obtain ⟨i, r'⟩ := v
      have hP' := (nxR_perm hP hx).1
      by_cases q : e ≤ E r'
      · rw [scn_le hx q]; exact scn_rcd hE d r' b e hP' h
      · by_cases t : S r'
        · rw [scn_sk hx t]; exact scn_rcd hE d r' b e hP' h
        · rw [scn_gt hx q t]; exact scn_rcd hE d r' r' _ hP' (hE r' hP')
