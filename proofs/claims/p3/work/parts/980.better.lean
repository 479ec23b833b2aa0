/-! better: a pass, on both sides -/
variable {wq : Prop}
def pas (E : (Nat → Int32) → Int32) : Nat → Nat → (Nat → Int32) → Int32 → Nat → (Nat → Int32) × Int32 × Nat
  | 0, _, r, e, c => (r, e, c)
  | d + 1, p, r, e, c => if e ≤ E (swp r p (p + 1)) then pas E d (p + 1) r e c else pas E d (p + 1) (swp r p (p + 1)) (E (swp r p (p + 1))) (c + 1)
theorem pas_le {E : (Nat → Int32) → Int32} {d p c : Nat} {r : Nat → Int32} {e : Int32} (h : e ≤ E (swp r p (p + 1))) : pas E (d + 1) p r e c = pas E d (p + 1) r e c := if_pos h
theorem pas_gt {E : (Nat → Int32) → Int32} {d p c : Nat} {r : Nat → Int32} {e : Int32} (h : ¬ e ≤ E (swp r p (p + 1))) : pas E (d + 1) p r e c = pas E d (p + 1) (swp r p (p + 1)) (E (swp r p (p + 1))) (c + 1) := if_neg h
theorem swp_swp {f : Nat → Int32} {i j : Nat} : swp (swp f i j) i j = f := by
  funext k
  rw [swp_e, swp_e]
  congr 1
  by_cases h1 : k = j
  · subst h1
    rw [if_pos rfl]
    by_cases h2 : i = k
    · rw [if_pos h2, h2]
    · rw [if_neg h2, if_pos rfl]
  · rw [if_neg h1]
    by_cases h2 : k = i
    · rw [if_pos h2, if_pos rfl, h2]
    · rw [if_neg h2, if_neg h1, if_neg h2]
theorem pas_congr {E : (Nat → Int32) → Int32} {N : Nat} (hE : ∀ r s, (∀ p, p < N → r p = s p) → E r = E s) : ∀ (d p : Nat) (r s : Nat → Int32) (e : Int32) (c : Nat), p + d + 1 ≤ N → (∀ p, p < N → r p = s p) → (∀ q, q < N → (pas E d p r e c).1 q = (pas E d p s e c).1 q) ∧ (pas E d p r e c).2 = (pas E d p s e c).2
  | 0, _, _, _, _, _, _, h => ⟨h, rfl⟩
  | d + 1, p, r, s, e, c, hd, h => by
    have h2 := swp_congr (i := p) (j := p + 1) h (by omega) (by omega)
    by_cases q : e ≤ E (swp r p (p + 1))
    · rw [pas_le q, pas_le (by rw [← hE _ _ h2]; exact q)]
      exact pas_congr hE d (p + 1) r s e c (by omega) h
    · rw [pas_gt q, pas_gt (by rw [← hE _ _ h2]; exact q), ← hE _ _ h2]
      exact pas_congr hE d (p + 1) _ _ _ (c + 1) (by omega) h2
/-- what holds of a row's END all along -/
theorem pas_inv {E : (Nat → Int32) → Int32} {N : Nat} : ∀ (d p : Nat) (r : Nat → Int32) (e : Int32) (c : Nat), p + d + 1 ≤ N → PermF r N → e = E r → PermF (pas E d p r e c).1 N ∧ (pas E d p r e c).2.1 = E (pas E d p r e c).1 ∧ (pas E d p r e c).2.1.toInt + (pas E d p r e c).2.2 ≤ e.toInt + c ∧ c ≤ (pas E d p r e c).2.2 ∧ ((pas E d p r e c).2.2 = c → (pas E d p r e c).1 = r) ∧ (pas E d p r e c).2.2 ≤ c + d
  | 0, _, _, _, _, _, hP, he => ⟨hP, he, Int.le_refl _, Nat.le_refl _, fun _ => rfl, Nat.le_refl _⟩
  | d + 1, p, r, e, c, hd, hP, he => by
    by_cases q : e ≤ E (swp r p (p + 1))
    · rw [pas_le q]
      obtain ⟨a1, a2, a3, a4, a5, a6⟩ := pas_inv d (p + 1) r e c (by omega) hP he
      exact ⟨a1, a2, a3, a4, a5, by omega⟩
    · rw [pas_gt q]
      obtain ⟨a1, a2, a3, a4, a5, a6⟩ := pas_inv d (p + 1) (swp r p (p + 1)) (E (swp r p (p + 1))) (c + 1) (by omega) (hP.swp (by omega) (by omega)) rfl
      rw [Int32.le_iff_toInt_le] at q
      refine ⟨a1, a2, ?_, by omega, fun h => by omega, by omega⟩
      omega
def psR (E : (Nat → Int32) → Int32) (N : Nat) (r : Nat → Int32) : (Nat → Int32) × Int32 × Nat := pas E (N - 1) 0 r (E r) 0
def itP (E : (Nat → Int32) → Int32) (N : Nat) : Nat → (Nat → Int32) → Nat → Int32
  | 0, r => r
  | k + 1, r => itP E N k (psR E N r).1
def toP (E : (Nat → Int32) → Int32) (N : Nat) : Nat → (Nat → Int32) → Nat
  | 0, _ => 0
  | k + 1, r => (psR E N r).2.2 + toP E N k (psR E N r).1
/-- k passes that exchange, and one that doesn't -/
def StpP (E : (Nat → Int32) → Int32) (N : Nat) : Nat → (Nat → Int32) → Prop
  | 0, r => (psR E N r).2.2 = 0
  | k + 1, r => (psR E N r).2.2 ≠ 0 ∧ StpP E N k (psR E N r).1
/-- k passes that exchange -/
def RunP (E : (Nat → Int32) → Int32) (N : Nat) : Nat → (Nat → Int32) → Prop
  | 0, _ => True
  | k + 1, r => (psR E N r).2.2 ≠ 0 ∧ RunP E N k (psR E N r).1
theorem StpP.run {E : (Nat → Int32) → Int32} {N : Nat} : ∀ {k : Nat} {r : Nat → Int32}, StpP E N k r → RunP E N k r
  | 0, _, _ => trivial
  | _ + 1, _, h => ⟨h.1, h.2.run⟩
theorem psR_congr {E : (Nat → Int32) → Int32} {N : Nat} (h1 : 1 ≤ N) (hE : ∀ r s, (∀ p, p < N → r p = s p) → E r = E s) {r s : Nat → Int32} (h : ∀ p, p < N → r p = s p) : (∀ q, q < N → (psR E N r).1 q = (psR E N s).1 q) ∧ (psR E N r).2 = (psR E N s).2 := by
  unfold psR
  rw [← hE r s h]
  exact pas_congr hE (N - 1) 0 r s (E r) 0 (by omega) h
theorem itP_congr {E : (Nat → Int32) → Int32} {N : Nat} (h1 : 1 ≤ N) (hE : ∀ r s, (∀ p, p < N → r p = s p) → E r = E s) : ∀ (k : Nat) (r s : Nat → Int32), (∀ p, p < N → r p = s p) → (∀ q, q < N → itP E N k r q = itP E N k s q) ∧ toP E N k r = toP E N k s ∧ (StpP E N k r ↔ StpP E N k s)
  | 0, r, s, h => ⟨h, rfl, by
      show (psR E N r).2.2 = 0 ↔ (psR E N s).2.2 = 0
      rw [(psR_congr h1 hE h).2]⟩
  | k + 1, r, s, h => by
    obtain ⟨a, b⟩ := psR_congr h1 hE h
    obtain ⟨c1, c2, c3⟩ := itP_congr h1 hE k _ _ a
    refine ⟨c1, ?_, ?_⟩
    · show (psR E N r).2.2 + toP E N k (psR E N r).1 = (psR E N s).2.2 + toP E N k (psR E N s).1
      rw [c2, b]
    · show ((psR E N r).2.2 ≠ 0 ∧ StpP E N k (psR E N r).1) ↔ ((psR E N s).2.2 ≠ 0 ∧ StpP E N k (psR E N s).1)
      rw [c3, b]
/-- it stops -/
theorem StpP_ex {E : (Nat → Int32) → Int32} {N : Nat} (h1 : 1 ≤ N) (hb : ∀ r, PermF r N → 0 ≤ (E r).toInt) : ∀ (n : Nat) (r : Nat → Int32), PermF r N → (E r).toInt < n → ∃ k, k < n ∧ StpP E N k r
  | 0, r, hP, h => by
    have := hb r hP
    omega
  | n + 1, r, hP, h => by
    by_cases c : (psR E N r).2.2 = 0
    · exact ⟨0, by omega, c⟩
    · obtain ⟨a1, a2, a3, -⟩ := pas_inv (E := E) (N := N) (N - 1) 0 r (E r) 0 (by omega) hP rfl
      have a3' : (psR E N r).2.1.toInt + (psR E N r).2.2 ≤ (E r).toInt + (0 : Nat) := a3
      have a2' : (psR E N r).2.1 = E (psR E N r).1 := a2
      rw [a2'] at a3'
      obtain ⟨k, hk, hs⟩ := StpP_ex h1 hb n (psR E N r).1 a1 (by omega)
      exact ⟨k + 1, by omega, c, hs⟩
theorem c_row14 {N l m i : Nat} {μ0 μ : Mem} {r : Nat → Int32} (hL : RelN wq N (CL μ0) (MT μ0 0)) (hl : l ≤ 2) (hm : m ≤ 5) (h2 : l = 2 → 1 ≤ m) (h5 : μ0 55 5 = nI l) (h6 : μ0 55 6 = nI m) (hP : PermF r N) (hi : i ≤ N) (hk : ∀ k, k ≠ 14 → (k < 56 ∨ 60 < k) → μ k = μ0 k) (h14 : μ 14 = r) (hK : KN l m (fun p => μ0 10 (tn (r p))) (fun p => μ0 11 (tn (r p))) i μ) : ∃ μ', fX1_endOf FF 14 (nI i) μ = some (eN l m μ0 N r, μ') ∧ (∀ k, k < 56 ∨ 60 < k → μ' k = μ k) ∧ KN l m (fun p => μ0 10 (tn (r p))) (fun p => μ0 11 (tn (r p))) N μ' := by
  have hN := hL.1
  obtain ⟨p1, p2⟩ := hP.inj hN
  refine c_end_loop hN (show N ≤ ln 14 from hN) (by omega) hl hm h2 (N - i) FF i μ (by omega) (by rw [FF_e]; omega) ⟨by rw [hk 9 (by omega) (by omega)]; exact hL.2.1, fun p hp => ⟨tn (r p), ?_, ?_, ?_, ?_⟩⟩ ?_ ?_ hK
  · have := p1.1 p hp
    have this : tn (r p) < N := this
    omega
  · rw [h14]; exact p2 p hp
  · rw [hk 10 (by omega) (by omega)]
  · rw [hk 11 (by omega) (by omega)]
  · rw [hk 55 (by omega) (by omega)]; exact h5
  · rw [hk 55 (by omega) (by omega)]; exact h6
theorem c_pass {N l m : Nat} {μ0 : Mem} (hL : RelN wq N (CL μ0) (MT μ0 0)) (h1 : 1 ≤ N) (hl : l ≤ 2) (hm : m ≤ 5) (h2 : l = 2 → 1 ≤ m) (h5 : μ0 55 5 = nI l) (h6 : μ0 55 6 = nI m) : ∀ (d n p c : Nat) (r : Nat → Int32) (e : Int32) (μ : Mem), p + d + 1 = N → d < n → PermF r N → (∀ k, k ≠ 14 → (k < 56 ∨ 60 < k) → μ k = μ0 k) → μ 14 = r → KN l m (fun p => μ0 10 (tn (r p))) (fun p => μ0 11 (tn (r p))) (p - 1) μ →
    ∃ μ', fX8_passOfNeighbours_24 FF n (nI c) e (nI p) μ = some (nI (pas (eN l m μ0 N) d p r e c).2.2, μ') ∧ (∀ k, k ≠ 14 → (k < 56 ∨ 60 < k) → μ' k = μ0 k) ∧ μ' 14 = (pas (eN l m μ0 N) d p r e c).1 := by
  have hN := hL.1
  intro d
  induction d with
  | zero =>
    intro n p c r e μ hp hn hP hk h14 hK
    obtain ⟨n, rfl⟩ : ∃ n', n = n' + 1 := ⟨n - 1, by omega⟩
    refine ⟨μ, ?_, hk, h14⟩
    show fX8_passOfNeighbours_24_b FF _ _ _ _ μ = _
    unfold fX8_passOfNeighbours_24_b
    rw [hk 9 (by omega) (by omega), show μ0 9 6 = nI N from hL.2.1, nI_add1, if_pos (nI_le (by omega) (by omega))]
    rfl
  | succ d ih =>
    intro n p c r e μ hp hn hP hk h14 hK
    obtain ⟨n, rfl⟩ : ∃ n', n = n' + 1 := ⟨n - 1, by omega⟩
    have hP' : PermF (swp r p (p + 1)) N := hP.swp (by omega) (by omega)
    have low : ∀ q, q < p → swp r p (p + 1) q = r q := fun q hq => by rw [swp_e, if_neg (by omega), if_neg (by omega)]
    obtain ⟨μe, g1, g2, g3⟩ := c_row14 (i := p - 1) (μ := upM μ 14 (swp r p (p + 1))) (r := swp r p (p + 1)) hL hl hm h2 h5 h6 hP' (by omega) (fun k q1 q2 => by rw [upM_ne q1]; exact hk k q1 q2) upM_self (fun q hq => by
      have := (hK.congr (X' := fun q => μ0 10 (tn (swp r p (p + 1) q))) (B' := fun q => μ0 11 (tn (swp r p (p + 1) q))) (fun q hq => by
        show μ0 10 (tn (r q)) = μ0 10 (tn (swp r p (p + 1) q)) ∧ μ0 11 (tn (r q)) = μ0 11 (tn (swp r p (p + 1) q))
        rw [low q (by omega)]; exact ⟨rfl, rfl⟩)) q hq
      rw [upM_ne (by omega), upM_ne (by omega), upM_ne (by omega), upM_ne (by omega), upM_ne (by omega)]
      exact this)
    have ke : ∀ k, k ≠ 14 → (k < 56 ∨ 60 < k) → μe k = μ0 k := fun k q1 q2 => by rw [g2 k q2, upM_ne q1]; exact hk k q1 q2
    have e14 : μe 14 = swp r p (p + 1) := by rw [g2 14 (by omega), upM_self]
    have ei : imax 0 (nI p - 1) = nI (p - 1) := by
      have := imax_sub (a := p) (b := 1) (by omega) (by omega)
      exact this
    have head : fX8_passOfNeighbours_24 FF (n + 1) (nI c) e (nI p) μ = if e ≤ eN l m μ0 N (swp r p (p + 1)) then fX8_passOfNeighbours_24 FF n (nI c) e (nI (p + 1)) (upM μe 14 r) else fX8_passOfNeighbours_24 FF n (nI (c + 1)) (eN l m μ0 N (swp r p (p + 1))) (nI (p + 1)) μe := by
      show fX8_passOfNeighbours_24_b FF _ _ _ _ μ = _
      unfold fX8_passOfNeighbours_24_b
      rw [hk 9 (by omega) (by omega), show μ0 9 6 = nI N from hL.2.1, nI_add1, if_neg (nI_ge (by omega) (by omega)), c_exch (by show p < 40; omega) (by show p + 1 < 40; omega), cav_n, h14, ei, g1, cal_n, c_exch (by show p < 40; omega) (by show p + 1 < 40; omega), cav_n, e14, swp_swp, nI_add1]
    rw [head]
    by_cases q : e ≤ eN l m μ0 N (swp r p (p + 1))
    · rw [if_pos q, pas_le q]
      refine ih n (p + 1) c r e _ (by omega) (by omega) hP (fun k q1 q2 => by rw [upM_ne q1]; exact ke k q1 q2) upM_self ?_
      intro z hz
      have := ((g3.mono (show p ≤ N by omega)).congr (X' := fun q => μ0 10 (tn (r q))) (B' := fun q => μ0 11 (tn (r q))) (fun q hq => by
        show μ0 10 (tn (swp r p (p + 1) q)) = μ0 10 (tn (r q)) ∧ μ0 11 (tn (swp r p (p + 1) q)) = μ0 11 (tn (r q))
        rw [low q hq]; exact ⟨rfl, rfl⟩)) z (by omega)
      rw [upM_ne (by omega), upM_ne (by omega), upM_ne (by omega), upM_ne (by omega), upM_ne (by omega)]
      exact this
    · rw [if_neg q, pas_gt q]
      exact ih n (p + 1) (c + 1) _ _ μe (by omega) (by omega) hP' ke e14 (g3.mono (by omega))
theorem c_bet {N l m : Nat} {μ0 : Mem} (hL : RelN wq N (CL μ0) (MT μ0 0)) (h1 : 1 ≤ N) (hl : l ≤ 2) (hm : m ≤ 5) (h2 : l = 2 → 1 ≤ m) (h5 : μ0 55 5 = nI l) (h6 : μ0 55 6 = nI m) : ∀ (K n j y4 : Nat) (y3 : Int32) (r : Nat → Int32) (μ : Mem), j + K ≤ 1000000 → K + 2 < n → 0 < y4 → y4 ≤ 40 → StpP (eN l m μ0 N) N K r → PermF r N → (∀ k, k ≠ 14 → (k < 56 ∨ 60 < k) → μ k = μ0 k) → μ 14 = r →
    ∃ μ', fX8_better_39 FF n y3 (nI y4) (nI j) μ = some (y3 + nI (toP (eN l m μ0 N) N K r), μ') ∧ (∀ k, k ≠ 14 → (k < 56 ∨ 60 < k) → μ' k = μ0 k) ∧ μ' 14 = itP (eN l m μ0 N) N K r := by
  have hN := hL.1
  intro K
  induction K with
  | zero =>
    intro n j y4 y3 r μ hj hn hy hy2 hS hP hk h14
    obtain ⟨n, rfl⟩ : ∃ n', n = n' + 1 + 1 := ⟨n - 2, by omega⟩
    have ny : ¬ nI y4 ≤ (0 : Int32) := nI_ge (a := 0) (by omega) (by omega)
    have y0 : y3 + nI (toP (eN l m μ0 N) N 0 r) = y3 := i_a0 y3
    rw [y0]
    by_cases c : (1000000 : Int32) ≤ nI j
    · refine ⟨μ, ?_, hk, h14⟩
      show fX8_better_39_b FF _ _ _ _ μ = _
      unfold fX8_better_39_b
      rw [if_pos c]
    · obtain ⟨μe, g1, g2, g3⟩ := c_row14 (i := 0) (μ := μ) (r := r) hL hl hm h2 h5 h6 hP (by omega) hk h14 (fun p hp => by omega)
      have ke : ∀ k, k ≠ 14 → (k < 56 ∨ 60 < k) → μe k = μ0 k := fun k q1 q2 => by rw [g2 k q2]; exact hk k q1 q2
      obtain ⟨μ', p1, p2, p3⟩ := c_pass hL h1 hl hm h2 h5 h6 (N - 1) FF 0 0 r (eN l m μ0 N r) μe (by omega) (by rw [FF_e]; omega) hP ke (by rw [g2 14 (by omega)]; exact h14) (fun p hp => by omega)
      have hS' : (pas (eN l m μ0 N) (N - 1) 0 r (eN l m μ0 N r) 0).2.2 = 0 := hS
      have hr : (pas (eN l m μ0 N) (N - 1) 0 r (eN l m μ0 N r) 0).1 = r := (pas_inv (E := eN l m μ0 N) (N := N) (N - 1) 0 r (eN l m μ0 N r) 0 (by omega) hP rfl).2.2.2.2.1 hS'
      rw [hS'] at p1
      rw [hr] at p3
      refine ⟨μ', ?_, p2, p3⟩
      show fX8_better_39_b FF _ _ _ _ μ = _
      unfold fX8_better_39_b fX8_passOfNeighbours
      rw [if_neg c, if_neg ny, show (0 : Int32) = nI 0 from rfl, g1, cal_n, p1, cal_n]
      show fX8_better_39_b FF _ (y3 + nI 0) (nI 0) (nI j + 1) μ' = _
      unfold fX8_better_39_b
      rw [show y3 + nI 0 = y3 from i_a0 y3]
      by_cases c2 : (1000000 : Int32) ≤ nI j + 1
      · rw [if_pos c2]
      · rw [if_neg c2, if_pos (show nI 0 ≤ (0 : Int32) by decide)]
  | succ K ih =>
    intro n j y4 y3 r μ hj hn hy hy2 hS hP hk h14
    obtain ⟨n, rfl⟩ : ∃ n', n = n' + 1 := ⟨n - 1, by omega⟩
    have ny : ¬ nI y4 ≤ (0 : Int32) := nI_ge (a := 0) (by omega) (by omega)
    obtain ⟨μe, g1, g2, g3⟩ := c_row14 (i := 0) (μ := μ) (r := r) hL hl hm h2 h5 h6 hP (by omega) hk h14 (fun p hp => by omega)
    have ke : ∀ k, k ≠ 14 → (k < 56 ∨ 60 < k) → μe k = μ0 k := fun k q1 q2 => by rw [g2 k q2]; exact hk k q1 q2
    obtain ⟨μ', p1, p2, p3⟩ := c_pass hL h1 hl hm h2 h5 h6 (N - 1) FF 0 0 r (eN l m μ0 N r) μe (by omega) (by rw [FF_e]; omega) hP ke (by rw [g2 14 (by omega)]; exact h14) (fun p hp => by omega)
    obtain ⟨s1, s2⟩ := hS
    have inv := pas_inv (E := eN l m μ0 N) (N := N) (N - 1) 0 r (eN l m μ0 N r) 0 (by omega) hP rfl
    have s1' : (pas (eN l m μ0 N) (N - 1) 0 r (eN l m μ0 N r) 0).2.2 ≠ 0 := s1
    obtain ⟨ν, w1, w2, w3⟩ := ih n (j + 1) (psR (eN l m μ0 N) N r).2.2 (y3 + nI (psR (eN l m μ0 N) N r).2.2) (psR (eN l m μ0 N) N r).1 μ' (by omega) (by omega) (by
      show 0 < (pas (eN l m μ0 N) (N - 1) 0 r (eN l m μ0 N r) 0).2.2
      omega) (by
      show (pas (eN l m μ0 N) (N - 1) 0 r (eN l m μ0 N r) 0).2.2 ≤ 40
      omega) s2 inv.1 p2 p3
    refine ⟨ν, ?_, w2, w3⟩
    show fX8_better_39_b FF _ _ _ _ μ = _
    unfold fX8_better_39_b fX8_passOfNeighbours
    rw [show (1000000 : Int32) = nI 1000000 from rfl, if_neg (nI_ge (by omega) (by omega)), if_neg ny, show (0 : Int32) = nI 0 from rfl, g1, cal_n, p1, cal_n, nI_add1]
    refine w1.trans ?_
    show some ((y3 + nI (psR (eN l m μ0 N) N r).2.2) + nI (toP (eN l m μ0 N) N K (psR (eN l m μ0 N) N r).1), ν) = some (y3 + nI ((psR (eN l m μ0 N) N r).2.2 + toP (eN l m μ0 N) N K (psR (eN l m μ0 N) N r).1), ν)
    rw [i_aa, nI_add]
