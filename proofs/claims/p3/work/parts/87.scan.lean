/-! going through all rows -/
variable {wq : Prop}
theorem cp_x {μ : Mem} {a b n : Nat} (h1 : n ≤ ln a) (h2 : n ≤ ln b) : ∃ m' : Mem, (∀ {α : Type} (f : Mem → Option α), cpy μ a 0 b 0 (nI n) f = f m') ∧ (∀ p, p < n → m' b p = μ a p) ∧ (∀ p, n ≤ p → m' b p = μ b p) ∧ ∀ c, c ≠ b → m' c = μ c := by
  refine ⟨upM μ b (va_cpy (μ a) (μ b) 0 0 n), fun f => ?_, fun p hp => ?_, fun p hp => ?_, fun c hc => upM_ne hc⟩
  · rw [show (0 : Int32) = nI 0 from rfl, cpy_n (by omega) (by omega)]
  · rw [upM_self]
    unfold va_cpy
    rw [if_pos (by omega)]
    congr 1
    omega
  · rw [upM_self]
    unfold va_cpy
    rw [if_neg (by omega)]
theorem c_step0 {N : Nat} {μ : Mem} {r : Nat → Int32} (hN : N ≤ 8) (h : μ 71 1 = nI N) : fX6_step FF (upM μ 72 r) = match nxR N r with | none => some (-1, upM μ 72 r) | some (i, r') => some (nI i, upM μ 72 r') := by
  by_cases h0 : N = 0
  · subst h0
    obtain ⟨n, hn⟩ : ∃ n, FF = n + 1 := ⟨9999999, rfl⟩
    show fX6_step_7 FF FF _ _ = some (-1, upM μ 72 r)
    rw [upM_ne (by omega), h]
    rw (occs := .pos [2]) [hn]
    show fX6_step_7_b FF _ _ _ = _
    unfold fX6_step_7_b fX6_step_34
    rw [if_pos (show nI 0 - 2 < (0 : Int32) by decide), if_neg (show ¬ (0 : Int32) ≤ nI 0 - 2 by decide)]
  · exact c_step (by omega) hN h
theorem m_step0 {N : Nat} {μ : Mem} {r : Nat → Int32} (hN : N ≤ 8) (h : μ 94 0 = nI N) : fX9_nextRow FF (upM μ 105 r) = match nxR N r with | none => some (0, upM μ 105 r) | some (_, r') => some (1, upM μ 105 r') := by
  by_cases h0 : N = 0
  · subst h0
    obtain ⟨n, hn⟩ : ∃ n, FF = n + 1 := ⟨9999999, rfl⟩
    unfold fX9_nextRow
    rw [show (0 : Int32) = nI 0 from rfl, rd_n (by decide), upM_ne (by omega), h]
    show fX9_nextRow_11 FF FF _ _ _ = some (0, upM μ 105 r)
    rw (occs := .pos [2]) [hn]
    show fX9_nextRow_11_b FF _ _ _ _ = _
    unfold fX9_nextRow_11_b fX9_nextRow_38
    rw [if_pos (show nI 0 - 2 < (0 : Int32) by decide), if_neg (show ¬ (0 : Int32) ≤ nI 0 - 2 by decide)]
    rfl
  · exact m_step (by omega) hN h
theorem fd_congr {r s : Nat → Int32} {N : Nat} (h : ∀ p, p < N → r p = s p) : ∀ n, n < N → fd r n = fd s n
  | 0, _ => rfl
  | n + 1, hn => by
    unfold fd
    rw [h n (by omega), h (n + 1) hn, fd_congr h n (by omega)]
theorem fj_congr {r s : Nat → Int32} {N i : Nat} (h : ∀ p, p < N → r p = s p) (hi : i < N) : ∀ j, j < N → fj r i j = fj s i j
  | 0, _ => rfl
  | j + 1, hj => by
    unfold fj
    rw [h i hi, h (j + 1) hj, fj_congr h hi j (by omega)]
theorem rvs_congr {N : Nat} : ∀ (n a b : Nat) (r s : Nat → Int32), b < N → (∀ p, p < N → r p = s p) → ∀ p, p < N → rvs n a b r p = rvs n a b s p
  | 0, _, _, _, _, _, h, p, hp => h p hp
  | n + 1, a, b, r, s, hb, h, p, hp => by
    unfold rvs
    by_cases c : b ≤ a
    · rw [if_pos c, if_pos c]; exact h p hp
    · rw [if_neg c, if_neg c]
      exact rvs_congr n (a + 1) (b - 1) _ _ (by omega) (swp_congr h (by omega) hb) p hp
theorem nxR_congr {N : Nat} {r s : Nat → Int32} (h : ∀ p, p < N → r p = s p) : (nxR N r = none ∧ nxR N s = none) ∨ ∃ i r' s', nxR N r = some (i, r') ∧ nxR N s = some (i, s') ∧ ∀ p, p < N → r' p = s' p := by
  by_cases h0 : N = 0
  · subst h0
    exact Or.inl ⟨rfl, rfl⟩
  unfold nxR
  rw [← fd_congr h (N - 1) (by omega)]
  cases hf : fd r (N - 1) with
  | none => exact Or.inl ⟨rfl, rfl⟩
  | some k =>
    have h1 := fd_lt hf
    refine Or.inr ⟨k, _, _, rfl, rfl, fun p hp => ?_⟩
    rw [← fj_congr h (show k < N by omega) (N - 1) (by omega)]
    have hj := fj_b (r := r) (i := k) (j := N - 1) (by omega)
    exact rvs_congr N (k + 1) (N - 1) _ _ (by omega) (swp_congr h (by omega) (by omega)) p hp
noncomputable def scn (N : Nat) (E : (Nat → Int32) → Int32) (S : (Nat → Int32) → Prop) : Nat → (Nat → Int32) → Int32 → (Nat → Int32) → Int32 × (Nat → Int32)
  | 0, _, e, b => (e, b)
  | d + 1, r, e, b =>
    match nxR N r with
    | none => (e, b)
    | some (_, r') => if e ≤ E r' then scn N E S d r' e b else @ite _ (S r') (Classical.propDecidable _) (scn N E S d r' e b) (scn N E S d r' (E r') r')
theorem scn_n {N d : Nat} {E : (Nat → Int32) → Int32} {S : (Nat → Int32) → Prop} {r b : Nat → Int32} {e : Int32} (h : nxR N r = none) : scn N E S (d + 1) r e b = (e, b) := by
  unfold scn
  rw [h]
theorem scn_le {N d i : Nat} {E : (Nat → Int32) → Int32} {S : (Nat → Int32) → Prop} {r r' b : Nat → Int32} {e : Int32} (h : nxR N r = some (i, r')) (q : e ≤ E r') : scn N E S (d + 1) r e b = scn N E S d r' e b := by
  rw [scn, h]
  exact if_pos q
theorem scn_sk {N d i : Nat} {E : (Nat → Int32) → Int32} {S : (Nat → Int32) → Prop} {r r' b : Nat → Int32} {e : Int32} (h : nxR N r = some (i, r')) (s : S r') : scn N E S (d + 1) r e b = scn N E S d r' e b := by
  rw [scn, h]
  by_cases q : e ≤ E r'
  · exact if_pos q
  · exact (if_neg q).trans (if_pos s)
theorem scn_gt {N d i : Nat} {E : (Nat → Int32) → Int32} {S : (Nat → Int32) → Prop} {r r' b : Nat → Int32} {e : Int32} (h : nxR N r = some (i, r')) (q : ¬ e ≤ E r') (s : ¬ S r') : scn N E S (d + 1) r e b = scn N E S d r' (E r') r' := by
  rw [scn, h]
  exact (if_neg q).trans (if_neg s)
theorem scn_congr {N : Nat} {E : (Nat → Int32) → Int32} {S : (Nat → Int32) → Prop} (hE : ∀ r s, (∀ p, p < N → r p = s p) → E r = E s) (hS : ∀ r s, (∀ p, p < N → r p = s p) → (S r ↔ S s)) : ∀ (d : Nat) (r s : Nat → Int32) (e : Int32) (b c : Nat → Int32), (∀ p, p < N → r p = s p) → (∀ p, p < N → b p = c p) → (scn N E S d r e b).1 = (scn N E S d s e c).1 ∧ ∀ p, p < N → (scn N E S d r e b).2 p = (scn N E S d s e c).2 p
  | 0, r, s, e, b, c, _, hb => ⟨rfl, hb⟩
  | d + 1, r, s, e, b, c, hr, hb => by
    rcases nxR_congr hr with ⟨h1, h2⟩ | ⟨i, r', s', h1, h2, h3⟩
    · rw [scn_n h1, scn_n h2]
      exact ⟨rfl, hb⟩
    · by_cases q : e ≤ E r'
      · rw [scn_le h1 q, scn_le h2 (by rw [← hE r' s' h3]; exact q)]
        exact scn_congr hE hS d r' s' e b c h3 hb
      · by_cases t : S r'
        · rw [scn_sk h1 t, scn_sk h2 ((hS r' s' h3).mp t)]
          exact scn_congr hE hS d r' s' e b c h3 hb
        · rw [scn_gt h1 q t, scn_gt h2 (by rw [← hE r' s' h3]; exact q) (fun w => t ((hS r' s' h3).mpr w)), ← hE r' s' h3]
          exact scn_congr hE hS d r' s' _ r' s' h3 h3
def Sk (y : Int32) (μ : Mem) (N : Nat) (r : Nat → Int32) : Prop := ¬ y = 0 ∧ ∀ p, p < N → r p = μ 14 p
theorem Sk.congr {y : Int32} {μ : Mem} {N : Nat} (r s : Nat → Int32) (h : ∀ p, p < N → r p = s p) : Sk y μ N r ↔ Sk y μ N s :=
  ⟨fun q => ⟨q.1, fun p hp => (h p hp).symm.trans (q.2 p hp)⟩, fun q => ⟨q.1, fun p hp => (h p hp).trans (q.2 p hp)⟩⟩
theorem c_row {N l m i : Nat} {μ0 μ : Mem} {r : Nat → Int32} (hL : RelN wq N (CL μ0) (MT μ0 0)) (h8 : N ≤ 8) (hl : l ≤ 2) (hm : m ≤ 5) (h2 : l = 2 → 1 ≤ m) (h5 : μ0 55 5 = nI l) (h6 : μ0 55 6 = nI m) (hP : PermF r N) (hi : i ≤ N) (hk : ∀ k, k ≠ 72 → k ≠ 79 → (k < 56 ∨ 60 < k) → μ k = μ0 k) (h72 : μ 72 = r) (hK : KN l m (fun p => μ0 10 (tn (r p))) (fun p => μ0 11 (tn (r p))) i μ) : ∃ μ', fX1_endOf FF 72 (nI i) μ = some (eN l m μ0 N r, μ') ∧ (∀ k, k < 56 ∨ 60 < k → μ' k = μ k) ∧ KN l m (fun p => μ0 10 (tn (r p))) (fun p => μ0 11 (tn (r p))) N μ' := by
  obtain ⟨p1, p2⟩ := hP.inj (by omega)
  refine c_end_loop (by omega) (show N ≤ ln 72 from h8) (by omega) hl hm h2 (N - i) FF i μ (by omega) (by rw [FF_e]; omega) ⟨by rw [hk 9 (by omega) (by omega) (by omega)]; exact hL.2.1, fun p hp => ⟨tn (r p), ?_, ?_, ?_, ?_⟩⟩ ?_ ?_ hK
  · have := p1.1 p hp
    have this : tn (r p) < N := this
    omega
  · rw [h72]; exact p2 p hp
  · rw [hk 10 (by omega) (by omega) (by omega)]
  · rw [hk 11 (by omega) (by omega) (by omega)]
  · rw [hk 55 (by omega) (by omega) (by omega)]; exact h5
  · rw [hk 55 (by omega) (by omega) (by omega)]; exact h6
theorem c_scan {N l m : Nat} {y1 : Int32} {μ0 : Mem} (hL : RelN wq N (CL μ0) (MT μ0 0)) (h7 : N ≤ 7) (hl : l ≤ 2) (hm : m ≤ 5) (h2 : l = 2 → 1 ≤ m) (h71 : μ0 71 1 = nI N) (h5 : μ0 55 5 = nI l) (h6 : μ0 55 6 = nI m) : ∀ (d n c : Nat) (r b : Nat → Int32) (e : Int32) (μ : Mem), PermF r N → 5040 ≤ rkR N r + d → c ≤ rkR N r → d < n → (∀ k, k ≠ 72 → k ≠ 79 → (k < 56 ∨ 60 < k) → μ k = μ0 k) → μ 72 = r → (∀ p, p < N → μ 79 p = b p) → KN l m (fun p => μ0 10 (tn (r p))) (fun p => μ0 11 (tn (r p))) N μ →
    ∃ μ', fX8_leastOfAllRows_109 FF (fX8_leastOfAllRows_23 FF n) y1 e (nI c) μ = some ((scn N (eN l m μ0 N) (Sk y1 μ0 N) d r e b).1, μ') ∧ (∀ p, p < N → μ' 79 p = (scn N (eN l m μ0 N) (Sk y1 μ0 N) d r e b).2 p) ∧ ∀ k, k ≠ 72 → k ≠ 79 → (k < 56 ∨ 60 < k) → μ' k = μ0 k := by
  intro d
  induction d with
  | zero =>
    intro n c r b e μ hP hd
    have := rkR_b hP (Or.inl h7)
    omega
  | succ d ih =>
    intro n c r b e μ hP hd hc hn hk h72 h79 hK
    obtain ⟨n, rfl⟩ : ∃ n', n = n' + 1 := ⟨n - 1, by omega⟩
    have rb := rkR_b hP (Or.inl h7)
    have eμ : μ = upM μ 72 r := by rw [← h72, upM_id]
    have st := c_step0 (N := N) (μ := μ) (r := r) (by omega) (by rw [hk 71 (by omega) (by omega) (by omega)]; exact h71)
    rw [← eμ] at st
    have e0 : fX8_leastOfAllRows_109 FF (fX8_leastOfAllRows_23 FF (n + 1)) y1 e (nI c) μ = cal (fX6_step FF μ) (fun r7 m6 => fX8_leastOfAllRows_23 FF (n + 1) y1 e r7 (nI (c + 1)) m6) := by
      unfold fX8_leastOfAllRows_109
      rw [nI_add1]
    rw [e0, st]
    cases hx : nxR N r with
    | none =>
      rw [scn_n hx]
      refine ⟨μ, ?_, h79, hk⟩
      show fX8_leastOfAllRows_23_b FF _ _ _ _ _ _ = _
      unfold fX8_leastOfAllRows_23_b
      by_cases q : (5040 : Int32) ≤ nI (c + 1)
      · rw [if_pos q]
      · rw [if_neg q, if_pos (show (-1 : Int32) < 0 by decide)]
    | some v =>
      obtain ⟨i, r'⟩ := v
      obtain ⟨s1, s2, s3, s4⟩ := nxR_some hx
      have hP' := (nxR_perm hP hx).1
      have rl := rkR_lt (by omega) hP hx
      have rb' := rkR_b hP' (Or.inl h7)
      obtain ⟨μe, g1, g2, g3⟩ := c_row (i := i) (μ := upM μ 72 r') hL (by omega) hl hm h2 h5 h6 hP' (by omega) (fun k q1 q2 q3 => by rw [upM_ne q1]; exact hk k q1 q2 q3) upM_self (fun p hp => by
        have := ((hK.mono (show i ≤ N by omega)).congr (X' := fun p => μ0 10 (tn (r' p))) (B' := fun p => μ0 11 (tn (r' p))) (fun p hp => by rw [s2 p hp]; exact ⟨rfl, rfl⟩)) p hp
        rw [upM_ne (by omega), upM_ne (by omega), upM_ne (by omega), upM_ne (by omega), upM_ne (by omega)]
        exact this)
      have ke : ∀ k, k ≠ 72 → k ≠ 79 → (k < 56 ∨ 60 < k) → μe k = μ0 k := fun k q1 q2 q3 => by rw [g2 k q3, upM_ne q1]; exact hk k q1 q2 q3
      have e72 : μe 72 = r' := by rw [g2 72 (by omega), upM_self]
      have e79 : μe 79 = μ 79 := by rw [g2 79 (by omega), upM_ne (by omega)]
      have skip := ih n (c + 1) r' b e μe hP' (by omega) (by omega) (by omega) ke e72 (fun p hp => by rw [e79]; exact h79 p hp) g3
      obtain ⟨μ8, f8, a8, b8, c8⟩ := cp_x (μ := μe) (a := 72) (b := 79) (n := N) (by show N ≤ 8; omega) (by show N ≤ 40; omega)
      have recd := ih n (c + 1) r' r' (eN l m μ0 N r') μ8 hP' (by omega) (by omega) (by omega) (fun k q1 q2 q3 => by rw [c8 k q2]; exact ke k q1 q2 q3) (by rw [c8 72 (by omega)]; exact e72) (fun p hp => by rw [a8 p hp, e72]) (fun p hp => by
        rw [c8 56 (by omega), c8 57 (by omega), c8 58 (by omega), c8 59 (by omega), c8 60 (by omega)]
        exact g3 p hp)
      have e9 : μe 9 6 = nI N := by rw [ke 9 (by omega) (by omega) (by omega)]; exact hL.2.1
      have e83 : fX8_leastOfAllRows_83 FF (fX8_leastOfAllRows_23 FF n) y1 (nI (c + 1)) (eN l m μ0 N r') μe = fX8_leastOfAllRows_109 FF (fX8_leastOfAllRows_23 FF n) y1 (eN l m μ0 N r') (nI (c + 1)) μ8 := by
        unfold fX8_leastOfAllRows_83
        rw [e9, f8]
      have goal : cal (some (nI i, upM μ 72 r')) (fun r7 m6 => fX8_leastOfAllRows_23 FF (n + 1) y1 e r7 (nI (c + 1)) m6) = if e ≤ eN l m μ0 N r' then fX8_leastOfAllRows_109 FF (fX8_leastOfAllRows_23 FF n) y1 e (nI (c + 1)) μe else if y1 = 0 then fX8_leastOfAllRows_109 FF (fX8_leastOfAllRows_23 FF n) y1 (eN l m μ0 N r') (nI (c + 1)) μ8 else cal (fX3_isOrder FF 72 μe) (fun r5 m4 => if r5 = 0 then fX8_leastOfAllRows_83 FF (fX8_leastOfAllRows_23 FF n) y1 (nI (c + 1)) (eN l m μ0 N r') m4 else fX8_leastOfAllRows_109 FF (fX8_leastOfAllRows_23 FF n) y1 e (nI (c + 1)) m4) := by
        rw [cal_n]
        show fX8_leastOfAllRows_23_b FF _ _ _ _ _ _ = _
        unfold fX8_leastOfAllRows_23_b
        rw [show (5040 : Int32) = nI 5040 from rfl, if_neg (nI_ge (by omega) (by omega)), if_neg (nI_pos (by omega)), g1, cal_n, e83]
      rw [goal]
      by_cases q : e ≤ eN l m μ0 N r'
      · rw [if_pos q, scn_le hx q]
        exact skip
      · rw [if_neg q]
        by_cases y0 : y1 = 0
        · rw [if_pos y0, scn_gt hx q (fun w => w.1 y0)]
          exact recd
        · rw [if_neg y0]
          rcases c_isOrd (N := N) (k := 72) (μ := μe) (by omega) (by show N ≤ 8; omega) e9 with ⟨o1, o2⟩ | ⟨o1, o2⟩
          · rw [o2, cal_n, if_neg one_ne, scn_sk hx ⟨y0, fun p hp => by
              have := o1 p hp
              rw [e72, ke 14 (by omega) (by omega) (by omega)] at this
              exact this⟩]
            exact skip
          · rw [o2, cal_n, if_pos rfl, e83, scn_gt hx q (fun w => o1 (fun p hp => by
              rw [e72, ke 14 (by omega) (by omega) (by omega)]
              exact w.2 p hp))]
            exact recd
