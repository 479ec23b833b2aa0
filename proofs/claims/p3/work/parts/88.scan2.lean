/-! all rows from the first on -/
variable {wq : Prop}
def idR : Nat → Int32 := fun p => nI p
theorem idR_perm {N : Nat} : PermF idR N := ⟨fun i => i, fun i => i, fun i hi => ⟨hi, rfl, rfl⟩, fun i hi => ⟨hi, rfl⟩⟩
noncomputable def sca (N : Nat) (E : (Nat → Int32) → Int32) (S : (Nat → Int32) → Prop) (b0 : Nat → Int32) : Int32 × (Nat → Int32) :=
  @ite _ (S idR) (Classical.propDecidable _) (scn N E S 5040 idR 2147483647 b0) (scn N E S 5040 idR (E idR) idR)
theorem eN_of {l m N : Nat} {μ ν : Mem} (h1 : ν 10 = μ 10) (h2 : ν 11 = μ 11) : eN l m ν N = eN l m μ N := by
  funext r
  unfold eN
  rw [h1, h2]
theorem Sk_of {y : Int32} {N : Nat} {μ ν : Mem} (h : ν 14 = μ 14) : Sk y ν N = Sk y μ N := by
  funext r
  unfold Sk
  rw [h]
theorem max_nle {e : Nat} (h : e ≤ 8000000) : ¬ (2147483647 : Int32) ≤ nI e := by
  rw [Int32.le_iff_toInt_le, nI_toInt (by omega), show (2147483647 : Int32).toInt = 2147483647 from rfl]
  omega
theorem c_all {N l m : Nat} {y1 : Int32} {μ μs : Mem} (hL : RelN wq N (CL μ) (MT μ 0)) (h7 : N ≤ 7) (hl : l ≤ 2) (hm : m ≤ 5) (h2 : l = 2 → 1 ≤ m) (hs : ∀ k, k ≠ 55 → μs k = μ k) (h5 : μs 55 5 = nI l) (h6 : μs 55 6 = nI m) :
    ∃ μ', fX8_leastOfAllRows FF y1 μs = some ((sca N (eN l m μ N) (Sk y1 μ N) (μ 79)).1, μ') ∧ (∀ p, p < N → μ' 79 p = (sca N (eN l m μ N) (Sk y1 μ N) (μ 79)).2 p) ∧ ∀ k, k ≠ 71 → k ≠ 72 → k ≠ 79 → (k < 55 ∨ 60 < k) → μ' k = μ k := by
  obtain ⟨μb, b1, b2, b3, b4⟩ := c_begin (N := N) (μ := μs) (by omega)
  have bk : ∀ k, k ≠ 55 → k ≠ 71 → k ≠ 72 → μb k = μ k := fun k q1 q2 q3 => by rw [b4 k q2 q3, hs k q1]
  have hLb : RelN wq N (CL μb) (MT μb 0) := by
    have e1 : CL μb = CL μ := by
      unfold CL
      rw [bk 9 (by omega) (by omega) (by omega), bk 10 (by omega) (by omega) (by omega), bk 11 (by omega) (by omega) (by omega), bk 12 (by omega) (by omega) (by omega), bk 13 (by omega) (by omega) (by omega), bk 14 (by omega) (by omega) (by omega)]
    have e2 : MT μb 0 = MT μ 0 := by
      unfold MT
      rw [bk 94 (by omega) (by omega) (by omega), bk 95 (by omega) (by omega) (by omega), bk 96 (by omega) (by omega) (by omega), bk 97 (by omega) (by omega) (by omega), bk 98 (by omega) (by omega) (by omega), bk 99 (by omega) (by omega) (by omega)]
    rw [e1, e2]
    exact hL
  have q5 : μb 55 5 = nI l := by rw [b4 55 (by omega) (by omega)]; exact h5
  have q6 : μb 55 6 = nI m := by rw [b4 55 (by omega) (by omega)]; exact h6
  have eE : eN l m μb N = eN l m μ N := eN_of (bk 10 (by omega) (by omega) (by omega)) (bk 11 (by omega) (by omega) (by omega))
  have eS : Sk y1 μb N = Sk y1 μ N := Sk_of (bk 14 (by omega) (by omega) (by omega))
  have hr : ∀ p, p < N → μb 72 p = idR p := fun p hp => b3 p hp
  have hP : PermF (μb 72) N := idR_perm.congr hr
  obtain ⟨μe, g1, g2, g3⟩ := c_row (i := 0) (μ := μb) hLb (by omega) hl hm h2 q5 q6 hP (by omega) (fun k _ _ _ => rfl) rfl (fun p hp => by omega)
  have e9 : μe 9 6 = nI N := by rw [g2 9 (by omega)]; exact hLb.2.1
  have e72 : μe 72 = μb 72 := g2 72 (by omega)
  have e79 : μe 79 = μ 79 := by rw [g2 79 (by omega), bk 79 (by omega) (by omega) (by omega)]
  obtain ⟨ee, le, hee⟩ := eN_b hLb h2 hP
  have hE0 : eN l m μb N (μb 72) = eN l m μ N idR := by rw [eE]; exact eN_congr hr
  have cE : ∀ r s : Nat → Int32, (∀ p, p < N → r p = s p) → eN l m μ N r = eN l m μ N s := fun r s h => eN_congr h
  obtain ⟨n, hn⟩ : ∃ n, FF = n + 1 := ⟨9999999, rfl⟩
  have n1 : 5040 < n := by rw [FF_e] at hn; omega
  have start : fX8_leastOfAllRows FF y1 μs = if y1 = 0 then fX8_leastOfAllRows_83 FF (fX8_leastOfAllRows_23 FF n) y1 (nI 0) (eN l m μb N (μb 72)) μe else cal (fX3_isOrder FF 72 μe) (fun r5 m4 => if r5 = 0 then fX8_leastOfAllRows_83 FF (fX8_leastOfAllRows_23 FF n) y1 (nI 0) (eN l m μb N (μb 72)) m4 else fX8_leastOfAllRows_109 FF (fX8_leastOfAllRows_23 FF n) y1 2147483647 (nI 0) m4) := by
    unfold fX8_leastOfAllRows
    rw [show μs 9 6 = nI N from by rw [hs 9 (by omega)]; exact hL.2.1, b1, cav_n]
    have : fX8_leastOfAllRows_23 FF FF y1 2147483647 0 0 μb = fX8_leastOfAllRows_23 FF (n + 1) y1 2147483647 (nI 0) (nI 0) μb := by rw [← hn]; rfl
    rw [this]
    show fX8_leastOfAllRows_23_b FF _ _ _ _ _ _ = _
    unfold fX8_leastOfAllRows_23_b
    rw [show (5040 : Int32) = nI 5040 from rfl, if_neg (nI_ge (by omega) (by omega)), if_neg (nI_pos (by omega)), g1, cal_n, if_neg (by rw [hee]; exact max_nle le)]
  have skip := c_scan (y1 := y1) (μ0 := μb) hLb h7 hl hm h2 b2 q5 q6 5040 n 0 (μb 72) (μ 79) 2147483647 μe hP (by omega) (by omega) n1 (fun k _ _ q3 => g2 k q3) e72 (fun p hp => by rw [e79]) g3
  obtain ⟨μ8, f8, a8, b8, c8⟩ := cp_x (μ := μe) (a := 72) (b := 79) (n := N) (by show N ≤ 8; omega) (by show N ≤ 40; omega)
  have recd := c_scan (y1 := y1) (μ0 := μb) hLb h7 hl hm h2 b2 q5 q6 5040 n 0 (μb 72) (μb 72) (eN l m μb N (μb 72)) μ8 hP (by omega) (by omega) n1 (fun k _ q2 q3 => by rw [c8 k q2]; exact g2 k q3) (by rw [c8 72 (by omega)]; exact e72) (fun p hp => by rw [a8 p hp, e72]) (fun p hp => by
    rw [c8 56 (by omega), c8 57 (by omega), c8 58 (by omega), c8 59 (by omega), c8 60 (by omega)]
    exact g3 p hp)
  rw [eE, eS] at skip
  rw [hE0, eE, eS] at recd
  have e83 : fX8_leastOfAllRows_83 FF (fX8_leastOfAllRows_23 FF n) y1 (nI 0) (eN l m μb N (μb 72)) μe = fX8_leastOfAllRows_109 FF (fX8_leastOfAllRows_23 FF n) y1 (eN l m μ N idR) (nI 0) μ8 := by
    unfold fX8_leastOfAllRows_83
    rw [e9, f8, hE0]
  have frame : ∀ μ' : Mem, (∀ k, k ≠ 72 → k ≠ 79 → (k < 56 ∨ 60 < k) → μ' k = μb k) → ∀ k, k ≠ 71 → k ≠ 72 → k ≠ 79 → (k < 55 ∨ 60 < k) → μ' k = μ k := fun μ' h k w1 w2 w3 w4 => by rw [h k w2 w3 (by omega), bk k (by omega) w1 w2]
  have outR : ¬ Sk y1 μ N idR → fX8_leastOfAllRows FF y1 μs = fX8_leastOfAllRows_109 FF (fX8_leastOfAllRows_23 FF n) y1 (eN l m μ N idR) (nI 0) μ8 → ∃ μ', fX8_leastOfAllRows FF y1 μs = some ((sca N (eN l m μ N) (Sk y1 μ N) (μ 79)).1, μ') ∧ (∀ p, p < N → μ' 79 p = (sca N (eN l m μ N) (Sk y1 μ N) (μ 79)).2 p) ∧ ∀ k, k ≠ 71 → k ≠ 72 → k ≠ 79 → (k < 55 ∨ 60 < k) → μ' k = μ k := fun hS he => by
    obtain ⟨μ', w1, w2, w3⟩ := recd
    obtain ⟨z1, z2⟩ := scn_congr (S := Sk y1 μ N) cE Sk.congr 5040 (μb 72) idR (eN l m μ N idR) (μb 72) idR hr hr
    have es : sca N (eN l m μ N) (Sk y1 μ N) (μ 79) = scn N (eN l m μ N) (Sk y1 μ N) 5040 idR (eN l m μ N idR) idR := if_neg hS
    rw [es, he, ← z1]
    exact ⟨μ', w1, fun p hp => (w2 p hp).trans (z2 p hp), frame μ' w3⟩
  rw [e83] at start
  by_cases y0 : y1 = 0
  · rw [if_pos y0] at start
    exact outR (fun w => w.1 y0) start
  · rw [if_neg y0] at start
    rcases c_isOrd (N := N) (k := 72) (μ := μe) (by omega) (by show N ≤ 8; omega) e9 with ⟨o1, o2⟩ | ⟨o1, o2⟩
    · rw [o2, cal_n, if_neg one_ne] at start
      have hS : Sk y1 μ N idR := ⟨y0, fun p hp => by
        have := o1 p hp
        rw [e72, g2 14 (by omega), bk 14 (by omega) (by omega) (by omega)] at this
        exact (hr p hp).symm.trans this⟩
      obtain ⟨μ', w1, w2, w3⟩ := skip
      obtain ⟨z1, z2⟩ := scn_congr (S := Sk y1 μ N) cE Sk.congr 5040 (μb 72) idR 2147483647 (μ 79) (μ 79) hr (fun _ _ => rfl)
      have es : sca N (eN l m μ N) (Sk y1 μ N) (μ 79) = scn N (eN l m μ N) (Sk y1 μ N) 5040 idR 2147483647 (μ 79) := if_pos hS
      rw [es, start, ← z1]
      exact ⟨μ', w1, fun p hp => (w2 p hp).trans (z2 p hp), frame μ' w3⟩
    · rw [o2, cal_n, if_pos rfl, e83] at start
      exact outR (fun w => o1 (fun p hp => by
        rw [e72, g2 14 (by omega), bk 14 (by omega) (by omega) (by omega), hr p hp]
        exact w.2 p hp)) start
