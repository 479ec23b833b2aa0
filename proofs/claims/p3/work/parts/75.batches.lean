/-! batches: one row goes up, the other down -/
theorem shI_ins2 {gt : Nat → Bool} {x : Int32} : ∀ (j : Nat) (g : Nat → Int32), ∃ q, q ≤ j ∧ shI gt x j g = insF q j x g ∧ (∀ p, q ≤ p → p < j → gt (tn (g p)) = true) ∧ (∀ p, p + 1 = q → ¬ gt (tn (g p)) = true)
  | 0, g => by
    obtain ⟨q, hq, e⟩ := shI_ins (gt := gt) (x := x) 0 g
    exact ⟨q, hq, e, fun p _ h => by omega, fun p h => by omega⟩
  | j + 1, g => by
    by_cases hg : gt (tn (g j)) = true
    · obtain ⟨q, hq, e, h1, h2⟩ := shI_ins2 (gt := gt) (x := x) j (upd g (j + 1) (g j))
      have a : shI gt x (j + 1) g = shI gt x j (upd g (j + 1) (g j)) := if_pos hg
      refine ⟨q, by omega, ?_, fun p p1 p2 => ?_, fun p hp => ?_⟩
      · rw [a, e]
        funext p
        unfold insF
        by_cases c1 : p < q
        · rw [if_pos c1, if_pos c1, upd_ne (by omega)]
        · rw [if_neg c1, if_neg c1]
          by_cases c2 : p = q
          · rw [if_pos c2, if_pos c2]
          · rw [if_neg c2, if_neg c2]
            by_cases c3 : p ≤ j
            · rw [if_pos c3, if_pos (by omega), upd_ne (by omega)]
            · rw [if_neg c3]
              by_cases c4 : p = j + 1
              · rw [if_pos (by omega), c4, upd_s, show j + 1 - 1 = j by omega]
              · rw [if_neg (by omega), upd_ne c4]
      · by_cases c : p = j
        · rw [c]; exact hg
        · have := h1 p p1 (by omega)
          rw [upd_ne (by omega)] at this
          exact this
      · have := h2 p hp
        rw [upd_ne (by omega)] at this
        exact this
    · refine ⟨j + 1, by omega, ?_, fun p p1 p2 => by omega, fun p hp => ?_⟩
      · have a : shI gt x (j + 1) g = upd g (j + 1) x := if_neg hg
        rw [a]
        funext p
        unfold insF
        by_cases c1 : p < j + 1
        · rw [if_pos c1, upd_ne (by omega)]
        · rw [if_neg c1]
          by_cases c2 : p = j + 1
          · rw [if_pos c2, c2, upd_s]
          · rw [if_neg c2, if_neg (by omega), upd_ne c2]
      · rw [show p = j by omega]
        exact hg
/-- the reference's row of values, the highest first -/
def dsc (b : Nat → Nat) (g : Nat → Int32) : Nat → Nat → Int32
  | 0 => g
  | n + 1 => shI (fun v => decide (v < b n)) (nI (b n)) n (dsc b g n)
theorem up_down {b : Nat → Nat} {f g g' : Nat → Int32} {N : Nat} (hN : N ≤ 40) (hf : ∀ s, s < N → b s ≤ 100000 ∧ f s = nI (b s)) : ∀ n, n ≤ N → ∃ σ : Nat → Nat, (∀ p, p < n → σ p < n ∧ srI (gtK f) g n p = nI (σ p)) ∧ (∀ p q, p ≤ q → q < n → b (σ p) ≤ b (σ q)) ∧ ∀ p, p < n → dsc b g' n p = nI (b (σ (n - 1 - p)))
  | 0, _ => ⟨fun p => p, fun p hp => by omega, fun p q _ hq => by omega, fun p hp => by omega⟩
  | n + 1, hn => by
    obtain ⟨σ, s1, s2, s3⟩ := up_down (g := g) (g' := g') hN hf n (by omega)
    obtain ⟨q, q1, q2, q3, q4⟩ := shI_ins2 (gt := fun v => gtK f v n) (x := nI n) n (srI (gtK f) g n)
    obtain ⟨r, r1, r2, r3, r4⟩ := shI_ins2 (gt := fun v => decide (v < b n)) (x := nI (b n)) n (dsc b g' n)
    have fn := hf n (by omega)
    have up : ∀ p, q ≤ p → p < n → b n < b (σ p) := fun p p1 p2 => by
      have := q3 p p1 p2
      obtain ⟨z1, z2⟩ := s1 p p2
      have fs := hf (σ p) (by omega)
      rw [z2, tn_n (by omega)] at this
      unfold gtK at this
      rw [decide_eq_true_iff, fs.2, fn.2, nI_leI (by omega) (by omega)] at this
      omega
    have lo : ∀ p, p < q → b (σ p) ≤ b n := fun p p1 => by
      have := q4 (q - 1) (by omega)
      obtain ⟨z1, z2⟩ := s1 (q - 1) (by omega)
      have fs := hf (σ (q - 1)) (by omega)
      rw [z2, tn_n (by omega)] at this
      unfold gtK at this
      rw [decide_eq_true_iff, fs.2, fn.2, nI_leI (by omega) (by omega)] at this
      have := s2 p (q - 1) (by omega) (by omega)
      omega
    have dlo : ∀ p, r ≤ p → p < n → b (σ (n - 1 - p)) < b n := fun p p1 p2 => by
      have := r3 p p1 p2
      have z := (s1 (n - 1 - p) (by omega)).1
      have fs := hf (σ (n - 1 - p)) (by omega)
      rw [s3 p p2, tn_n (by omega), decide_eq_true_iff] at this
      exact this
    have dup : ∀ p, p < r → b n ≤ b (σ (n - 1 - p)) := fun p p1 => by
      have := r4 (r - 1) (by omega)
      have z := (s1 (n - 1 - (r - 1)) (by omega)).1
      have fs := hf (σ (n - 1 - (r - 1))) (by omega)
      rw [s3 (r - 1) (by omega), tn_n (by omega), decide_eq_true_iff] at this
      have := s2 (n - 1 - (r - 1)) (n - 1 - p) (by omega) (by omega)
      omega
    have hr : n - q ≤ r := by
      by_cases c : n - q ≤ r
      · exact c
      · have h1 := dlo r (by omega) (by omega)
        have h2 := up (n - 1 - r) (by omega) (by omega)
        omega
    have eqv : ∀ p, n - q ≤ p → p < r → b (σ (n - 1 - p)) = b n := fun p p1 p2 => by
      have h1 := dup p p2
      have h2 := lo (n - 1 - p) (by omega)
      omega
    refine ⟨fun p => if p < q then σ p else if p = q then n else σ (p - 1), fun p hp => ?_, fun p p' h1 h2 => ?_, fun p hp => ?_⟩
    · have e : srI (gtK f) g (n + 1) p = insF q n (nI n) (srI (gtK f) g n) p := congrFun q2 p
      rw [e]
      unfold insF
      by_cases c1 : p < q
      · simp only [if_pos c1]
        exact ⟨by have := (s1 p (by omega)).1; omega, (s1 p (by omega)).2⟩
      · by_cases c2 : p = q
        · simp only [if_neg c1, if_pos c2]
          exact ⟨by omega, trivial⟩
        · simp only [if_neg c1, if_neg c2]
          rw [if_pos (by omega)]
          exact ⟨by have := (s1 (p - 1) (by omega)).1; omega, (s1 (p - 1) (by omega)).2⟩
    · show b (if p < q then σ p else if p = q then n else σ (p - 1)) ≤ b (if p' < q then σ p' else if p' = q then n else σ (p' - 1))
      by_cases c1 : p < q
      · rw [if_pos c1]
        by_cases d1 : p' < q
        · rw [if_pos d1]; exact s2 p p' h1 (by omega)
        · rw [if_neg d1]
          by_cases d2 : p' = q
          · rw [if_pos d2]; exact lo p c1
          · rw [if_neg d2]
            have := lo p c1
            have := up (p' - 1) (by omega) (by omega)
            omega
      · rw [if_neg c1, if_neg (show ¬ p' < q by omega)]
        by_cases c2 : p = q
        · rw [if_pos c2]
          by_cases d2 : p' = q
          · rw [if_pos d2]; omega
          · rw [if_neg d2]
            have := up (p' - 1) (by omega) (by omega)
            omega
        · rw [if_neg c2, if_neg (show ¬ p' = q by omega)]
          exact s2 (p - 1) (p' - 1) (by omega) (by omega)
    · have e : dsc b g' (n + 1) p = insF r n (nI (b n)) (dsc b g' n) p := congrFun r2 p
      rw [e]
      show insF r n (nI (b n)) (dsc b g' n) p = nI (b (if n + 1 - 1 - p < q then σ (n + 1 - 1 - p) else if n + 1 - 1 - p = q then n else σ (n + 1 - 1 - p - 1)))
      rw [show n + 1 - 1 - p = n - p by omega]
      unfold insF
      by_cases c1 : p < n - q
      · rw [if_pos (by omega), if_neg (show ¬ n - p < q by omega), if_neg (show ¬ n - p = q by omega), s3 p (by omega), show n - p - 1 = n - 1 - p by omega]
      by_cases c2 : p = n - q
      · rw [if_neg (show ¬ n - p < q by omega), if_pos (show n - p = q by omega)]
        by_cases c3 : p < r
        · rw [if_pos c3, s3 p (by omega), eqv p (by omega) c3]
        · rw [if_neg c3, if_pos (by omega)]
      · rw [if_pos (show n - p < q by omega)]
        by_cases c3 : p < r
        · have e1 := eqv p (by omega) c3
          have e2 := eqv (p - 1) (by omega) (by omega)
          rw [show n - 1 - (p - 1) = n - p by omega] at e2
          rw [if_pos c3, s3 p (by omega), e1, e2]
        · rw [if_neg c3]
          by_cases c4 : p = r
          · have e2 := eqv (p - 1) (by omega) (by omega)
            rw [show n - 1 - (p - 1) = n - p by omega] at e2
            rw [if_pos c4, e2]
          · rw [if_neg c4, if_pos (by omega), s3 (p - 1) (by omega), show n - 1 - (p - 1) = n - p by omega]
