/-! putting in order, one behind the other -/
def tn (v : Int32) : Nat := v.toInt.toNat
theorem tn_n {s : Nat} (h : s < 2 ^ 31) : tn (nI s) = s := by
  unfold tn
  rw [nI_toInt h]
  omega
/-- x goes in at place j or before, behind the last that is not to come behind it -/
def shI (gt : Nat → Bool) (x : Int32) : Nat → (Nat → Int32) → Nat → Int32
  | 0, g => upd g 0 x
  | j + 1, g => if gt (tn (g j)) then shI gt x j (upd g (j + 1) (g j)) else upd g (j + 1) x
def srI (gt : Nat → Nat → Bool) (g : Nat → Int32) : Nat → Nat → Int32
  | 0 => g
  | n + 1 => shI (fun v => gt v n) (nI n) n (srI gt g n)
def insF (q n : Nat) (x : Int32) (g : Nat → Int32) : Nat → Int32 := fun p => if p < q then g p else if p = q then x else if p ≤ n then g (p - 1) else g p
theorem shI_ins {gt : Nat → Bool} {x : Int32} : ∀ (j : Nat) (g : Nat → Int32), ∃ q, q ≤ j ∧ shI gt x j g = insF q j x g
  | 0, g => by
    refine ⟨0, by omega, funext fun p => ?_⟩
    show upd g 0 x p = _
    unfold insF
    by_cases h : p = 0
    · rw [h, upd_s, if_neg (by omega), if_pos rfl]
    · rw [upd_ne h, if_neg (by omega), if_neg h, if_neg (by omega)]
  | j + 1, g => by
    by_cases hg : gt (tn (g j)) = true
    · obtain ⟨q, hq, e⟩ := shI_ins (gt := gt) (x := x) j (upd g (j + 1) (g j))
      refine ⟨q, by omega, ?_⟩
      have : shI gt x (j + 1) g = shI gt x j (upd g (j + 1) (g j)) := if_pos hg
      rw [this, e]
      funext p
      unfold insF
      by_cases h1 : p < q
      · rw [if_pos h1, if_pos h1, upd_ne (by omega)]
      · rw [if_neg h1, if_neg h1]
        by_cases h2 : p = q
        · rw [if_pos h2, if_pos h2]
        · rw [if_neg h2, if_neg h2]
          by_cases h3 : p ≤ j
          · rw [if_pos h3, if_pos (by omega), upd_ne (by omega)]
          · rw [if_neg h3]
            by_cases h4 : p = j + 1
            · rw [if_pos (by omega), h4, upd_s, show j + 1 - 1 = j by omega]
            · rw [if_neg (by omega), upd_ne h4]
    · refine ⟨j + 1, by omega, ?_⟩
      have : shI gt x (j + 1) g = upd g (j + 1) x := if_neg hg
      rw [this]
      funext p
      unfold insF
      by_cases h1 : p < j + 1
      · rw [if_pos h1, upd_ne (by omega)]
      · rw [if_neg h1]
        by_cases h2 : p = j + 1
        · rw [if_pos h2, h2, upd_s]
        · rw [if_neg h2, if_neg (by omega), upd_ne h2]
theorem PermF.ins {g : Nat → Int32} {n q : Nat} (h : PermF g n) (hq : q ≤ n) : PermF (insF q n (nI n) g) (n + 1) := by
  obtain ⟨σ, τ, h1, h2⟩ := h
  refine ⟨fun p => if p < q then σ p else if p = q then n else σ (p - 1), fun v => if v = n then q else if τ v < q then τ v else τ v + 1, fun p hp => ?_, fun v hv => ?_⟩
  · unfold insF
    by_cases c1 : p < q
    · obtain ⟨a, b, c⟩ := h1 p (by omega)
      simp only [if_pos c1]
      refine ⟨by omega, b, ?_⟩
      rw [if_neg (by omega), c, if_pos c1]
    · by_cases c2 : p = q
      · simp only [if_neg c1, if_pos c2]
        exact ⟨by omega, trivial, by rw [if_pos trivial]; omega⟩
      · obtain ⟨a, b, c⟩ := h1 (p - 1) (by omega)
        simp only [if_neg c1, if_neg c2]
        rw [if_pos (by omega)]
        refine ⟨by omega, b, ?_⟩
        rw [if_neg (by omega), c, if_neg (by omega)]
        omega
  · by_cases c1 : v = n
    · simp only [if_pos c1]
      exact ⟨by omega, by rw [if_neg (by omega), if_pos trivial]; omega⟩
    · obtain ⟨a, b⟩ := h2 v (by omega)
      simp only [if_neg c1]
      by_cases c2 : τ v < q
      · simp only [if_pos c2]
        exact ⟨by omega, b⟩
      · simp only [if_neg c2]
        refine ⟨by omega, ?_⟩
        rw [if_neg (by omega), if_neg (by omega), show τ v + 1 - 1 = τ v by omega]
        exact b
theorem srI_perm {gt : Nat → Nat → Bool} {g : Nat → Int32} : ∀ n, PermF (srI gt g n) n
  | 0 => ⟨fun i => i, fun i => i, fun i hi => by omega, fun i hi => by omega⟩
  | n + 1 => by
    obtain ⟨q, hq, e⟩ := shI_ins (gt := fun v => gt v n) (x := nI n) n (srI gt g n)
    show PermF (shI (fun v => gt v n) (nI n) n (srI gt g n)) (n + 1)
    rw [e]
    exact (srI_perm n).ins hq
theorem shI_out {gt : Nat → Bool} {x : Int32} {j p : Nat} {g : Nat → Int32} (h : j < p) : shI gt x j g p = g p := by
  obtain ⟨q, hq, e⟩ := shI_ins (gt := gt) (x := x) j g
  rw [e]
  unfold insF
  rw [if_neg (by omega), if_neg (by omega), if_neg (by omega)]
theorem srI_out {gt : Nat → Nat → Bool} {g : Nat → Int32} : ∀ {n p : Nat}, n ≤ p → srI gt g n p = g p
  | 0, _, _ => rfl
  | n + 1, p, h => by
    show shI _ _ n (srI gt g n) p = _
    rw [shI_out (by omega), srI_out (by omega)]
theorem shI_congr {gt gt' : Nat → Bool} {x : Int32} : ∀ (j : Nat) (g g' : Nat → Int32), (∀ p, p < j → g p = g' p ∧ gt (tn (g p)) = gt' (tn (g p))) → ∀ p, p ≤ j → shI gt x j g p = shI gt' x j g' p
  | 0, g, g', _, p, hp => by
    obtain rfl : p = 0 := by omega
    show upd g 0 x 0 = upd g' 0 x 0
    rw [upd_s, upd_s]
  | j + 1, g, g', h, p, hp => by
    obtain ⟨e1, e2⟩ := h j (by omega)
    by_cases hg : gt (tn (g j)) = true
    · have a : shI gt x (j + 1) g = shI gt x j (upd g (j + 1) (g j)) := if_pos hg
      have b : shI gt' x (j + 1) g' = shI gt' x j (upd g' (j + 1) (g' j)) := if_pos (by rw [← e1, ← e2]; exact hg)
      rw [a, b]
      by_cases hj : p ≤ j
      · refine shI_congr j _ _ (fun p hp => ?_) p hj
        rw [upd_ne (by omega), upd_ne (by omega)]
        exact h p (by omega)
      · rw [shI_out (by omega), shI_out (by omega), show p = j + 1 by omega, upd_s, upd_s, e1]
    · have a : shI gt x (j + 1) g = upd g (j + 1) x := if_neg hg
      have b : shI gt' x (j + 1) g' = upd g' (j + 1) x := if_neg (by rw [← e1, ← e2]; exact hg)
      rw [a, b]
      by_cases hj : p = j + 1
      · rw [hj, upd_s, upd_s]
      · rw [upd_ne hj, upd_ne hj]
        exact (h p (by omega)).1
theorem srI_congr {gt gt' : Nat → Nat → Bool} {g g' : Nat → Int32} : ∀ {n : Nat}, n < 2 ^ 31 → (∀ s x, s < x → x < n → gt s x = gt' s x) → ∀ p, p < n → srI gt g n p = srI gt' g' n p
  | 0, _, _, p, hp => by omega
  | n + 1, hn, h, p, hp => by
    obtain ⟨σ, τ, h1, h2⟩ := srI_perm (gt := gt) (g := g) n
    refine shI_congr n _ _ (fun p hp => ⟨srI_congr (by omega) (fun s x a b => h s x a (by omega)) p hp, ?_⟩) p (by omega)
    obtain ⟨a, b, c⟩ := h1 p hp
    rw [b, tn_n (by omega)]
    exact h (σ p) n a (by omega)
/-- the class's rank -/
def gtK (f : Nat → Int32) (s x : Nat) : Bool := decide (¬ f s ≤ f x)
theorem c_rank_in {F k0 k2 N x : Nat} {μ : Mem} (hk : k0 ≠ k2) (hx : x < ln k2) (h0 : x < ln k0) (rec2 : Int32 → Int32 → Mem → Option Mem) : ∀ (j n : Nat) (g : Nat → Int32), j ≤ x → j < n → (∀ p, p < j → ∃ s, s < x ∧ g p = nI s) → fX8_rank_10 F k0 k2 rec2 n (nI N) (nI x) (nI j) (upM μ k2 g) = rec2 (nI N) (nI (x + 1)) (upM μ k2 (shI (fun v => gtK (μ k0) v x) (nI x) j g)) := by
  have l0 := ln_le k0
  have l2 := ln_le k2
  intro j
  induction j with
  | zero =>
    intro n g hj hn hg
    obtain ⟨n, rfl⟩ : ∃ n', n = n' + 1 := ⟨n - 1, by omega⟩
    show fX8_rank_10_b F k0 k2 rec2 _ _ _ _ _ = _
    unfold fX8_rank_10_b fX8_rank_45
    rw [if_pos (show nI 0 ≤ 0 by decide), wr_n (by omega), nI_add1, upM_upM, upM_self]
    rfl
  | succ j ih =>
    intro n g hj hn hg
    obtain ⟨n, rfl⟩ : ∃ n', n = n' + 1 := ⟨n - 1, by omega⟩
    obtain ⟨s, hs, es⟩ := hg j (by omega)
    have e : shI (fun v => gtK (μ k0) v x) (nI x) (j + 1) g = if gtK (μ k0) s x = true then shI (fun v => gtK (μ k0) v x) (nI x) j (upd g (j + 1) (g j)) else upd g (j + 1) (nI x) := by
      show (if gtK (μ k0) (tn (g j)) x = true then _ else _) = _
      rw [es, tn_n (by omega)]
    show fX8_rank_10_b F k0 k2 rec2 _ _ _ _ _ = _
    unfold fX8_rank_10_b fX8_rank_45
    rw [show (0 : Int32) = nI 0 from rfl, if_neg (nI_ge (by omega) (by omega)), show (1 : Int32) = nI 1 from rfl, nI_sub (by omega), show j + 1 - 1 = j by omega, rd_n (by omega), upM_self, es, rd_n (by omega), upM_ne hk, rd_n (by omega), upM_ne hk, e]
    by_cases c : μ k0 s ≤ μ k0 x
    · have hf : ¬ gtK (μ k0) s x = true := by
        unfold gtK
        rw [decide_eq_true_iff]
        exact fun q => q c
      rw [if_pos c, if_neg hf, wr_n (by omega), upM_upM, upM_self, show nI x + nI 1 = nI (x + 1) from nI_add1 x]
    · have hf : gtK (μ k0) s x = true := by
        unfold gtK
        rw [decide_eq_true_iff]
        exact c
      rw [if_neg c, if_pos hf, rd_n (by omega), upM_self, es, wr_n (by omega), upM_upM, upM_self, show nI (j + 1) + -nI 1 = nI j from nI_addm1 j]
      exact ih n _ (by omega) (by omega) (fun p hp => by rw [upd_ne (by omega)]; exact hg p (by omega))
theorem c_rank {k0 k2 N : Nat} {μ : Mem} (hk : k0 ≠ k2) (h2 : N ≤ ln k2) (h0 : N ≤ ln k0) : fX8_rank FF k0 (nI N) k2 μ = some (upM μ k2 (srI (gtK (μ k0)) (μ k2) N)) := by
  have l0 := ln_le k0
  have loop : ∀ (d n i : Nat), i + d = N → d < n → fX8_rank_2 FF k0 k2 n (nI N) (nI i) (upM μ k2 (srI (gtK (μ k0)) (μ k2) i)) = some (upM μ k2 (srI (gtK (μ k0)) (μ k2) N)) := by
    intro d
    induction d with
    | zero =>
      intro n i hi hn
      obtain ⟨n, rfl⟩ : ∃ n', n = n' + 1 := ⟨n - 1, by omega⟩
      show fX8_rank_2_b FF k0 k2 _ _ _ _ = _
      unfold fX8_rank_2_b
      rw [if_pos (nI_le (by omega) (by omega)), show i = N by omega]
    | succ d ih =>
      intro n i hi hn
      obtain ⟨n, rfl⟩ : ∃ n', n = n' + 1 := ⟨n - 1, by omega⟩
      show fX8_rank_2_b FF k0 k2 _ _ _ _ = _
      unfold fX8_rank_2_b
      obtain ⟨σ, τ, p1, p2⟩ := srI_perm (gt := gtK (μ k0)) (g := μ k2) i
      rw [if_neg (nI_ge (by omega) (by omega)), c_rank_in hk (by omega) (by omega) _ i FF _ (by omega) (by rw [FF_e]; omega) (fun p hp => ⟨σ p, (p1 p hp).1, (p1 p hp).2.1⟩)]
      exact ih n (i + 1) (by omega) (by omega)
  have := loop N FF 0 (by omega) (by rw [FF_e]; omega)
  rw [show srI (gtK (μ k0)) (μ k2) 0 = μ k2 from rfl, upM_id] at this
  exact this
