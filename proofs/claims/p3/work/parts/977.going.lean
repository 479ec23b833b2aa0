/-! what going costs: at once, and by heats; the row of a ring -/
theorem pS_one {p : Nat → Int32} {x : Nat} (h : ∀ s, s < 8 → p s = 1) : pS p x 8 = nI x := by
  have e : ∀ n, n ≤ 8 → pS p x n = nI (smN (fun s => part s x) n) := fun n => by
    induction n with
    | zero => intro _; rfl
    | succ n ih =>
      intro hn
      show pS p x n + p n * nI (part n x) = nI (smN (fun s => part s x) n + part n x)
      rw [ih (by omega), h n (by omega), i_1m, nI_add]
  rw [e 8 (by omega)]
  have : smN (fun s => part s x) 8 = x := by
    show 0 + part 0 x + part 1 x + part 2 x + part 3 x + part 4 x + part 5 x + part 6 x + part 7 x = x
    have p7 : part 7 x = x - 350 := by unfold part; rw [if_pos rfl]
    have pn : ∀ s, s < 7 → part s x = min x (50 * s + 50) - 50 * s := fun s hs => by unfold part; rw [if_neg (by omega)]
    rw [p7, pn 0 (by omega), pn 1 (by omega), pn 2 (by omega), pn 3 (by omega), pn 4 (by omega), pn 5 (by omega), pn 6 (by omega)]
    omega
  rw [this]
theorem pS_zero {p : Nat → Int32} {x : Nat} (h : ∀ s, s < 8 → p s = 0) : ∀ n, n ≤ 8 → pS p x n = 0
  | 0, _ => rfl
  | n + 1, hn => by
    show pS p x n + p n * nI (part n x) = 0
    rw [pS_zero h n (by omega), h n (by omega), i_0m]
    rfl
def G1 (a b : Nat) : Int32 := if b ≤ a then 0 else nI (b - a)
theorem go_wait {μ0 : Mem} (h : PR μ0) : GO 76 100000 G1 μ0 := fun μ hμ a b ha hb => by
  have e7 : ∀ s, s < 8 → μ 77 s = 1 := fun s hs => by rw [hμ 77 (by omega)]; exact (h s hs).2.2.2.2.1
  have e8 : ∀ s, s < 8 → μ 78 s = 0 := fun s hs => by rw [hμ 78 (by omega)]; exact (h s hs).2.2.2.2.2
  unfold fX4_going G1
  rw [ifle (by omega) (by omega)]
  by_cases c : b ≤ a
  · rw [if_pos c, if_pos c, show 76 + 1 + 1 = 78 from rfl, c_below rfl (by omega), cal_n, c_below rfl (by omega), cal_n, pS_zero e8 8 (by omega), pS_zero e8 8 (by omega)]
    rfl
  · rw [if_neg c, if_neg c, show 76 + 1 + 0 = 77 from rfl, c_below rfl (by omega), cal_n, c_below rfl (by omega), cal_n, pS_one e7, pS_one e7, nI_sub (by omega)]
theorem m_btw0 {lo hi : Nat} {y3 y4 : Int32} {μ : Mem} (h22 : μ 89 22 = 0) (hl : lo < 2 ^ 31) (hh : hi < 2 ^ 31) : fX9_between FF (nI lo) (nI hi) y3 y4 μ = some (if hi ≤ lo then 0 else y3 * (nI hi - nI lo), μ) := by
  obtain ⟨n, hn⟩ : ∃ n, FF = n + 1 := ⟨9999999, rfl⟩
  have e : fX9_between FF (nI lo) (nI hi) y3 y4 μ = fX9_between_6 FF (n + 1) (nI lo) (nI hi) y3 y4 0 (nI lo) μ := by rw [← hn]; rfl
  rw [e]
  show fX9_between_6_b FF _ _ _ _ _ _ _ μ = _
  unfold fX9_between_6_b fX9_between_56
  by_cases c : hi ≤ lo
  · have q : nI hi ≤ nI lo := nI_le c (by omega)
    rw [if_pos q, if_pos h22, if_pos q, if_pos c]
  · have q : ¬ nI hi ≤ nI lo := nI_ge (by omega) (by omega)
    rw [if_neg q, if_pos h22, if_pos h22, if_neg q, if_neg c]
theorem gm_wait {ν0 : Mem} (h22 : ν0 89 22 = 0) : GM 100000 G1 ν0 := fun μ hμ a b ha hb => by
  have e22 : μ 89 22 = 0 := by rw [hμ.2 22 (by decide)]; exact h22
  refine ⟨?_, fun hab => ?_⟩
  · unfold fX9_costOf G1
    rw [ifle (by omega) (by omega)]
    by_cases c : b ≤ a
    · rw [if_pos c, if_pos c, m_btw0 e22 (by omega) (by omega), cal_n, i_0m]
      by_cases c2 : a ≤ b
      · rw [if_pos c2]
      · rw [if_neg c2]
    · rw [if_neg c, if_neg c, m_btw0 e22 (by omega) (by omega), cal_n, if_neg c, i_1m, nI_sub (by omega)]
  · rw [m_btw0 e22 (by omega) (by omega), if_neg (by omega), i_1m, nI_sub (by omega)]
    unfold G1
    rw [if_neg (by omega), if_pos (by omega), i_a0]
theorem go_heat {μ0 : Mem} : GO 73 399 (goC (μ0 74) (μ0 75)) μ0 := fun μ hμ a b ha hb => by
  rw [c_going ha hb, hμ 74 (by omega), hμ 75 (by omega)]
theorem sumF_two {f g : Nat → Int32} : ∀ n, sumF (fun j => f j + g j) n = sumF f n + sumF g n
  | 0 => (i_a0 _).symm
  | n + 1 => by
    show sumF (fun j => f j + g j) n + (f n + g n) = (sumF f n + f n) + (sumF g n + g n)
    rw [sumF_two n, i_aa, i_aa]
    congr 1
    rw [← i_aa, ← i_aa, i_ac (sumF g n) (f n)]
theorem gm_heat {μ0 ν0 : Mem} (hp : ∀ i, i < 8 → μ0 74 i = ν0 101 i ∧ μ0 75 i = ν0 102 i) (h22 : ¬ ν0 89 22 = 0) : GM 399 (goC (μ0 74) (μ0 75)) ν0 := fun μ hμ a b ha hb => by
  have e22 : ¬ μ 89 22 = 0 := by rw [hμ.2 22 (by decide)]; exact h22
  have e1 : μ 101 = ν0 101 := hμ.1 101 (by omega) (by omega)
  have e2 : μ 102 = ν0 102 := hμ.1 102 (by omega) (by omega)
  have eG : ∀ a b, a ≤ 399 → b ≤ 399 → goC (μ 101) (μ 102) a b = goC (μ0 74) (μ0 75) a b := fun a b ha hb => by
    rw [e1, e2]
    exact (goC_congr ha hb hp).symm
  refine ⟨by rw [m_costOf ha hb e22, eG a b ha hb], fun hab => ?_⟩
  rw [m_btw (by omega) (by omega) e22, ← eG a b ha hb, ← eG b a hb ha]
  unfold goC
  rw [if_neg (by omega), if_pos (by omega)]
  have s1 := sumF_add (f := fun u => μ 101 (u / 50)) (a := a) (b - a)
  have s2 := sumF_add (f := fun u => μ 102 (u / 50)) (a := a) (b - a)
  rw [show a + (b - a) = b by omega] at s1 s2
  have e3 : sumF (fun j => (1 : Int32) * μ 101 ((a + j) / 50) + 1 * μ 102 ((a + j) / 50)) (b - a) = sumF (fun j => μ 101 ((a + j) / 50) + μ 102 ((a + j) / 50)) (b - a) := sumF_congr (fun i _ => by rw [i_1m, i_1m])
  rw [e3, sumF_two]
  unfold CC
  rw [s1, s2, i_as, i_as]
theorem c_rowF {P n s : Nat} {π : Nat → Nat} {μ : Mem} (hP : P ≤ 41) (hn : n ≤ 40) (hp : PB P π) (hs : s < P) (h66 : ∀ x, x < P → μ 66 x = nI (π x)) : ∃ μ', fX5_rowFrom FF (nI s) 79 (nI n) μ = some μ' ∧ (∀ c, c ≠ 79 → μ' c = μ c) ∧ ∀ j, j < n → μ' 79 j = nI (itr π j s) := by
  have loop : ∀ (d k i : Nat) (ν : Mem), i + d = n → d < k → (∀ c, c ≠ 79 → ν c = μ c) → (∀ j, j < i → ν 79 j = nI (itr π j s)) → ∃ μ', fX5_rowFrom_6 FF 79 k (nI n) (nI (itr π i s)) (nI i) ν = some μ' ∧ (∀ c, c ≠ 79 → μ' c = μ c) ∧ ∀ j, j < n → μ' 79 j = nI (itr π j s) := by
    intro d
    induction d with
    | zero =>
      intro k i ν hi hk q1 q2
      obtain ⟨k, rfl⟩ : ∃ k', k = k' + 1 := ⟨k - 1, by omega⟩
      obtain rfl : i = n := by omega
      refine ⟨ν, ?_, q1, q2⟩
      show fX5_rowFrom_6_b FF _ _ _ _ _ ν = _
      unfold fX5_rowFrom_6_b
      rw [if_pos (nI_le (by omega) (by omega))]
    | succ d ih =>
      intro k i ν hi hk q1 q2
      obtain ⟨k, rfl⟩ : ∃ k', k = k' + 1 := ⟨k - 1, by omega⟩
      have hl := itr_lt hp hs i
      obtain ⟨m1, f1, a1, b1, g1⟩ := wr_x (μ := ν) (k := 79) (i := i) (nI (itr π i s)) (by show i < 40; omega)
      have step : fX5_rowFrom_6 FF 79 (k + 1) (nI n) (nI (itr π i s)) (nI i) ν = fX5_rowFrom_6 FF 79 k (nI n) (nI (itr π (i + 1) s)) (nI (i + 1)) m1 := by
        show fX5_rowFrom_6_b FF _ _ _ _ _ ν = _
        unfold fX5_rowFrom_6_b
        rw [if_neg (nI_ge (by omega) (by omega)), f1, rd_n (by show itr π i s < 41; omega), g1 66 (by omega), q1 66 (by omega), h66 _ hl, nI_add1]
        rfl
      rw [step]
      refine ih k (i + 1) m1 (by omega) (by omega) (fun c hc => by rw [g1 c hc]; exact q1 c hc) (fun j hj => ?_)
      by_cases e : j = i
      · rw [e, a1]
      · rw [b1 j e]; exact q2 j (by omega)
  exact loop n FF 0 μ (by omega) (by rw [FF_e]; omega) (fun _ _ => rfl) (fun j hj => by omega)
theorem m_rowF {P n s : Nat} {π : Nat → Nat} {μ : Mem} (hP : P ≤ 41) (hn : n ≤ 40) (hp : PB P π) (hs : s < P) (h94 : μ 94 0 = nI n) (h110 : ∀ x, x < P → μ 110 x = nI (π x)) : ∃ μ', fX9_roundFrom FF (nI s) μ = some μ' ∧ (∀ j, j < n → μ' 100 j = nI (itr π j s)) ∧ μ' 89 12 = nI n ∧ μ' 89 14 = 1 ∧ μ' 89 15 = 1 ∧ (∀ j, j ≠ 12 → j ≠ 14 → j ≠ 15 → μ' 89 j = μ 89 j) ∧ ∀ c, c ≠ 89 → c ≠ 100 → c ≠ 105 → μ' c = μ c := by
  have loop : ∀ (d k i : Nat) (ν : Mem), i + d = n → d < k → (∀ c, c ≠ 105 → ν c = μ c) → (∀ j, j < i → ν 105 j = nI (itr π j s)) → ∃ μ', fX9_roundFrom_4 FF k (nI (itr π i s)) (nI i) ν = some μ' ∧ (∀ j, j < n → μ' 100 j = nI (itr π j s)) ∧ μ' 89 12 = nI n ∧ μ' 89 14 = 1 ∧ μ' 89 15 = 1 ∧ (∀ j, j ≠ 12 → j ≠ 14 → j ≠ 15 → μ' 89 j = μ 89 j) ∧ ∀ c, c ≠ 89 → c ≠ 100 → c ≠ 105 → μ' c = μ c := by
    intro d
    induction d with
    | zero =>
      intro k i ν hi hk q1 q2
      obtain ⟨k, rfl⟩ : ∃ k', k = k' + 1 := ⟨k - 1, by omega⟩
      obtain rfl : i = n := by omega
      have z : ν 94 0 = nI i := by rw [q1 94 (by omega)]; exact h94
      obtain ⟨μ', w1, w2, w3, w4, w5, w6, w7⟩ := m_finds (N := i) (μ := ν) hn z
      refine ⟨μ', ?_, fun j hj => by rw [w2 j hj]; exact q2 j hj, w3, w4, w5, fun j j1 j2 j3 => by rw [w6 j j1 j2 j3, q1 89 (by omega)], fun c c1 c2 c3 => by rw [w7 c c1 c2, q1 c c3]⟩
      show fX9_roundFrom_4_b FF _ _ _ ν = _
      unfold fX9_roundFrom_4_b
      rw [show (0 : Int32) = nI 0 from rfl, rd_n (by decide), z, if_pos (nI_le (by omega) (by omega)), w1, cav_n]
    | succ d ih =>
      intro k i ν hi hk q1 q2
      obtain ⟨k, rfl⟩ : ∃ k', k = k' + 1 := ⟨k - 1, by omega⟩
      have hl := itr_lt hp hs i
      obtain ⟨m1, f1, a1, b1, g1⟩ := wr_x (μ := ν) (k := 105) (i := i) (nI (itr π i s)) (by show i < 40; omega)
      have step : fX9_roundFrom_4 FF (k + 1) (nI (itr π i s)) (nI i) ν = fX9_roundFrom_4 FF k (nI (itr π (i + 1) s)) (nI (i + 1)) m1 := by
        show fX9_roundFrom_4_b FF _ _ _ ν = _
        unfold fX9_roundFrom_4_b
        rw [show (0 : Int32) = nI 0 from rfl, rd_n (by decide), q1 94 (by omega), h94, if_neg (nI_ge (by omega) (by omega)), f1, rd_n (by show itr π i s < 41; omega), g1 110 (by omega), q1 110 (by omega), h110 _ hl, nI_add1]
        rfl
      rw [step]
      refine ih k (i + 1) m1 (by omega) (by omega) (fun c hc => by rw [g1 c hc]; exact q1 c hc) (fun j hj => ?_)
      by_cases e : j = i
      · rw [e, a1]
      · rw [b1 j e]; exact q2 j (by omega)
  exact loop n FF 0 μ (by omega) (by rw [FF_e]; omega) (fun _ _ => rfl) (fun j hj => by omega)
theorem PermF.of_inj {N : Nat} {ρ : Nat → Nat} (h1 : ∀ i, i < N → ρ i < N) (h2 : ∀ i j, i < j → j < N → ρ i ≠ ρ j) : PermF (fun i => nI (ρ i)) N := by
  have sur : ∀ v, v < N → ∃ i, i < N ∧ ρ i = v := fun v hv => by
    by_cases c : ∃ i, i < N ∧ ρ i = v
    · exact c
    · exfalso
      have := pig (P := N) (ρ := fun i => if i < N then ρ i else v) (N + 1) (fun i hi => by
        show (if i < N then ρ i else v) < N
        by_cases q : i < N
        · rw [if_pos q]; exact h1 i q
        · rw [if_neg q]; exact hv) (fun i j hij hj => by
        show (if i < N then ρ i else v) ≠ (if j < N then ρ j else v)
        rw [if_pos (by omega)]
        by_cases q : j < N
        · rw [if_pos q]; exact h2 i j hij q
        · rw [if_neg q]; exact fun e => c ⟨i, by omega, e⟩)
      omega
  refine ⟨ρ, fun v => if hv : v < N then Classical.choose (sur v hv) else 0, fun i hi => ⟨h1 i hi, rfl, ?_⟩, fun v hv => ?_⟩
  · have hv := h1 i hi
    have s := Classical.choose_spec (sur (ρ i) hv)
    simp only [dif_pos hv]
    by_cases c : Classical.choose (sur (ρ i) hv) = i
    · exact c
    · exfalso
      by_cases d : Classical.choose (sur (ρ i) hv) < i
      · exact h2 _ i d hi s.2
      · exact h2 i _ (by omega) s.1 s.2.symm
  · have s := Classical.choose_spec (sur v hv)
    simp only [dif_pos hv]
    exact s
