theorem nI_div50 {i : Nat} (h : i < 2 ^ 31) : nI i / 50 = nI (i / 50) := by
  apply Int32.toInt_inj.mp
  rw [Int32.toInt_div_of_ne_right _ _ (by decide), nI_toInt h, nI_toInt (by omega), show (50 : Int32).toInt = 50 from rfl, Int.tdiv_eq_ediv_of_nonneg (by omega)]
  omega
theorem imax_sub {a b : Nat} (ha : a < 2 ^ 31) (hb : b < 2 ^ 31) : imax 0 (nI a - nI b) = nI (a - b) := by
  have ea : (nI a).toInt = a := nI_toInt ha
  have eb : (nI b).toInt = b := nI_toInt hb
  have es : (nI a - nI b).toInt = (a : Int) - b := by rw [sub_toInt (by omega) (by omega), ea, eb]
  unfold imax
  by_cases h : 0 < nI a - nI b
  · rw [if_pos h, nI_sub]
    rw [Int32.lt_iff_toInt_lt, es, toInt_0] at h
    omega
  · rw [if_neg h]
    rw [Int32.lt_iff_toInt_lt, es, toInt_0] at h
    rw [show a - b = 0 by omega]
    rfl
def part (s x : Nat) : Nat := (if s = 7 then x else min x (50 * s + 50)) - 50 * s
def pS (p : Nat → Int32) (x n : Nat) : Int32 := sumF (fun s => p s * nI (part s x)) n
theorem c_below_loop {F k x : Nat} {μ : Mem} (hk : ln k = 8) (hx : x < 2 ^ 30) : ∀ (d n i : Nat), i + d = 8 → d < n → fX4_below_4 F k n (nI x) (pS (μ k) x i) (nI i) μ = some (pS (μ k) x 8, μ) := by
  intro d
  induction d with
  | zero =>
    intro n i hi hn
    obtain ⟨n, rfl⟩ : ∃ n', n = n' + 1 := ⟨n - 1, by omega⟩
    obtain rfl : i = 8 := by omega
    show fX4_below_4_b F k _ _ _ _ μ = _
    unfold fX4_below_4_b
    rw [if_pos (show (8 : Int32) ≤ nI 8 by decide)]
  | succ d ih =>
    intro n i hi hn
    obtain ⟨n, rfl⟩ : ∃ n', n = n' + 1 := ⟨n - 1, by omega⟩
    have e : ∀ z, z < 2 ^ 31 → z = (if i = 7 then x else min x (50 * i + 50)) → fX4_below_37 F k (fX4_below_4 F k n) (nI x) (pS (μ k) x i) (nI i) (nI i * nI 50) (nI z) μ = some (pS (μ k) x 8, μ) := by
      intro z hz1 hz
      have ep : pS (μ k) x i + μ k i * nI (z - i * 50) = pS (μ k) x (i + 1) := by
        show _ = pS (μ k) x i + μ k i * nI (part i x)
        unfold part
        rw [← hz, show i * 50 = 50 * i by omega]
      unfold fX4_below_37
      rw [rd_n (by omega), pk_mul, imax_sub hz1 (by omega), nI_add1, ep]
      exact ih n (i + 1) (by omega) (by omega)
    show fX4_below_4_b F k _ _ _ _ μ = _
    unfold fX4_below_4_b
    rw [show (8 : Int32) = nI 8 from rfl, if_neg (nI_ge (by omega) (by omega)), nI_add1, ifle (by omega) (by omega), show (50 : Int32) = nI 50 from rfl]
    by_cases c : 8 ≤ i + 1
    · rw [if_pos c]
      exact e x (by omega) (by rw [if_pos (show i = 7 by omega)])
    · rw [if_neg c, show nI i * nI 50 + nI 50 = nI (50 * i + 50) from by rw [pk_mul, nI_add, show i * 50 = 50 * i by omega], imin_n (by omega) (by omega)]
      exact e (min x (50 * i + 50)) (by omega) (by rw [if_neg (show ¬ i = 7 by omega)])
theorem c_below {k x : Nat} {μ : Mem} (hk : ln k = 8) (hx : x < 2 ^ 30) : fX4_below FF k (nI x) μ = some (pS (μ k) x 8, μ) :=
  c_below_loop hk hx 8 FF 0 (by omega) (by rw [FF_e]; omega)
theorem pS_s {p : Nat → Int32} {x : Nat} (hx : x < 400) : ∀ n, n ≤ 8 → pS p (x + 1) n = pS p x n + if x / 50 < n then p (x / 50) else 0
  | 0, _ => by
    rw [if_neg (by omega)]
    rfl
  | n + 1, hn => by
    have ih := pS_s (p := p) hx n (by omega)
    show pS p (x + 1) n + p n * nI (part n (x + 1)) = (pS p x n + p n * nI (part n x)) + _
    rw [ih]
    by_cases c1 : x / 50 < n
    · have e : part n (x + 1) = part n x := by
        unfold part
        by_cases c : n = 7
        · rw [if_pos c, if_pos c]; omega
        · rw [if_neg c, if_neg c]; omega
      rw [if_pos c1, if_pos (by omega), e, i_aa, i_aa, i_ac (p (x / 50))]
    · rw [if_neg c1, i_a0]
      by_cases c2 : x / 50 = n
      · have e : part n (x + 1) = part n x + 1 := by
          unfold part
          by_cases c : n = 7
          · rw [if_pos c, if_pos c]; omega
          · rw [if_neg c, if_neg c]; omega
        rw [if_pos (by omega), e, ← nI_add1, i_ma, i_m1, c2, i_aa]
      · have e : part n (x + 1) = part n x := by
          unfold part
          by_cases c : n = 7
          · rw [if_pos c, if_pos c]; omega
          · rw [if_neg c, if_neg c]; omega
        rw [if_neg (by omega), e, i_a0]
def CC (p : Nat → Int32) (x : Nat) : Int32 := sumF (fun u => p (u / 50)) x
theorem pS_0 {p : Nat → Int32} : ∀ n, pS p 0 n = 0
  | 0 => rfl
  | n + 1 => by
    show pS p 0 n + p n * nI (part n 0) = 0
    have e : part n 0 = 0 := by
      unfold part
      by_cases c : n = 7
      · rw [if_pos c]; omega
      · rw [if_neg c]; omega
    rw [pS_0 n, e, show nI 0 = (0 : Int32) from rfl, i_m0, i_0a]
theorem pS_CC {p : Nat → Int32} : ∀ x, x ≤ 400 → pS p x 8 = CC p x
  | 0, _ => pS_0 8
  | x + 1, hx => by
    rw [pS_s (by omega) 8 (by omega), if_pos (by omega), pS_CC x (by omega)]
    rfl
theorem sumF_add {f : Nat → Int32} {a : Nat} : ∀ n, sumF f (a + n) = sumF f a + sumF (fun j => f (a + j)) n
  | 0 => by rw [show a + 0 = a from rfl]; exact (i_a0 _).symm
  | n + 1 => by
    show sumF f (a + n) + f (a + n) = sumF f a + (sumF (fun j => f (a + j)) n + f (a + n))
    rw [sumF_add n, i_aa]
def goC (U D : Nat → Int32) (a b : Nat) : Int32 := if b ≤ a then CC D a - CC D b else CC U b - CC U a
theorem c_going {a b : Nat} {μ : Mem} (ha : a ≤ 399) (hb : b ≤ 399) : fX4_going FF 73 (nI a) (nI b) μ = some (goC (μ 74) (μ 75) a b, μ) := by
  unfold fX4_going goC
  rw [ifle (by omega) (by omega)]
  by_cases c : b ≤ a
  · rw [if_pos c, if_pos c, show 73 + 1 + 1 = 75 from rfl, c_below rfl (by omega), cal_n, c_below rfl (by omega), cal_n, pS_CC a (by omega), pS_CC b (by omega)]
  · rw [if_neg c, if_neg c, show 73 + 1 + 0 = 74 from rfl, c_below rfl (by omega), cal_n, c_below rfl (by omega), cal_n, pS_CC a (by omega), pS_CC b (by omega)]
theorem m_btw_loop {F lo hi : Nat} {y3 y4 : Int32} {μ : Mem} (hh : hi ≤ 400) (h22 : ¬ μ 89 22 = 0) : ∀ (d n i : Nat), lo + i + d = hi → d < n → fX9_between_6 F n (nI lo) (nI hi) y3 y4 (sumF (fun j => y3 * μ 101 ((lo + j) / 50) + y4 * μ 102 ((lo + j) / 50)) i) (nI (lo + i)) μ = some (sumF (fun j => y3 * μ 101 ((lo + j) / 50) + y4 * μ 102 ((lo + j) / 50)) (hi - lo), μ) := by
  intro d
  induction d with
  | zero =>
    intro n i hi2 hn
    obtain ⟨n, rfl⟩ : ∃ n', n = n' + 1 := ⟨n - 1, by omega⟩
    show fX9_between_6_b F _ _ _ _ _ _ _ μ = _
    unfold fX9_between_6_b fX9_between_56
    rw [if_pos (nI_le (by omega) (by omega)), if_neg h22, show hi - lo = i by omega]
  | succ d ih =>
    intro n i hi2 hn
    obtain ⟨n, rfl⟩ : ∃ n', n = n' + 1 := ⟨n - 1, by omega⟩
    show fX9_between_6_b F _ _ _ _ _ _ _ μ = _
    unfold fX9_between_6_b
    rw [if_neg (nI_ge (by omega) (by omega)), if_neg h22, nI_div50 (by omega), rd_n (by show _ < 8; omega), rd_n (by show _ < 8; omega), nI_add1]
    exact ih n (i + 1) (by omega) (by omega)
theorem m_btw {lo hi : Nat} {y3 y4 : Int32} {μ : Mem} (hl : lo ≤ hi) (hh : hi ≤ 400) (h22 : ¬ μ 89 22 = 0) : fX9_between FF (nI lo) (nI hi) y3 y4 μ = some (sumF (fun j => y3 * μ 101 ((lo + j) / 50) + y4 * μ 102 ((lo + j) / 50)) (hi - lo), μ) :=
  m_btw_loop (F := FF) hh h22 (hi - lo) FF 0 (by omega) (by rw [FF_e]; omega)
theorem m_costOf {a b : Nat} {μ : Mem} (ha : a ≤ 399) (hb : b ≤ 399) (h22 : ¬ μ 89 22 = 0) : fX9_costOf FF (nI a) (nI b) μ = some (goC (μ 101) (μ 102) a b, μ) := by
  unfold fX9_costOf goC
  rw [ifle (by omega) (by omega)]
  by_cases c : b ≤ a
  · rw [if_pos c, if_pos c, m_btw c (by omega) h22, cal_n]
    have e := sumF_add (f := fun u => μ 102 (u / 50)) (a := b) (a - b)
    rw [show b + (a - b) = a by omega] at e
    have e2 : sumF (fun j => (0 : Int32) * μ 101 ((b + j) / 50) + 1 * μ 102 ((b + j) / 50)) (a - b) = sumF (fun j => μ 102 ((b + j) / 50)) (a - b) := sumF_congr (fun i hi => by rw [i_0m, i_1m, i_0a])
    rw [e2]
    unfold CC
    rw [e, i_as]
  · rw [if_neg c, if_neg c, m_btw (by omega) (by omega) h22, cal_n]
    have e := sumF_add (f := fun u => μ 101 (u / 50)) (a := a) (b - a)
    rw [show a + (b - a) = b by omega] at e
    have e2 : sumF (fun j => (1 : Int32) * μ 101 ((a + j) / 50) + 0 * μ 102 ((a + j) / 50)) (b - a) = sumF (fun j => μ 101 ((a + j) / 50)) (b - a) := sumF_congr (fun i hi => by rw [i_0m, i_1m, i_a0])
    rw [e2]
    unfold CC
    rw [e, i_as]
theorem goC_congr {U D U' D' : Nat → Int32} {a b : Nat} (ha : a ≤ 399) (hb : b ≤ 399) (h : ∀ i, i < 8 → U i = U' i ∧ D i = D' i) : goC U D a b = goC U' D' a b := by
  have eU : ∀ x, x ≤ 399 → CC U x = CC U' x := fun x hx => sumF_congr (fun u hu => (h (u / 50) (by omega)).1)
  have eD : ∀ x, x ≤ 399 → CC D x = CC D' x := fun x hx => sumF_congr (fun u hu => (h (u / 50) (by omega)).2)
  unfold goC
  rw [eU a ha, eU b hb, eD a ha, eD b hb]
