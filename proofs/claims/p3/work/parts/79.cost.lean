/-! the cost of a row -/
variable {wq : Prop}
def nxt (N i : Nat) : Nat := if N ≤ i + 1 then 0 else i + 1
def wy (U D f t : Nat → Int32) (N : Nat) (σ : Nat → Nat) (i : Nat) : Int32 := goC U D (tn (t (σ i))) (tn (f (σ (nxt N i))))
def Dg (N : Nat) (f t : Nat → Int32) : Prop := ∀ i, i < N → (tn (f i) ≤ 399 ∧ f i = nI (tn (f i))) ∧ tn (t i) ≤ 399 ∧ t i = nI (tn (t i))
theorem RelN.dg {N : Nat} {μ : Mem} (hL : RelN wq N (CL μ) (MT μ 0)) : Dg N (μ 12) (μ 13) := fun i hi => by
  obtain ⟨-, -, ⟨x, hx, ex⟩, ⟨y, hy, ey⟩⟩ := hL.oks.1 i hi
  rw [ex, ey, tn_n (by omega), tn_n (by omega)]
  exact ⟨⟨hx, rfl⟩, hy, rfl⟩
theorem c_cost_loop {N : Nat} {σ : Nat → Nat} {μ : Mem} (hN : N ≤ 40) (h9 : μ 9 6 = nI N) (hσ : ∀ p, p < N → σ p < N ∧ μ 14 p = nI (σ p)) (hd : Dg N (μ 12) (μ 13)) : ∀ (d n i : Nat), i + d = N → d < n → fX8_cost_4 FF n (sumF (wy (μ 74) (μ 75) (μ 12) (μ 13) N σ) i) (nI i) μ = some (sumF (wy (μ 74) (μ 75) (μ 12) (μ 13) N σ) N, μ) := by
  intro d
  induction d with
  | zero =>
    intro n i hi hn
    obtain ⟨n, rfl⟩ : ∃ n', n = n' + 1 := ⟨n - 1, by omega⟩
    show fX8_cost_4_b FF _ _ _ μ = _
    unfold fX8_cost_4_b
    rw [h9, if_pos (nI_le (by omega) (by omega)), show i = N by omega]
  | succ d ih =>
    intro n i hi hn
    obtain ⟨n, rfl⟩ : ∃ n', n = n' + 1 := ⟨n - 1, by omega⟩
    have hx : nxt N i < N := by
      unfold nxt
      by_cases c : N ≤ i + 1
      · rw [if_pos c]; omega
      · rw [if_neg c]; omega
    obtain ⟨a1, a2⟩ := hσ i (by omega)
    obtain ⟨b1, b2⟩ := hσ (nxt N i) hx
    have e : fX8_cost_35 FF (fX8_cost_4 FF n) (sumF (wy (μ 74) (μ 75) (μ 12) (μ 13) N σ) i) (nI i) (nI (nxt N i)) μ = some (sumF (wy (μ 74) (μ 75) (μ 12) (μ 13) N σ) N, μ) := by
      unfold fX8_cost_35 fX8_wayBetween
      rw [rd_n (by show i < 40; omega), rd_n (by show nxt N i < 40; omega), a2, b2, rd_n (by show σ i < 40; omega), rd_n (by show σ (nxt N i) < 40; omega), (hd (σ i) a1).2.2, (hd (σ (nxt N i)) b1).1.2, c_going (hd (σ i) a1).2.1 (hd (σ (nxt N i)) b1).1.1, cal_n, cal_n, nI_add1]
      exact ih n (i + 1) (by omega) (by omega)
    show fX8_cost_4_b FF _ _ _ μ = _
    unfold fX8_cost_4_b
    rw [h9, if_neg (nI_ge (by omega) (by omega)), nI_add1, ifle (by omega) (by omega)]
    unfold nxt at e
    by_cases c : N ≤ i + 1
    · rw [if_pos c] at e ⊢
      exact e
    · rw [if_neg c] at e ⊢
      exact e
theorem m_cost_loop {N k1 : Nat} {σ : Nat → Nat} {μ : Mem} (hN : N ≤ 40) (hk : N ≤ ln k1) (hσ : ∀ p, p < N → σ p < N ∧ μ k1 p = nI (σ p)) (hd : Dg N (μ 97) (μ 98)) (h22 : ¬ μ 89 22 = 0) : ∀ (d n i : Nat), i + d = N → d < n → fX9_roundCost_17 FF k1 n (nI N) (sumF (wy (μ 101) (μ 102) (μ 97) (μ 98) N σ) i) (nI i) μ = some (sumF (wy (μ 101) (μ 102) (μ 97) (μ 98) N σ) N, μ) := by
  intro d
  induction d with
  | zero =>
    intro n i hi hn
    obtain ⟨n, rfl⟩ : ∃ n', n = n' + 1 := ⟨n - 1, by omega⟩
    show fX9_roundCost_17_b FF k1 _ _ _ _ μ = _
    unfold fX9_roundCost_17_b
    rw [if_pos (nI_le (by omega) (by omega)), show i = N by omega]
  | succ d ih =>
    intro n i hi hn
    obtain ⟨n, rfl⟩ : ∃ n', n = n' + 1 := ⟨n - 1, by omega⟩
    have hx : nxt N i < N := by
      unfold nxt
      by_cases c : N ≤ i + 1
      · rw [if_pos c]; omega
      · rw [if_neg c]; omega
    obtain ⟨a1, a2⟩ := hσ i (by omega)
    obtain ⟨b1, b2⟩ := hσ (nxt N i) hx
    have e : fX9_roundCost_43 FF k1 (fX9_roundCost_17 FF k1 n) (nI N) (sumF (wy (μ 101) (μ 102) (μ 97) (μ 98) N σ) i) (nI i) (nI (σ (nxt N i))) μ = some (sumF (wy (μ 101) (μ 102) (μ 97) (μ 98) N σ) N, μ) := by
      unfold fX9_roundCost_43
      rw [rd_n (by omega), a2, rd_n (by show σ i < 240; omega), rd_n (by show σ (nxt N i) < 240; omega), (hd (σ i) a1).2.2, (hd (σ (nxt N i)) b1).1.2, m_costOf (hd (σ i) a1).2.1 (hd (σ (nxt N i)) b1).1.1 h22, cal_n, nI_add1]
      exact ih n (i + 1) (by omega) (by omega)
    show fX9_roundCost_17_b FF k1 _ _ _ _ μ = _
    unfold fX9_roundCost_17_b
    rw [if_neg (nI_ge (by omega) (by omega)), nI_add1, ifeq (by omega) (by omega)]
    unfold nxt at e b2
    by_cases c : i + 1 = N
    · rw [if_pos (show N ≤ i + 1 by omega)] at e b2
      rw [if_pos c, show (0 : Int32) = nI 0 from rfl, rd_n (by omega), b2]
      exact e
    · rw [if_neg (show ¬ N ≤ i + 1 by omega)] at e b2
      rw [if_neg c, rd_n (by omega), b2]
      exact e
theorem wy_congr {U D f t U' D' f' t' : Nat → Int32} {N : Nat} {σ : Nat → Nat} (hσ : ∀ p, p < N → σ p < N) (hd : Dg N f t) (hf : ∀ s, s < N → f s = f' s ∧ t s = t' s) (hp : ∀ i, i < 8 → U i = U' i ∧ D i = D' i) : ∀ i, i < N → wy U D f t N σ i = wy U' D' f' t' N σ i := by
  intro i hi
  have hx : nxt N i < N := by
    unfold nxt
    by_cases c : N ≤ i + 1
    · rw [if_pos c]; omega
    · rw [if_neg c]; omega
  unfold wy
  rw [← (hf _ (hσ i hi)).2, ← (hf _ (hσ _ hx)).1]
  exact goC_congr (hd _ (hσ i hi)).2.1 (hd _ (hσ _ hx)).1.1 hp
theorem op_cost : OpW wq (fX8_cost FF) (fX9_cost FF) := by
  intro μ hI
  obtain ⟨N, hL⟩ := hI.2.1
  have h9 : μ 9 6 = nI N := hL.2.1
  have h94 : μ 94 0 = nI N := hL.2.2.1
  have hN := hL.1
  obtain ⟨σ, σ', hσ, hσ', hq⟩ := hL.sig
  obtain ⟨μ2, hμ2⟩ : ∃ μ2, μ2 = upM μ 89 (upd (μ 89) 22 1) := ⟨_, rfl⟩
  have k : ∀ c, c ≠ 89 → μ2 c = μ c := fun c hc => by rw [hμ2, upM_ne hc]
  have eqs : ∀ s, s < N → μ 12 s = μ 97 s ∧ μ 13 s = μ 98 s := fun s hs => ⟨(hL.eqs hs).2.2.1, (hL.eqs hs).2.2.2.1⟩
  have dm : Dg N (μ2 97) (μ2 98) := fun i hi => by
    rw [k 97 (by omega), k 98 (by omega), ← (eqs i hi).1, ← (eqs i hi).2]
    exact hL.dg i hi
  have cl := c_cost_loop hN h9 hσ hL.dg N FF 0 (by omega) (by rw [FF_e]; omega)
  have ml := m_cost_loop (k1 := 99) (σ := σ') (μ := μ2) hN (show N ≤ ln 99 by show N ≤ 240; omega) (fun p hp => ⟨(hσ' p hp).1, by rw [k 99 (by omega)]; exact (hσ' p hp).2⟩) dm (by rw [hμ2, upM_self, upd_s]; decide) N FF 0 (by omega) (by rw [FF_e]; omega)
  rw [k 101 (by omega), k 102 (by omega), k 97 (by omega), k 98 (by omega)] at ml
  have hp : ∀ i, i < 8 → μ 74 i = μ 101 i ∧ μ 75 i = μ 102 i := fun i hi => ⟨(hI.2.2.2.2.2 i hi).1, (hI.2.2.2.2.2 i hi).2.1⟩
  have ew := sumF_congr (n := N) (wy_congr (fun p hp => (hσ p hp).1) hL.dg eqs hp)
  refine ⟨sumF (wy (μ 74) (μ 75) (μ 12) (μ 13) N σ) N, sumF (wy (μ 101) (μ 102) (μ 97) (μ 98) N σ') N, μ, μ2, cl, ?_, ?_, fun q => by rw [hq q]; exact ew⟩
  · unfold fX9_cost fX9_roundCost
    rw [show (0 : Int32) = nI 0 from rfl, rd_n (by decide), h94, st_n, ← hμ2]
    exact (congrArg (fun o => cal o (fun r2 m1 => some (r2, m1))) ml).trans (by rw [cal_n])
  · have g : Ag [] [22] μ μ2 := by
      rw [hμ2]
      exact Ag.fl (by decide)
    obtain ⟨i1, i2, i3, i4, i5, i6⟩ := hI
    exact ⟨i1.ag g, i2.ag g, i3.ag g (by exact ⟨fun k _ _ => by simp, by simp⟩), i4.ag g (by rw [g.at 9]), i5.ag g, i6.ag g⟩
