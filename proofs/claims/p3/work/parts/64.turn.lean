/-! turning about -/
variable {wq : Prop}
def swi (i : Nat) (a b : Nat → Int32) : Nat → Int32 := fun x => if x < i then b x else a x
theorem swi_s {i : Nat} {a b : Nat → Int32} : upd (swi i a b) i (swi i b a i) = swi (i + 1) a b := by
  funext x
  have e : swi i b a i = b i := if_neg (by omega)
  rw [e]
  unfold upd swi
  by_cases h1 : x = i
  · rw [if_pos h1, if_pos (by omega), h1]
  · rw [if_neg h1]
    by_cases h2 : x < i
    · rw [if_pos h2, if_pos (by omega)]
    · rw [if_neg h2, if_neg (by omega)]
theorem swi_0 {a b : Nat → Int32} : swi 0 a b = a := funext fun x => if_neg (by omega)
theorem swi_lo {i x : Nat} {a b : Nat → Int32} (h : x < i) : swi i a b x = b x := if_pos h
theorem swi_hi {i x : Nat} {a b : Nat → Int32} (h : i ≤ x) : swi i a b x = a x := if_neg (by omega)
def T4 (k i : Nat) (μ : Mem) : Mem := upM (upM (upM (upM μ k (swi i (μ k) (μ (k + 1)))) (k + 1) (swi i (μ (k + 1)) (μ k))) (k + 2) (swi i (μ (k + 2)) (μ (k + 3)))) (k + 3) (swi i (μ (k + 3)) (μ (k + 2)))
theorem T4_a {k i : Nat} {μ : Mem} : T4 k i μ k = swi i (μ k) (μ (k + 1)) := by
  unfold T4
  rw [upM_ne (by omega), upM_ne (by omega), upM_ne (by omega), upM_self]
theorem T4_b {k i : Nat} {μ : Mem} : T4 k i μ (k + 1) = swi i (μ (k + 1)) (μ k) := by
  unfold T4
  rw [upM_ne (by omega), upM_ne (by omega), upM_self]
theorem T4_c {k i : Nat} {μ : Mem} : T4 k i μ (k + 2) = swi i (μ (k + 2)) (μ (k + 3)) := by
  unfold T4
  rw [upM_ne (by omega), upM_self]
theorem T4_d {k i : Nat} {μ : Mem} : T4 k i μ (k + 3) = swi i (μ (k + 3)) (μ (k + 2)) := by
  unfold T4
  rw [upM_self]
theorem T4_o {k i a : Nat} {μ : Mem} (h : a < k ∨ k + 4 ≤ a) : T4 k i μ a = μ a := by
  unfold T4
  rw [upM_ne (by omega), upM_ne (by omega), upM_ne (by omega), upM_ne (by omega)]
theorem T4_0 {k : Nat} {μ : Mem} : T4 k 0 μ = μ := by
  apply upM_ext
  intro a
  by_cases h : a < k ∨ k + 4 ≤ a
  · exact T4_o h
  · have h4 : a = k ∨ a = k + 1 ∨ a = k + 2 ∨ a = k + 3 := by omega
    rcases h4 with rfl | rfl | rfl | rfl
    · rw [T4_a, swi_0]
    · rw [T4_b, swi_0]
    · rw [T4_c, swi_0]
    · rw [T4_d, swi_0]
theorem T4_s {k i : Nat} {μ : Mem} : upM (upM (upM (upM (T4 k i μ) k (upd (T4 k i μ k) i (T4 k i μ (k + 1) i))) (k + 1) (upd (T4 k i μ (k + 1)) i (T4 k i μ k i))) (k + 2) (upd (T4 k i μ (k + 2)) i (T4 k i μ (k + 3) i))) (k + 3) (upd (T4 k i μ (k + 3)) i (T4 k i μ (k + 2) i)) = T4 k (i + 1) μ := by
  apply upM_ext
  intro a
  by_cases h : a < k ∨ k + 4 ≤ a
  · rw [upM_ne (by omega), upM_ne (by omega), upM_ne (by omega), upM_ne (by omega), T4_o h, T4_o h]
  · have h4 : a = k ∨ a = k + 1 ∨ a = k + 2 ∨ a = k + 3 := by omega
    rcases h4 with rfl | rfl | rfl | rfl
    · rw [upM_ne (by omega), upM_ne (by omega), upM_ne (by omega), upM_self, T4_a, T4_a, T4_b, swi_s]
    · rw [upM_ne (by omega), upM_ne (by omega), upM_self, T4_a, T4_b, T4_b, swi_s]
    · rw [upM_ne (by omega), upM_self, T4_c, T4_c, T4_d, swi_s]
    · rw [upM_self, T4_d, T4_c, T4_d, swi_s]
def rv (N : Nat) : Nat → (Nat → Int32) → Nat → Int32
  | 0, f => f
  | i + 1, f => swp (rv N i f) i (N - 1 - i)
theorem PermF.rv {N : Nat} {f : Nat → Int32} (h : PermF f N) : ∀ {i : Nat}, i ≤ N / 2 → PermF (rv N i f) N
  | 0, _ => h
  | i + 1, hi => (PermF.rv h (i := i) (by omega)).swp (by omega) (by omega)
theorem rv_congr {N : Nat} {f g : Nat → Int32} (h : ∀ k, k < N → f k = g k) : ∀ {i : Nat}, i ≤ N / 2 → ∀ k, k < N → rv N i f k = rv N i g k
  | 0, _ => h
  | i + 1, hi => swp_congr (rv_congr h (i := i) (by omega)) (by omega) (by omega)
theorem rv_out {N : Nat} {f : Nat → Int32} : ∀ {i : Nat}, i ≤ N / 2 → ∀ k, N ≤ k → rv N i f k = f k
  | 0, _, _, _ => rfl
  | i + 1, hi, k, hk => by
    show swp (rv N i f) i (N - 1 - i) k = _
    rw [swp_e, if_neg (by omega), if_neg (by omega)]
    exact rv_out (i := i) (by omega) k hk
theorem c_rv_loop {F N : Nat} {m : Mem} (hN : N ≤ 40) (h : m 9 6 = nI N) : ∀ (d n i : Nat), i + d = N / 2 → d < n → fX3_turnAbout_70 F n (nI i) (upM m 14 (rv N i (m 14))) = some (upM m 14 (rv N (N / 2) (m 14))) := by
  have hc : ∀ i, i ≤ N / 2 → ((nI N - 1) - nI i ≤ nI i ↔ i = N / 2) := fun i hi => by
    by_cases h0 : N = 0
    · subst h0
      obtain rfl : i = 0 := by omega
      exact ⟨fun _ => rfl, fun _ => by decide⟩
    · rw [show (1 : Int32) = nI 1 from rfl, nI_sub (by omega), nI_sub (by omega), nI_leI (by omega) (by omega)]
      omega
  intro d
  induction d with
  | zero =>
    intro n i hi hn
    obtain ⟨n, rfl⟩ : ∃ n', n = n' + 1 := ⟨n - 1, by omega⟩
    show fX3_turnAbout_70_b F _ _ _ = _
    unfold fX3_turnAbout_70_b
    rw [upM_ne (by omega), h, if_pos ((hc i (by omega)).mpr (by omega)), show i = N / 2 by omega]
  | succ d ih =>
    intro n i hi hn
    obtain ⟨n, rfl⟩ : ∃ n', n = n' + 1 := ⟨n - 1, by omega⟩
    show fX3_turnAbout_70_b F _ _ _ = _
    unfold fX3_turnAbout_70_b
    rw [upM_ne (by omega), h, if_neg (fun q => by have := (hc i (by omega)).mp q; omega), show (1 : Int32) = nI 1 from rfl, nI_sub (by omega), nI_sub (by omega), c_exch (by show i < 40; omega) (by show N - 1 - i < 40; omega), cav_n, upM_upM, upM_self, show nI i + nI 1 = nI (i + 1) from nI_add1 i]
    exact ih n (i + 1) (by omega) (by omega)
theorem m_rv_loop {F N : Nat} {m : Mem} (hN : N ≤ 40) : ∀ (d n i : Nat), i + d = N / 2 → d < n → fX9_turn_80 F n (nI N) (nI i) (upM m 99 (rv N i (m 99))) = some (1, upM (upM m 99 (rv N (N / 2) (m 99))) 89 (upd (m 89) 15 0)) := by
  have hc : ∀ i, i ≤ N / 2 → (nI N - 1 ≤ 2 * nI i ↔ i = N / 2) := fun i hi => by
    by_cases h0 : N = 0
    · subst h0
      obtain rfl : i = 0 := by omega
      exact ⟨fun _ => rfl, fun _ => by decide⟩
    · rw [show (1 : Int32) = nI 1 from rfl, nI_sub (by omega), show (2 : Int32) = nI 2 from rfl, pk_mul, nI_leI (by omega) (by omega)]
      omega
  intro d
  induction d with
  | zero =>
    intro n i hi hn
    obtain ⟨n, rfl⟩ : ∃ n', n = n' + 1 := ⟨n - 1, by omega⟩
    show fX9_turn_80_b F _ _ _ _ = _
    unfold fX9_turn_80_b
    rw [if_pos ((hc i (by omega)).mpr (by omega)), st_n, show i = N / 2 by omega]
    rfl
  | succ d ih =>
    intro n i hi hn
    obtain ⟨n, rfl⟩ : ∃ n', n = n' + 1 := ⟨n - 1, by omega⟩
    show fX9_turn_80_b F _ _ _ _ = _
    unfold fX9_turn_80_b
    rw [if_neg (fun q => by have := (hc i (by omega)).mp q; omega), show (1 : Int32) = nI 1 from rfl, nI_sub (by omega), nI_sub (by omega), rd_n (by show i < 240; omega), rd_n (by show N - 1 - i < 240; omega), wr_n (by show i < 240; omega), wr_n (by show N - 1 - i < 240; omega), show nI i + nI 1 = nI (i + 1) from nI_add1 i, upM_upM, upM_upM]
    simp only [upM_self]
    exact ih n (i + 1) (by omega) (by omega)
theorem c_turn_loop {F N : Nat} {m : Mem} (hN : N ≤ 40) (h : m 9 6 = nI N) : ∀ (d n i : Nat), i + d = N → d < n → fX3_turnAbout_2 F n (nI i) (T4 10 i m) = fX3_turnAbout_70 F F 0 (T4 10 N m) := by
  intro d
  induction d with
  | zero =>
    intro n i hi hn
    obtain ⟨n, rfl⟩ : ∃ n', n = n' + 1 := ⟨n - 1, by omega⟩
    show fX3_turnAbout_2_b F _ _ _ = _
    unfold fX3_turnAbout_2_b
    rw [T4_o (by omega), h, if_pos (nI_le (by omega) (by omega)), show i = N by omega]
  | succ d ih =>
    intro n i hi hn
    obtain ⟨n, rfl⟩ : ∃ n', n = n' + 1 := ⟨n - 1, by omega⟩
    show fX3_turnAbout_2_b F _ _ _ = _
    unfold fX3_turnAbout_2_b
    have l : i < 40 := by omega
    rw [T4_o (by omega), h, if_neg (nI_ge (by omega) (by omega)), rd_n l, rd_n l, wr_n l, wr_n l, rd_n l, rd_n l, wr_n l, wr_n l, nI_add1]
    exact (congrArg (fun q => fX3_turnAbout_2 F n (nI (i + 1)) q) (T4_s (k := 10) (i := i) (μ := m))).trans (ih n (i + 1) (by omega) (by omega))
theorem m_turn_loop {F N : Nat} {m : Mem} (hN : N ≤ 40) : ∀ (d n i : Nat), i + d = N → d < n → fX9_turn_13 F n (nI N) (nI i) (T4 95 i m) = fX9_turn_80 F F (nI N) 0 (T4 95 N m) := by
  intro d
  induction d with
  | zero =>
    intro n i hi hn
    obtain ⟨n, rfl⟩ : ∃ n', n = n' + 1 := ⟨n - 1, by omega⟩
    show fX9_turn_13_b F _ _ _ _ = _
    unfold fX9_turn_13_b
    rw [if_pos (nI_le (by omega) (by omega)), show i = N by omega]
  | succ d ih =>
    intro n i hi hn
    obtain ⟨n, rfl⟩ : ∃ n', n = n' + 1 := ⟨n - 1, by omega⟩
    show fX9_turn_13_b F _ _ _ _ = _
    unfold fX9_turn_13_b
    have l : i < 240 := by omega
    rw [if_neg (nI_ge (by omega) (by omega)), rd_n l, rd_n l, wr_n l, wr_n l, rd_n l, rd_n l, wr_n l, wr_n l, nI_add1]
    exact (congrArg (fun q => fX9_turn_13 F n (nI N) (nI (i + 1)) q) (T4_s (k := 95) (i := i) (μ := m))).trans (ih n (i + 1) (by omega) (by omega))
theorem op_turn : Op wq (fX8_turn FF) (fX9_turn FF) := by
  intro μ hI
  obtain ⟨N, μc, hL, c1, c2, c3⟩ := keepOp2 hI
  have h9 : μ 9 6 = nI N := hL.2.1
  have hN := hL.1
  obtain ⟨t, ht⟩ : ∃ t, t = upM (T4 10 N μc) 14 (rv N (N / 2) (μ 14)) := ⟨_, rfl⟩
  have e14 : T4 10 N μc 14 = μ 14 := by rw [T4_o (by omega), c2 14 (by omega) (by omega)]
  have ct : fX3_turnAbout FF μc = some t := by
    have a := c_turn_loop (F := FF) (m := μc) hN (by rw [c2 9 (by omega) (by omega)]; exact h9) N FF 0 (by omega) (by rw [FF_e]; omega)
    rw [T4_0] at a
    have b := c_rv_loop (F := FF) (m := T4 10 N μc) hN (by rw [T4_o (by omega), c2 9 (by omega) (by omega)]; exact h9) (N / 2) FF 0 (by omega) (by rw [FF_e]; omega)
    rw [show rv N 0 (T4 10 N μc 14) = T4 10 N μc 14 from rfl, upM_id, e14, ← ht] at b
    exact a.trans b
  have t2 : ∀ k, (k < 10 ∨ 15 ≤ k) → t k = μc k := fun k hk => by rw [ht, upM_ne (by omega), T4_o (by omega)]
  obtain ⟨μ1, hμ1⟩ : ∃ μ1, μ1 = upM t 53 (upd (μ 53) 2 0) := ⟨_, rfl⟩
  have u1 : ∀ k, k ≠ 53 → μ1 k = t k := fun k hk => by rw [hμ1, upM_ne hk]
  obtain ⟨μm, m1, m2, m3, m4, m5, m6⟩ := c3 μ1 (fun k hk => by rw [u1 k (by omega), t2 k (by omega), c2 k (by omega) (by omega)]) (fun k hk => by rw [u1 k (by omega), t2 k (by omega)])
  obtain ⟨μ2, hμ2⟩ : ∃ μ2, μ2 = upM (upM (T4 95 N μm) 99 (rv N (N / 2) (μm 99))) 89 (upd (μm 89) 15 0) := ⟨_, rfl⟩
  have mt : fX9_turn_13 FF FF (nI N) 0 μm = some (1, μ2) := by
    have a := m_turn_loop (F := FF) (m := μm) hN N FF 0 (by omega) (by rw [FF_e]; omega)
    rw [T4_0] at a
    have b := m_rv_loop (F := FF) (m := T4 95 N μm) hN (N / 2) FF 0 (by omega) (by rw [FF_e]; omega)
    rw [show rv N 0 (T4 95 N μm 99) = T4 95 N μm 99 from rfl, upM_id, T4_o (a := 99) (by omega), T4_o (a := 89) (by omega), ← hμ2] at b
    exact a.trans b
  have v1 : ∀ k, k ≠ 89 → (k < 95 ∨ 100 ≤ k) → μ2 k = μm k := fun k q1 q2 => by rw [hμ2, upM_ne q1, upM_ne (by omega), T4_o (by omega)]
  have f2 : ∀ k, (k < 10 ∨ 15 ≤ k) → k ≠ 53 → k ≠ 89 → (k < 94 ∨ 100 ≤ k) → k ≠ 16 → (k < 18 ∨ 53 ≤ k) → μ2 k = μ k := fun k q1 q2 q3 q4 q5 q6 => by rw [v1 k q3 (by omega), m2 k q3 q4, u1 k q2, t2 k q1, c2 k q5 q6]
  have g : ∀ k, 10 ≤ k → k < 15 → μ2 k = t k := fun k q1 q2 => by rw [v1 k (by omega) (by omega), m2 k (by omega) (by omega), u1 k (by omega)]
  have g4 : ∀ k, 10 ≤ k → k < 14 → μ2 k = T4 10 N μc k := fun k q1 q2 => by rw [g k q1 (by omega), ht, upM_ne (by omega)]
  have s10 : ∀ i, i < N → μ2 10 i = μ 11 i := fun i hi => by rw [g4 10 (by omega) (by omega), T4_a (k := 10), swi_lo hi, c2 11 (by omega) (by omega)]
  have s11 : ∀ i, i < N → μ2 11 i = μ 10 i := fun i hi => by rw [g4 11 (by omega) (by omega), T4_b (k := 10), swi_lo hi, c2 10 (by omega) (by omega)]
  have s12 : ∀ i, i < N → μ2 12 i = μ 13 i := fun i hi => by rw [g4 12 (by omega) (by omega), T4_c (k := 10), swi_lo hi, c2 13 (by omega) (by omega)]
  have s13 : ∀ i, i < N → μ2 13 i = μ 12 i := fun i hi => by rw [g4 13 (by omega) (by omega), T4_d (k := 10), swi_lo hi, c2 12 (by omega) (by omega)]
  have s14 : μ2 14 = rv N (N / 2) (μ 14) := by rw [g 14 (by omega) (by omega), ht, upM_self]
  have h4 : ∀ k, 95 ≤ k → k < 99 → μ2 k = T4 95 N μm k := fun k q1 q2 => by rw [hμ2, upM_ne (by omega), upM_ne (by omega)]
  have q : ∀ c, 95 ≤ c → c < 100 → ∀ k, k < N → μm c k = μ c k := fun c q1 q2 k hk => m5 c q1 q2 k (by omega)
  have f89 : ∀ j, j ≠ 15 → μ2 89 j = μm 89 j := fun j hj => by rw [hμ2, upM_self, upd_ne hj]
  have e99 : μ2 99 = rv N (N / 2) (μm 99) := by rw [hμ2, upM_ne (by omega), upM_self]
  refine ⟨1, μ1, μ2, ?_, ?_, Inv.alt (N := N) hI (fun k q1 q2 q3 => f2 k (by omega) (by omega) q3 q2 (by omega) (by omega)) (fun j q1 q2 => by rw [f89 j q2, m3 j q1]) ?_ ?_ ?_⟩
  · unfold fX8_turn
    rw [c1, cav_n, ct, cav_n, st_n, t2 53 (by omega), c2 53 (by omega) (by omega), ← hμ1]
  · unfold fX9_turn
    rw [m1, cav_n, show (0 : Int32) = nI 0 from rfl, rd_n (by decide), m4]
    exact mt
  · refine RelN.mk hN ?_ (by rw [v1 94 (by omega) (by omega)]; exact m4) (fun k hk => ?_) (by rw [e99]; exact (hL.oko.congr (fun k hk => q 99 (by omega) (by omega) k hk)).rv (by omega)) ⟨fun k hk => ?_, ?_⟩
    · rw [v1 9 (by omega) (by omega), m2 9 (by omega) (by omega), u1 9 (by omega), t2 9 (by omega), c2 9 (by omega) (by omega)]
      exact h9
    · obtain ⟨e1, e2, e3, e4, e5⟩ := hL.eqs hk
      refine ⟨?_, ?_, ?_, ?_, fun hq => ?_⟩
      · rw [s10 k hk, h4 95 (by omega) (by omega), T4_a (k := 95), swi_lo hk, q 96 (by omega) (by omega) k hk]; exact e2
      · rw [s11 k hk, h4 96 (by omega) (by omega), T4_b (k := 95), swi_lo hk, q 95 (by omega) (by omega) k hk]; exact e1
      · rw [s12 k hk, h4 97 (by omega) (by omega), T4_c (k := 95), swi_lo hk, q 98 (by omega) (by omega) k hk]; exact e4
      · rw [s13 k hk, h4 98 (by omega) (by omega), T4_d (k := 95), swi_lo hk, q 97 (by omega) (by omega) k hk]; exact e3
      · rw [s14, e99]
        exact rv_congr (fun k hk => ((hL.eqs hk).2.2.2.2 hq).trans (q 99 (by omega) (by omega) k hk).symm) (by omega) k hk
    · rw [s10 k hk, s11 k hk, s12 k hk, s13 k hk]
      obtain ⟨k1, k2, k3, k4⟩ := hL.oks.1 k hk
      exact ⟨k2, k1, k4, k3⟩
    · rw [s14]
      exact hL.oks.2.rv (by omega)
  · refine m6 _ (fun k hk => v1 k (by omega) (by omega)) (f89 11 (by decide)) (v1 94 (by omega) (by omega)) (fun c h1 h2 k hk => ?_)
    have h5 : c = 95 ∨ c = 96 ∨ c = 97 ∨ c = 98 ∨ c = 99 := by omega
    rcases h5 with rfl | rfl | rfl | rfl | rfl
    · rw [h4 95 (by omega) (by omega), T4_a (k := 95), swi_hi (by omega)]
    · rw [h4 96 (by omega) (by omega), T4_b (k := 95), swi_hi (by omega)]
    · rw [h4 97 (by omega) (by omega), T4_c (k := 95), swi_hi (by omega)]
    · rw [h4 98 (by omega) (by omega), T4_d (k := 95), swi_hi (by omega)]
    · rw [e99]
      exact rv_out (by omega) k (by omega)
  · have e53 : μ2 53 = upd (μ 53) 2 0 := by rw [v1 53 (by omega) (by omega), m2 53 (by omega) (by omega), hμ1, upM_self]
    refine hI.2.2.2.1.stale (f2 54 (by omega) (by omega) (by omega) (by omega) (by omega) (by omega)) (f2 100 (by omega) (by omega) (by omega) (by omega) (by omega) (by omega)) (by rw [e53, upd_ne (by decide)]) (by rw [e53, upd_s]) (by rw [f89 12 (by decide), m3 12 (by decide)]) (by rw [f89 14 (by decide), m3 14 (by decide)]) ?_
    rw [hμ2, upM_self, upd_s]
