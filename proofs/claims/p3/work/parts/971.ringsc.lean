/-! the class's rings: from sorting to names -/
theorem srI_lex {w g : Nat → Int32} : ∀ n, n < 2 ^ 31 → ∃ σ : Nat → Nat, (∀ p, p < n → σ p < n ∧ srI (gtK w) g n p = nI (σ p)) ∧ ∀ p q, p < q → q < n → (w (σ p)).toInt < (w (σ q)).toInt ∨ ((w (σ p)).toInt = (w (σ q)).toInt ∧ σ p < σ q)
  | 0, _ => ⟨fun p => p, fun p hp => by omega, fun p q _ hq => by omega⟩
  | n + 1, hn => by
    obtain ⟨σ, s1, s2⟩ := srI_lex (w := w) (g := g) n (by omega)
    obtain ⟨q, q1, q2, q3, q4⟩ := shI_ins2 (gt := fun v => gtK w v n) (x := nI n) n (srI (gtK w) g n)
    have up : ∀ p, q ≤ p → p < n → (w n).toInt < (w (σ p)).toInt := fun p p1 p2 => by
      have := q3 p p1 p2
      obtain ⟨z1, z2⟩ := s1 p p2
      rw [z2, tn_n (by omega)] at this
      unfold gtK at this
      rw [decide_eq_true_iff, Int32.le_iff_toInt_le] at this
      omega
    have lo1 : ∀ p, p + 1 = q → (w (σ p)).toInt ≤ (w n).toInt := fun p p1 => by
      have := q4 p p1
      obtain ⟨z1, z2⟩ := s1 p (by omega)
      rw [z2, tn_n (by omega)] at this
      unfold gtK at this
      rw [decide_eq_true_iff, Int32.le_iff_toInt_le] at this
      omega
    have lo : ∀ p, p < q → (w (σ p)).toInt ≤ (w n).toInt := fun p p1 => by
      by_cases c : p + 1 = q
      · exact lo1 p c
      · have a := lo1 (q - 1) (by omega)
        have b := s2 p (q - 1) (by omega) (by omega)
        omega
    have e : ∀ p, srI (gtK w) g (n + 1) p = insF q n (nI n) (srI (gtK w) g n) p := fun p => congrFun q2 p
    refine ⟨fun p => if p < q then σ p else if p = q then n else σ (p - 1), fun p hp => ?_, fun p p' h1 h2 => ?_⟩
    · rw [e]
      unfold insF
      by_cases c1 : p < q
      · simp only [if_pos c1]
        have := s1 p (by omega)
        exact ⟨by omega, this.2⟩
      · by_cases c2 : p = q
        · simp only [if_neg c1, if_pos c2]
          exact ⟨by omega, trivial⟩
        · simp only [if_neg c1, if_neg c2]
          rw [if_pos (by omega)]
          have := s1 (p - 1) (by omega)
          exact ⟨by omega, this.2⟩
    · by_cases c1 : p < q
      · simp only [if_pos c1]
        by_cases d1 : p' < q
        · simp only [if_pos d1]
          exact s2 p p' h1 (by omega)
        · by_cases d2 : p' = q
          · simp only [if_neg d1, if_pos d2]
            have := lo p c1
            have := (s1 p (by omega)).1
            omega
          · simp only [if_neg d1, if_neg d2]
            exact s2 p (p' - 1) (by omega) (by omega)
      · by_cases c2 : p = q
        · simp only [if_neg c1, if_pos c2]
          rw [if_neg (by omega), if_neg (by omega)]
          exact Or.inl (up (p' - 1) (by omega) (by omega))
        · simp only [if_neg c1, if_neg c2]
          rw [if_neg (by omega), if_neg (by omega)]
          exact s2 (p - 1) (p' - 1) (by omega) (by omega)
def so (w : Nat → Int32) (N : Nat) (p : Nat) : Nat := tn (srI (gtK w) zz N p)
theorem so_eq {w w' g : Nat → Int32} {N : Nat} (hN : N < 2 ^ 31) (h : ∀ s, s < N → w s = w' s) : ∀ p, p < N → srI (gtK w) g N p = nI (so w' N p) := fun p hp => by
  have e := srI_congr (gt := gtK w) (gt' := gtK w') (g := g) (g' := zz) hN (fun s x h1 h2 => by
    unfold gtK
    rw [h s (by omega), h x h2]) p hp
  obtain ⟨σ, τ, h1, h2⟩ := srI_perm (gt := gtK w') (g := zz) N
  obtain ⟨a, b, c⟩ := h1 p hp
  unfold so
  rw [e, b, tn_n (by omega)]
theorem so_perm {w : Nat → Int32} {N : Nat} (hN : N < 2 ^ 31) : (∀ p, p < N → so w N p < N) ∧ (∀ p q, p < N → q < N → so w N p = so w N q → p = q) ∧ ∀ x, x < N → ∃ p, p < N ∧ so w N p = x := by
  obtain ⟨σ, τ, h1, h2⟩ := srI_perm (gt := gtK w) (g := zz) N
  have e : ∀ p, p < N → so w N p = σ p := fun p hp => by
    obtain ⟨a, b, c⟩ := h1 p hp
    unfold so
    rw [b, tn_n (by omega)]
  refine ⟨fun p hp => by rw [e p hp]; exact (h1 p hp).1, fun p q hp hq h => ?_, fun x hx => ⟨τ x, (h2 x hx).1, by rw [e _ (h2 x hx).1]; exact (h2 x hx).2⟩⟩
  rw [e p hp, e q hq] at h
  rw [← (h1 p hp).2.2, ← (h1 q hq).2.2, h]
theorem so_lex {w : Nat → Int32} {N : Nat} (hN : N < 2 ^ 31) : ∀ p q, p < q → q < N → (w (so w N p)).toInt < (w (so w N q)).toInt ∨ ((w (so w N p)).toInt = (w (so w N q)).toInt ∧ so w N p < so w N q) := by
  obtain ⟨σ, h1, h2⟩ := srI_lex (w := w) (g := zz) N hN
  have e : ∀ p, p < N → so w N p = σ p := fun p hp => by
    obtain ⟨a, b⟩ := h1 p hp
    unfold so
    rw [b, tn_n (by omega)]
  intro p q hpq hq
  rw [e p (by omega), e q hq]
  exact h2 p q hpq hq
def bhN (u v : Nat → Nat) : Nat → Nat → Nat
  | 0, x => x
  | i + 1, x => if x = u i then v i else bhN u v i x
theorem bhN_u {u v : Nat → Nat} {P : Nat} (hu : ∀ p q, p < P → q < P → u p = u q → p = q) : ∀ i, i ≤ P → ∀ j, j < i → bhN u v i (u j) = v j
  | 0, _, j, hj => by omega
  | i + 1, hi, j, hj => by
    show (if u j = u i then v i else bhN u v i (u j)) = v j
    by_cases c : u j = u i
    · rw [if_pos c, hu j i (by omega) (by omega) c]
    · rw [if_neg c]
      refine bhN_u hu i (by omega) j ?_
      by_cases d : j = i
      · rw [d] at c; exact absurd rfl c
      · omega
theorem bhN_pb {P : Nat} {wu wv : Nat → Int32} (hP : P < 2 ^ 31) : PB P (bhN (so wu P) (so wv P) P) := by
  obtain ⟨a1, a2, a3⟩ := so_perm (w := wu) hP
  obtain ⟨b1, b2, b3⟩ := so_perm (w := wv) hP
  refine ⟨fun x hx => ?_, fun x y hx hy e => ?_⟩
  · obtain ⟨i, hi, e⟩ := a3 x hx
    rw [← e, bhN_u a2 P (Nat.le_refl _) i hi]
    exact b1 i hi
  · obtain ⟨i, hi, ei⟩ := a3 x hx
    obtain ⟨j, hj, ej⟩ := a3 y hy
    rw [← ei, ← ej, bhN_u a2 P (Nat.le_refl _) i hi, bhN_u a2 P (Nat.le_refl _) j hj] at e
    rw [← ei, ← ej, b2 i j hi hj e]
/-- the class's cells of rings -/
def RC (μ0 : Mem) (P : Nat) (p q : Nat → Nat) (μ : Mem) : Prop := (∀ c, (c < 61 ∨ 70 < c) → μ c = μ0 c) ∧ μ 61 9 = nI P ∧ ∀ i, i < P → μ 63 i = nI (p i) ∧ μ 62 i = nI (q i)
theorem RC.ch {μ0 μ μ' : Mem} {P : Nat} {p q : Nat → Nat} (h : RC μ0 P p q μ) (e : ∀ c, c ≠ 61 → (c < 64 ∨ 70 < c) → μ' c = μ c) (e9 : μ' 61 9 = μ 61 9) : RC μ0 P p q μ' :=
  ⟨fun c hc => by rw [e c (by omega) (by omega)]; exact h.1 c hc, e9.trans h.2.1, fun i hi => by rw [e 63 (by omega) (by omega), e 62 (by omega) (by omega)]; exact h.2.2 i hi⟩
/-- what going costs -/
def GO (k T : Nat) (G : Nat → Nat → Int32) (μ0 : Mem) : Prop := ∀ μ : Mem, (∀ c, (c < 61 ∨ 70 < c) → μ c = μ0 c) → ∀ a b, a ≤ T → b ≤ T → fX4_going FF k (nI a) (nI b) μ = some (G a b, μ)
def cst (P : Nat) (p q : Nat → Nat) (G : Nat → Nat → Int32) (π : Nat → Nat) : Int32 := sumF (fun x => G (p x) (q (π x))) P
theorem c_costAll {k T P : Nat} {p q π : Nat → Nat} {G : Nat → Nat → Int32} {μ0 μ : Mem} (hP : P ≤ 41) (hT : ∀ i, i < P → p i ≤ T ∧ q i ≤ T) (hG : GO k T G μ0) (h : RC μ0 P p q μ) (hπ : ∀ x, x < P → π x < P) (h66 : ∀ x, x < P → μ 66 x = nI (π x)) : fX5_costOfAll FF k μ = some (cst P p q G π, μ) := by
  have loop : ∀ (d n i : Nat), i + d = P → d < n → fX5_costOfAll_4 FF k n (sumF (fun x => G (p x) (q (π x))) i) (nI i) μ = some (cst P p q G π, μ) := by
    intro d
    induction d with
    | zero =>
      intro n i hi hn
      obtain ⟨n, rfl⟩ : ∃ n', n = n' + 1 := ⟨n - 1, by omega⟩
      show fX5_costOfAll_4_b FF _ _ _ _ μ = _
      unfold fX5_costOfAll_4_b
      rw [h.2.1, if_pos (nI_le (by omega) (by omega)), show i = P by omega]
      rfl
    | succ d ih =>
      intro n i hi hn
      obtain ⟨n, rfl⟩ : ∃ n', n = n' + 1 := ⟨n - 1, by omega⟩
      show fX5_costOfAll_4_b FF _ _ _ _ μ = _
      unfold fX5_costOfAll_4_b
      have hp := hπ i (by omega)
      rw [h.2.1, if_neg (nI_ge (by omega) (by omega)), rd_n (by show i < 41; omega), (h.2.2 i (by omega)).1, rd_n (by show i < 41; omega), h66 i (by omega), rd_n (by show π i < 41; omega), (h.2.2 _ hp).2, hG μ h.1 _ _ (hT i (by omega)).1 (hT _ hp).2, cal_n, nI_add1]
      exact ih n (i + 1) (by omega) (by omega)
  exact loop P FF 0 (by omega) (by rw [FF_e]; omega)
theorem c_walk {P nm : Nat} {π : Nat → Nat} {μ : Mem} (hP : P ≤ 41) (h9 : μ 61 9 = nI P) (hπ : ∀ x, x < P → π x < P) (h66 : ∀ x, x < P → μ 66 x = nI (π x)) : ∀ (d n p j : Nat) (f : Nat → Int32), j + d = P → d < n → p < P → fX5_nameRing_5 FF n (nI nm) (nI p) (nI j) (upM μ 67 f) = some (upM μ 67 (walk π (nI nm) d p f)) := by
  intro d
  induction d with
  | zero =>
    intro n p j f hj hn hp
    obtain ⟨n, rfl⟩ : ∃ n', n = n' + 1 := ⟨n - 1, by omega⟩
    show fX5_nameRing_5_b FF _ _ _ _ _ = _
    unfold fX5_nameRing_5_b
    rw [upM_ne (by omega), h9, if_pos (nI_le (by omega) (by omega))]
    rfl
  | succ d ih =>
    intro n p j f hj hn hp
    obtain ⟨n, rfl⟩ : ∃ n', n = n' + 1 := ⟨n - 1, by omega⟩
    show fX5_nameRing_5_b FF _ _ _ _ _ = _
    unfold fX5_nameRing_5_b
    rw [upM_ne (by omega), h9, if_neg (nI_ge (by omega) (by omega)), rd_n (by show p < 41; omega), upM_self]
    have ew : walk π (nI nm) (d + 1) p f = if f p = -1 then walk π (nI nm) d (π p) (upd f p (nI nm)) else f := rfl
    rw [ew]
    by_cases c : f p = -1
    · rw [if_pos c, if_pos c, wr_n (by show p < 41; omega), upM_upM, upM_self, rd_n (by show p < 41; omega), upM_ne (by omega), h66 p hp, nI_add1]
      exact ih n (π p) (j + 1) _ (by omega) (by omega) (hπ p hp)
    · rw [if_neg c, if_neg c]
theorem m1_ne {a : Nat} (h : a ≤ 100) : ¬ nI a = -1 := fun e => by
  have : (nI a).toInt = (a : Int) := nI_toInt (by omega)
  rw [e] at this
  have e1 : (-1 : Int32).toInt = -1 := rfl
  omega
theorem c_names {P : Nat} {p q π : Nat → Nat} {μ0 μ : Mem} (hP : P ≤ 41) (h : RC μ0 P p q μ) (hp : PB P π) (h66 : ∀ x, x < P → μ 66 x = nI (π x)) : ∃ μ' f, fX5_nameRings FF μ = some μ' ∧ (∀ c, c ≠ 61 → c ≠ 67 → μ' c = μ c) ∧ (∀ j, j ≠ 11 → μ' 61 j = μ 61 j) ∧ μ' 61 11 = nI (Kn π P) ∧ μ' 67 = f ∧ Nmd P π (Kn π) P f := by
  have loop : ∀ (d n i : Nat) (ν : Mem) (f : Nat → Int32), i + d = P → d < n → (∀ c, c ≠ 61 → c ≠ 67 → ν c = μ c) → (∀ j, j ≠ 11 → ν 61 j = μ 61 j) → ν 61 11 = nI (Kn π i) → ν 67 = f → Nmd P π (Kn π) i f → ∃ μ' f, fX5_nameRings_15 FF n (nI i) ν = some μ' ∧ (∀ c, c ≠ 61 → c ≠ 67 → μ' c = μ c) ∧ (∀ j, j ≠ 11 → μ' 61 j = μ 61 j) ∧ μ' 61 11 = nI (Kn π P) ∧ μ' 67 = f ∧ Nmd P π (Kn π) P f := by
    intro d
    induction d with
    | zero =>
      intro n i ν f hi hn h1 h2 h3 h4 h5
      obtain ⟨n, rfl⟩ : ∃ n', n = n' + 1 := ⟨n - 1, by omega⟩
      obtain rfl : i = P := by omega
      refine ⟨ν, f, ?_, h1, h2, h3, h4, h5⟩
      show fX5_nameRings_15_b FF _ _ ν = _
      unfold fX5_nameRings_15_b
      rw [h2 9 (by decide), h.2.1, if_pos (nI_le (by omega) (by omega))]
    | succ d ih =>
      intro n i ν f hi hn h1 h2 h3 h4 h5
      obtain ⟨n, rfl⟩ : ∃ n', n = n' + 1 := ⟨n - 1, by omega⟩
      have k1 := Kn_le (π := π) i
      have ev : ν = upM ν 67 f := by rw [← h4, upM_id]
      have q9 : ν 61 9 = nI P := by rw [h2 9 (by decide)]; exact h.2.1
      have hnf : ∀ s, s < P → Kn π s ≤ 41 := fun s hs => by have := Kn_le (π := π) s; omega
      have wk := c_walk (nm := Kn π i) (π := π) (μ := ν) hP q9 hp.1 (fun x hx => by rw [h1 66 (by omega) (by omega)]; exact h66 x hx) P FF i 0 f (by omega) (by rw [FF_e]; omega) (by omega)
      rw [← ev] at wk
      rcases h5.st hp (by omega) hnf with ⟨e1, e2, e3, e4⟩ | ⟨e1, e2, e4⟩
      · rw [walk_orbit hp (by omega) (Nat.le_refl _) (m1_ne (by omega)) e3] at wk
        obtain ⟨ν', hν'⟩ : ∃ ν', ν' = upM (upM ν 67 (cvr (Rch π i) (nI (Kn π i)) f)) 61 (upd (ν 61) 11 (nI (Kn π (i + 1)))) := ⟨_, rfl⟩
        have step : fX5_nameRings_15 FF (n + 1) (nI i) ν = fX5_nameRings_15 FF n (nI (i + 1)) ν' := by
          show fX5_nameRings_15_b FF _ _ ν = _
          unfold fX5_nameRings_15_b fX5_nameRing
          rw [q9, if_neg (nI_ge (by omega) (by omega)), rd_n (by show i < 41; omega), h4, if_pos e1, h3, show (0 : Int32) = nI 0 from rfl, wk, cav_n, st_n, upM_ne (by omega), h3, nI_add1, nI_add1, ← Kn_s e2, ← hν']
        rw [step]
        refine ih n (i + 1) ν' _ (by omega) (by omega) (fun c q1 q2 => by rw [hν', upM_ne q1, upM_ne q2]; exact h1 c q1 q2) (fun j hj => by rw [hν', upM_self, upd_ne hj]; exact h2 j hj) (by rw [hν', upM_self, upd_s]) (by rw [hν', upM_ne (by omega), upM_self]) e4
      · have step : fX5_nameRings_15 FF (n + 1) (nI i) ν = fX5_nameRings_15 FF n (nI (i + 1)) ν := by
          show fX5_nameRings_15_b FF _ _ ν = _
          unfold fX5_nameRings_15_b
          rw [q9, if_neg (nI_ge (by omega) (by omega)), rd_n (by show i < 41; omega), h4, if_neg e1, nI_add1]
        rw [step]
        exact ih n (i + 1) ν f (by omega) (by omega) h1 h2 (by rw [h3, Kn_n e2]) h4 e4
  obtain ⟨ν, hν⟩ : ∃ ν, ν = upM (upM μ 67 (fun j => if j < ln 67 then -1 else μ 67 j)) 61 (upd (μ 61) 11 0) := ⟨_, rfl⟩
  obtain ⟨μ', f, z⟩ := loop P FF 0 ν (fun j => if j < ln 67 then -1 else μ 67 j) (by omega) (by rw [FF_e]; omega) (fun c q1 q2 => by rw [hν, upM_ne q1, upM_ne q2]) (fun j hj => by rw [hν, upM_self, upd_ne hj]) (by rw [hν, upM_self, upd_s]; rfl) (by rw [hν, upM_ne (by omega), upM_self]) (fun a ha => Or.inl ⟨if_pos (show a < 41 by omega), fun s hs => by omega⟩)
  refine ⟨μ', f, ?_, z.2⟩
  unfold fX5_nameRings
  rw [fill_n, cav_n, st_n, upM_ne (by omega), ← hν]
  exact z.1
