/-! the reference's rings: weights, which join is looked at, joins -/
def UM (P : Nat) (u v : Nat → Nat) (μ : Mem) : Prop := ∀ i, i < P → (u i < P ∧ μ 108 i = nI (u i)) ∧ v i < P ∧ μ 109 i = nI (v i)
theorem UM.ch {P : Nat} {u v : Nat → Nat} {μ μ' : Mem} (h : UM P u v μ) (e4 : μ' 108 = μ 108) (e5 : μ' 109 = μ 109) : UM P u v μ' := fun i hi => by
  rw [e4, e5]; exact h i hi
theorem m_higher {T P i : Nat} {p q u v : Nat → Nat} {ν0 μ : Mem} (hP : P ≤ 41) (hT4 : T ≤ 100000) (hT : ∀ i, i < P → p i ≤ T ∧ q i ≤ T) (h : MC ν0 P p q μ) (huv : UM P u v μ) (hi : i < P) : fX9_higher FF (nI i) μ = some (nI (max (p (u i)) (q (v i))), μ) := by
  obtain ⟨⟨a1, a2⟩, a3, a4⟩ := huv i hi
  have t1 := (hT _ a1).1
  have t2 := (hT _ a3).2
  unfold fX9_higher
  rw [rd_n (by show i < 41; omega), a2, rd_n (by show u i < 41; omega), (h.2.2 _ a1).1, rd_n (by show i < 41; omega), a4, rd_n (by show v i < 41; omega), (h.2.2 _ a3).2, ifle (by omega) (by omega)]
  by_cases c : p (u i) ≤ q (v i)
  · rw [if_pos c, rd_n (by show i < 41; omega), a4, rd_n (by show v i < 41; omega), (h.2.2 _ a3).2, Nat.max_eq_right c]
  · rw [if_neg c, rd_n (by show i < 41; omega), a2, rd_n (by show u i < 41; omega), (h.2.2 _ a1).1, Nat.max_eq_left (by omega)]
theorem m_lower {T P i : Nat} {p q u v : Nat → Nat} {ν0 μ : Mem} (hP : P ≤ 41) (hT4 : T ≤ 100000) (hT : ∀ i, i < P → p i ≤ T ∧ q i ≤ T) (h : MC ν0 P p q μ) (huv : UM P u v μ) (hi : i < P) : fX9_lower FF (nI i) μ = some (nI (min (p (u i)) (q (v i))), μ) := by
  obtain ⟨⟨a1, a2⟩, a3, a4⟩ := huv i hi
  have t1 := (hT _ a1).1
  have t2 := (hT _ a3).2
  unfold fX9_lower
  rw [rd_n (by show i < 41; omega), a2, rd_n (by show u i < 41; omega), (h.2.2 _ a1).1, rd_n (by show i < 41; omega), a4, rd_n (by show v i < 41; omega), (h.2.2 _ a3).2, ifle (by omega) (by omega)]
  by_cases c : q (v i) ≤ p (u i)
  · rw [if_pos c, rd_n (by show i < 41; omega), a4, rd_n (by show v i < 41; omega), (h.2.2 _ a3).2, Nat.min_eq_right c]
  · rw [if_neg c, rd_n (by show i < 41; omega), a2, rd_n (by show u i < 41; omega), (h.2.2 _ a1).1, Nat.min_eq_left (by omega)]
theorem m_weights {T P M : Nat} {p q u v : Nat → Nat} {G : Nat → Nat → Int32} {ν0 μ : Mem} (hM : M + 1 = P) (hP : P ≤ 41) (hT4 : T ≤ 100000) (hT : ∀ i, i < P → p i ≤ T ∧ q i ≤ T) (hG : GM T G ν0) (h : MC ν0 P p q μ) (huv : UM P u v μ) : ∀ (d n i : Nat) (ν : Mem), i + d = M → d < n → (∀ c, c ≠ 112 → ν c = μ c) → (∀ j, j < i → ν 112 j = wgt p q u v G j) → ∃ μ', fX9_joined_185 FF n (nI i) ν = fX9_joined_240 FF FF 0 μ' ∧ (∀ c, c ≠ 112 → μ' c = μ c) ∧ ∀ j, j < M → μ' 112 j = wgt p q u v G j := by
  intro d
  induction d with
  | zero =>
    intro n i ν hi hn q1 q2
    obtain ⟨n, rfl⟩ : ∃ n', n = n' + 1 := ⟨n - 1, by omega⟩
    obtain rfl : i = M := by omega
    refine ⟨ν, ?_, q1, q2⟩
    show fX9_joined_185_b FF _ _ ν = _
    unfold fX9_joined_185_b
    rw [q1 89 (by omega), h.pt, nI_add1, if_pos (nI_le (by omega) (by omega))]
  | succ d ih =>
    intro n i ν hi hn q1 q2
    obtain ⟨n, rfl⟩ : ∃ n', n = n' + 1 := ⟨n - 1, by omega⟩
    have hv : MC ν0 P p q ν := h.ch (fun c c1 c2 => q1 c (by omega)) (fun j _ => by rw [q1 89 (by omega)])
    have hU : UM P u v ν := huv.ch (q1 108 (by omega)) (q1 109 (by omega))
    obtain ⟨⟨a1, a2⟩, a3, a4⟩ := hU i (by omega)
    obtain ⟨⟨b1, b2⟩, b3, b4⟩ := hU (i + 1) (by omega)
    have t1 := (hT _ a1).1
    have t2 := (hT _ a3).2
    have t3 := (hT _ b1).1
    have t4 := (hT _ b3).2
    obtain ⟨m2, f2, g2, b2', c2⟩ := wr_x (μ := ν) (k := 112) (i := i) (wgt p q u v G i) (by show i < 41; omega)
    have step : fX9_joined_185 FF (n + 1) (nI i) ν = fX9_joined_185 FF n (nI (i + 1)) m2 := by
      show fX9_joined_185_b FF _ _ ν = _
      unfold fX9_joined_185_b
      rw [hv.pt, nI_add1, if_neg (nI_ge (by omega) (by omega)), m_higher hP hT4 hT hv hU (by omega), cal_n, m_lower hP hT4 hT hv hU (by omega), cal_n, ifle (by omega) (by omega)]
      have ew : wgt p q u v G i = if max (p (u i)) (q (v i)) < min (p (u (i + 1))) (q (v (i + 1))) then G (max (p (u i)) (q (v i))) (min (p (u (i + 1))) (q (v (i + 1)))) + G (min (p (u (i + 1))) (q (v (i + 1)))) (max (p (u i)) (q (v i))) else 0 := rfl
      by_cases c : min (p (u (i + 1))) (q (v (i + 1))) ≤ max (p (u i)) (q (v i))
      · rw [if_neg (by omega)] at ew
        rw [if_pos c, ← ew]
        exact f2 _
      · rw [if_pos (by omega)] at ew
        rw [if_neg c, (hG ν hv.1 _ _ (by omega) (by omega)).2 (by omega), cal_n, ← ew]
        exact f2 _
    rw [step]
    refine ih n (i + 1) m2 (by omega) (by omega) (fun c hc => by rw [c2 c hc]; exact q1 c hc) (fun j hj => ?_)
    by_cases e : j = i
    · rw [e, g2]
    · rw [b2' j e]; exact q2 j (by omega)
/-- the join that is looked at -/
def Lst (w : Nat → Int32) (L : Nat → Prop) (c j : Nat) : Prop := j < c ∧ ¬ L j ∧ ∀ k, k < c → ¬ L k → (w j).toInt < (w k).toInt ∨ ((w j).toInt = (w k).toInt ∧ j ≤ k)
theorem m_select {P M t : Nat} {w : Nat → Int32} {L : Nat → Prop} {μ : Mem} (hM : M + 1 = P) (hP : P ≤ 41) (h9 : μ 89 21 = nI P) (h112 : ∀ k, k < M → μ 112 k = w k) (h113 : ∀ k, k < M → (L k ∧ μ 113 k = 1) ∨ (¬ L k ∧ μ 113 k = 0)) (rec240 : Int32 → Mem → Option (Int32 × Mem)) (hex : ∃ k, k < M ∧ ¬ L k) : ∃ (n' j : Nat), Lst w L M j ∧ fX9_joined_254 FF rec240 FF (nI t) (-1) 0 μ = fX9_joined_254_b FF rec240 (fX9_joined_254 FF rec240 n') (nI t) (nI j) (nI M) μ := by
  have loop : ∀ (d n c : Nat) (y : Int32), c + d = M → d < n → ((y = -1 ∧ ∀ k, k < c → L k) ∨ ∃ j, y = nI j ∧ Lst w L c j) → ∃ (n' j : Nat), Lst w L M j ∧ fX9_joined_254 FF rec240 n (nI t) y (nI c) μ = fX9_joined_254_b FF rec240 (fX9_joined_254 FF rec240 n') (nI t) (nI j) (nI M) μ := by
    intro d
    induction d with
    | zero =>
      intro n c y hc hn hy
      obtain ⟨n, rfl⟩ : ∃ n', n = n' + 1 := ⟨n - 1, by omega⟩
      obtain rfl : c = M := by omega
      rcases hy with ⟨_, q⟩ | ⟨j, rfl, q⟩
      · obtain ⟨k, k1, k2⟩ := hex
        exact absurd (q k k1) k2
      · exact ⟨n, j, q, rfl⟩
    | succ d ih =>
      intro n c y hc hn hy
      obtain ⟨n, rfl⟩ : ∃ n', n = n' + 1 := ⟨n - 1, by omega⟩
      have head : fX9_joined_254 FF rec240 (n + 1) (nI t) y (nI c) μ = if (μ 113 c) = 0 then (if y = -1 then fX9_joined_254 FF rec240 n (nI t) (nI c) (nI (c + 1)) μ else rd μ 112 (nI c) (fun v49 => rd μ 112 y (fun v50 => if v50 ≤ v49 then fX9_joined_254 FF rec240 n (nI t) y (nI (c + 1)) μ else fX9_joined_254 FF rec240 n (nI t) (nI c) (nI (c + 1)) μ))) else fX9_joined_254 FF rec240 n (nI t) y (nI (c + 1)) μ := by
        show fX9_joined_254_b FF _ _ _ _ _ μ = _
        unfold fX9_joined_254_b
        rw [h9, nI_add1, if_neg (nI_ge (by omega) (by omega)), rd_n (by show c < 41; omega)]
      rw [head]
      rcases h113 c (by omega) with ⟨l1, l2⟩ | ⟨l1, l2⟩
      · rw [l2, if_neg one_ne]
        refine ih n (c + 1) y (by omega) (by omega) ?_
        rcases hy with ⟨e, q⟩ | ⟨j, e, q1, q2, q3⟩
        · refine Or.inl ⟨e, fun k hk => ?_⟩
          by_cases ek : k = c
          · rw [ek]; exact l1
          · exact q k (by omega)
        · refine Or.inr ⟨j, e, by omega, q2, fun k hk hL => ?_⟩
          by_cases ek : k = c
          · rw [ek] at hL; exact absurd l1 hL
          · exact q3 k (by omega) hL
      · rw [l2, if_pos rfl]
        rcases hy with ⟨e, q⟩ | ⟨j, e, q1, q2, q3⟩
        · rw [if_pos e]
          refine ih n (c + 1) (nI c) (by omega) (by omega) (Or.inr ⟨c, rfl, by omega, l1, fun k hk hL => ?_⟩)
          by_cases ek : k = c
          · rw [ek]; exact Or.inr ⟨rfl, Nat.le_refl _⟩
          · exact absurd (q k (by omega)) hL
        · rw [if_neg (by rw [e]; exact m1_ne (by omega)), rd_n (by show c < 41; omega), e, rd_n (by show j < 41; omega), h112 c (by omega), h112 j (by omega)]
          by_cases cw : w j ≤ w c
          · rw [if_pos cw]
            rw [Int32.le_iff_toInt_le] at cw
            refine ih n (c + 1) (nI j) (by omega) (by omega) (Or.inr ⟨j, rfl, by omega, q2, fun k hk hL => ?_⟩)
            by_cases ek : k = c
            · subst ek
              omega
            · exact q3 k (by omega) hL
          · rw [if_neg cw]
            rw [Int32.le_iff_toInt_le] at cw
            refine ih n (c + 1) (nI c) (by omega) (by omega) (Or.inr ⟨c, rfl, by omega, l1, fun k hk hL => ?_⟩)
            by_cases ek : k = c
            · subst ek
              exact Or.inr ⟨rfl, Nat.le_refl _⟩
            · rcases q3 k (by omega) hL with z | ⟨z, _⟩
              · exact Or.inl (by omega)
              · exact Or.inl (by omega)
  exact loop M FF 0 (-1) (by omega) (by rw [FF_e]; omega) (Or.inl ⟨rfl, fun k hk => by omega⟩)
theorem m_rename {P t l1 l2 : Nat} {h : Nat → Nat} {μ : Mem} (hP : P ≤ 41) (h9 : μ 89 21 = nI P) (h1 : l1 < 42) (h2 : l2 < 42) (hl : ∀ x, x < P → h x < 42 ∧ μ 111 x = nI (h x)) (rec240 : Int32 → Mem → Option (Int32 × Mem)) : ∃ μ', fX9_joined_380 FF rec240 FF (nI t) (nI l1) (nI l2) 0 μ = rec240 (nI (t + 1)) μ' ∧ (∀ c, c ≠ 111 → μ' c = μ c) ∧ ∀ x, x < P → μ' 111 x = nI (if h x = l2 then l1 else h x) := by
  have loop : ∀ (d n i : Nat) (ν : Mem), i + d = P → d < n → (∀ c, c ≠ 111 → ν c = μ c) → (∀ x, x < i → ν 111 x = nI (if h x = l2 then l1 else h x)) → (∀ x, i ≤ x → ν 111 x = μ 111 x) → ∃ μ', fX9_joined_380 FF rec240 n (nI t) (nI l1) (nI l2) (nI i) ν = rec240 (nI (t + 1)) μ' ∧ (∀ c, c ≠ 111 → μ' c = μ c) ∧ ∀ x, x < P → μ' 111 x = nI (if h x = l2 then l1 else h x) := by
    intro d
    induction d with
    | zero =>
      intro n i ν hi hn q1 q2 q3
      obtain ⟨n, rfl⟩ : ∃ n', n = n' + 1 := ⟨n - 1, by omega⟩
      obtain rfl : i = P := by omega
      refine ⟨ν, ?_, q1, q2⟩
      show fX9_joined_380_b FF _ _ _ _ _ _ ν = _
      unfold fX9_joined_380_b
      rw [q1 89 (by omega), h9, if_pos (nI_le (by omega) (by omega)), nI_add1]
    | succ d ih =>
      intro n i ν hi hn q1 q2 q3
      obtain ⟨n, rfl⟩ : ∃ n', n = n' + 1 := ⟨n - 1, by omega⟩
      obtain ⟨li, ei⟩ := hl i (by omega)
      have new : ∀ z, z = (if h i = l2 then l1 else h i) → ∃ m2 : Mem, (∀ {α : Type} (f : Mem → Option α), wr ν 111 (nI i) (nI z) f = f m2) ∧ ∃ μ', fX9_joined_380 FF rec240 n (nI t) (nI l1) (nI l2) (nI (i + 1)) m2 = rec240 (nI (t + 1)) μ' ∧ (∀ c, c ≠ 111 → μ' c = μ c) ∧ ∀ x, x < P → μ' 111 x = nI (if h x = l2 then l1 else h x) := fun z hz => by
        obtain ⟨m2, f2, a2, b2, g2⟩ := wr_x (μ := ν) (k := 111) (i := i) (nI z) (by show i < 41; omega)
        refine ⟨m2, f2, ih n (i + 1) m2 (by omega) (by omega) (fun c' hc => by rw [g2 c' hc]; exact q1 c' hc) (fun x hx => ?_) (fun x hx => by rw [b2 x (by omega)]; exact q3 x (by omega))⟩
        by_cases e : x = i
        · rw [e, a2, hz]
        · rw [b2 x e]; exact q2 x (by omega)
      have head : fX9_joined_380 FF rec240 (n + 1) (nI t) (nI l1) (nI l2) (nI i) ν = if h i = l2 then wr ν 111 (nI i) (nI l1) (fun m62 => fX9_joined_380 FF rec240 n (nI t) (nI l1) (nI l2) (nI (i + 1)) m62) else wr ν 111 (nI i) (nI (h i)) (fun m61 => fX9_joined_380 FF rec240 n (nI t) (nI l1) (nI l2) (nI (i + 1)) m61) := by
        show fX9_joined_380_b FF _ _ _ _ _ _ ν = _
        unfold fX9_joined_380_b
        rw [q1 89 (by omega), h9, if_neg (nI_ge (by omega) (by omega)), rd_n (by show i < 41; omega), q3 i (by omega), ei, ifeq (by omega) (by omega), rd_n (by show i < 41; omega), q3 i (by omega), ei, nI_add1]
      rw [head]
      by_cases c : h i = l2
      · rw [if_pos c]
        obtain ⟨m2, f2, z⟩ := new l1 (by rw [if_pos c])
        rw [f2]
        exact z
      · rw [if_neg c]
        obtain ⟨m2, f2, z⟩ := new (h i) (by rw [if_neg c])
        rw [f2]
        exact z
  exact loop P FF 0 μ (by omega) (by rw [FF_e]; omega) (fun _ _ => rfl) (fun x hx => by omega) (fun _ _ => rfl)
theorem rn_eq {h : Nat → Nat} {a b x y : Nat} : rn h a b x = rn h a b y ↔ (h x = h y ∨ ((h x = h a ∨ h x = h b) ∧ (h y = h a ∨ h y = h b))) := by
  unfold rn
  by_cases c1 : h x = h b
  · rw [if_pos c1]
    by_cases c2 : h y = h b
    · rw [if_pos c2]
      exact ⟨fun _ => Or.inl (c1.trans c2.symm), fun _ => rfl⟩
    · rw [if_neg c2]
      constructor
      · intro e
        exact Or.inr ⟨Or.inr c1, Or.inl e.symm⟩
      · rintro (e | ⟨_, e | e⟩)
        · exact absurd (e.symm.trans c1) c2
        · exact e.symm
        · exact absurd e c2
  · rw [if_neg c1]
    by_cases c2 : h y = h b
    · rw [if_pos c2]
      constructor
      · intro e
        exact Or.inr ⟨Or.inl e, Or.inr c2⟩
      · rintro (e | ⟨e | e, _⟩)
        · exact absurd (e.trans c2) c1
        · exact e
        · exact absurd e c1
    · rw [if_neg c2]
      constructor
      · intro e
        exact Or.inl e
      · rintro (e | ⟨e1, e2⟩)
        · exact e
        · rcases e1 with e1 | e1
          · rcases e2 with e2 | e2
            · exact e1.trans e2.symm
            · exact absurd e2 c2
          · exact absurd e1 c1
theorem m_take {P M : Nat} {p q u v b f0 : Nat → Nat} {w : Nat → Int32} {ν0 μ : Mem} (hM : M + 1 = P) (hP : P ≤ 41) (h : MC ν0 P p q μ) (huv : UM P u v μ) (hb : ∀ t, t < M → b t < M) (hbi : ∀ s t, s < t → t < M → b s ≠ b t) (hbs : ∀ k, k < M → ∃ t, t < M ∧ b t = k) (hlex : ∀ s t, s < t → t < M → (w (b s)).toInt < (w (b t)).toInt ∨ ((w (b s)).toInt = (w (b t)).toInt ∧ b s < b t)) (h112 : ∀ k, k < M → μ 112 k = w k) :
    ∀ (d n t : Nat) (ν : Mem) (g : Nat → Nat), t + d = M → d < n → (∀ c, c ≠ 111 → c ≠ 113 → c ≠ 114 → c ≠ 115 → ν c = μ c) → (∀ j, j ≠ 2 → j ≠ 3 → ν 115 j = μ 115 j) → ν 115 2 = nI (kr u w b f0 t).2.2.1 → ν 115 3 = (kr u w b f0 t).2.2.2 → (∀ x, x < P → g x < 42 ∧ ν 111 x = nI (g x)) → (∀ x y, x < P → y < P → (g x = g y ↔ (kr u w b f0 t).1 x = (kr u w b f0 t).1 y)) → (∀ s, s < M → ν 113 (b s) = if s < t then 1 else 0) → (∀ k, k < M → ν 114 k = nI ((kr u w b f0 t).2.1 k)) →
    ∃ μ', fX9_joined_240 FF n (nI t) ν = fX9_joined_438 FF FF (nI M + (-1)) μ' ∧ (∀ c, c ≠ 111 → c ≠ 113 → c ≠ 114 → c ≠ 115 → μ' c = μ c) ∧ (∀ j, j ≠ 2 → j ≠ 3 → μ' 115 j = μ 115 j) ∧ μ' 115 2 = nI (kr u w b f0 M).2.2.1 ∧ μ' 115 3 = (kr u w b f0 M).2.2.2 ∧ ∀ k, k < M → μ' 114 k = nI ((kr u w b f0 M).2.1 k) := by
  intro d
  induction d with
  | zero =>
    intro n t ν g ht hn q1 q2 q3 q4 q5 q6 q7 q8
    obtain ⟨n, rfl⟩ : ∃ n', n = n' + 1 := ⟨n - 1, by omega⟩
    obtain rfl : t = M := by omega
    refine ⟨ν, ?_, q1, q2, q3, q4, q8⟩
    have z : ν 89 21 = nI P := by rw [q1 89 (by omega) (by omega) (by omega) (by omega)]; exact h.pt
    show fX9_joined_240_b FF _ _ ν = _
    unfold fX9_joined_240_b
    rw [z, nI_add1, if_pos (nI_le (by omega) (by omega)), ← hM, nI_m2]
  | succ d ih =>
    intro n t ν g ht hn q1 q2 q3 q4 q5 q6 q7 q8
    obtain ⟨n, rfl⟩ : ∃ n', n = n' + 1 := ⟨n - 1, by omega⟩
    have z : ν 89 21 = nI P := by rw [q1 89 (by omega) (by omega) (by omega) (by omega)]; exact h.pt
    have hU : UM P u v ν := huv.ch (q1 108 (by omega) (by omega) (by omega) (by omega)) (q1 109 (by omega) (by omega) (by omega) (by omega))
    have h12 : ∀ k, k < M → ν 112 k = w k := fun k hk => by rw [q1 112 (by omega) (by omega) (by omega) (by omega)]; exact h112 k hk
    obtain ⟨n', j, ⟨j1, j2, j3⟩, e0⟩ := m_select (t := t) (w := w) (L := fun k => ∃ s, s < t ∧ b s = k) (μ := ν) hM hP z h12 (fun k hk => by
      obtain ⟨s, hs, e⟩ := hbs k hk
      have q := q7 s hs
      rw [e] at q
      by_cases c : s < t
      · rw [if_pos c] at q
        exact Or.inl ⟨⟨s, c, e⟩, q⟩
      · rw [if_neg c] at q
        refine Or.inr ⟨fun ⟨s', c', e'⟩ => ?_, q⟩
        exact hbi s' s (by omega) hs (e'.trans e.symm)) (fX9_joined_240 FF n) ⟨b t, hb t (by omega), fun ⟨s, c, e⟩ => hbi s t c (by omega) e⟩
    have jb : j = b t := by
      obtain ⟨s, hs, e⟩ := hbs j j1
      by_cases c : s = t
      · rw [← e, c]
      · by_cases c2 : s < t
        · exact absurd ⟨s, c2, e⟩ j2
        · exfalso
          have l := hlex t s (by omega) hs
          have m := j3 (b t) (hb t (by omega)) (fun ⟨s', c', e'⟩ => hbi s' t c' (by omega) e')
          rw [← e] at m
          omega
    subst jb
    have bt := hb t (by omega)
    obtain ⟨⟨u1, u2⟩, -⟩ := hU (b t) (by omega)
    obtain ⟨⟨u3, u4⟩, -⟩ := hU (b t + 1) (by omega)
    obtain ⟨l1, l2⟩ := q5 _ u1
    obtain ⟨l3, l4⟩ := q5 _ u3
    obtain ⟨νl, hνl⟩ : ∃ νl, νl = upM ν 113 (upd (ν 113) (b t) 1) := ⟨_, rfl⟩
    have kl : ∀ c, c ≠ 113 → νl c = ν c := fun c hc => by rw [hνl, upM_ne hc]
    have k113 : ∀ s, s < M → νl 113 (b s) = if s < t + 1 then 1 else 0 := fun s hs => by
      rw [hνl, upM_self]
      by_cases e : s = t
      · rw [e, upd_s, if_pos (by omega)]
      · have ne : b s ≠ b t := fun w' => by
          by_cases c : s < t
          · exact hbi s t c (by omega) w'
          · exact hbi t s (by omega) hs w'.symm
        rw [upd_ne ne, q7 s hs]
        by_cases c : s < t
        · rw [if_pos c, if_pos (by omega)]
        · rw [if_neg c, if_neg (by omega)]
    have z12 : nI t + 1 = nI (t + 1) := nI_add1 t
    have head : fX9_joined_240 FF (n + 1) (nI t) ν = if g (u (b t)) = g (u (b t + 1)) then fX9_joined_240 FF n (nI (t + 1)) νl else wz νl 114 (nI (b t)) 1 (fun m42 => rd m42 115 2 (fun v43 => wr m42 115 2 (v43 + 1) (fun m44 => rd m44 115 3 (fun v45 => rd m44 112 (nI (b t)) (fun v46 => wr m44 115 3 (v45 + v46) (fun m47 => fX9_joined_380 FF (fX9_joined_240 FF n) FF (nI t) (nI (g (u (b t)))) (nI (g (u (b t + 1)))) 0 m47)))))) := by
      show fX9_joined_240_b FF _ _ ν = _
      unfold fX9_joined_240_b
      rw [z, z12, if_neg (nI_ge (by omega) (by omega)), e0]
      unfold fX9_joined_254_b
      rw [z, nI_add1, if_pos (nI_le (by omega) (by omega)), wz_n (Or.inr rfl) (by show b t < 41; omega), ← hνl, rd_n (by show b t < 41; omega), kl 108 (by omega), u2, rd_n (by show u (b t) < 41; omega), kl 111 (by omega), l2, nI_add1, rd_n (by show b t + 1 < 41; omega), kl 108 (by omega), u4, rd_n (by show u (b t + 1) < 41; omega), kl 111 (by omega), l4, ifeq (by omega) (by omega), z12]
    rw [head]
    by_cases c : g (u (b t)) = g (u (b t + 1))
    · have e := kr_n (w := w) ((q6 _ _ u1 u3).mp c)
      rw [if_pos c]
      exact ih n (t + 1) νl g (by omega) (by omega) (fun c' w1 w2 w3 w4 => by rw [kl c' w2]; exact q1 c' w1 w2 w3 w4) (fun j w1 w2 => by rw [kl 115 (by omega)]; exact q2 j w1 w2) (by rw [kl 115 (by omega), e]; exact q3) (by rw [kl 115 (by omega), e]; exact q4) (fun x hx => by rw [kl 111 (by omega)]; exact q5 x hx) (by rw [e]; exact q6) k113 (fun k hk => by rw [kl 114 (by omega), e]; exact q8 k hk)
    · have cf : ¬ (kr u w b f0 t).1 (u (b t)) = (kr u w b f0 t).1 (u (b t + 1)) := fun q => c ((q6 _ _ u1 u3).mpr q)
      have e := kr_y (w := w) cf
      rw [if_neg c]
      obtain ⟨νa, hνa⟩ : ∃ νa, νa = upM (upM νl 114 (upd (νl 114) (b t) 1)) 115 (upd (upd (ν 115) 2 (nI ((kr u w b f0 t).2.2.1 + 1))) 3 ((kr u w b f0 t).2.2.2 + w (b t))) := ⟨_, rfl⟩
      have ka : ∀ c', c' ≠ 113 → c' ≠ 114 → c' ≠ 115 → νa c' = ν c' := fun c' w1 w2 w3 => by rw [hνa, upM_ne w3, upM_ne w2, kl c' w1]
      have write : wz νl 114 (nI (b t)) 1 (fun m42 => rd m42 115 2 (fun v43 => wr m42 115 2 (v43 + 1) (fun m44 => rd m44 115 3 (fun v45 => rd m44 112 (nI (b t)) (fun v46 => wr m44 115 3 (v45 + v46) (fun m47 => fX9_joined_380 FF (fX9_joined_240 FF n) FF (nI t) (nI (g (u (b t)))) (nI (g (u (b t + 1)))) 0 m47)))))) = fX9_joined_380 FF (fX9_joined_240 FF n) FF (nI t) (nI (g (u (b t)))) (nI (g (u (b t + 1)))) 0 νa := by
        have g1 : upM νl 114 (upd (νl 114) (b t) 1) 115 = ν 115 := by rw [upM_ne (by omega), kl 115 (by omega)]
        have g2 : ∀ Y, upM (upM νl 114 (upd (νl 114) (b t) 1)) 115 Y 112 = ν 112 := fun Y => by rw [upM_ne (by omega), upM_ne (by omega), kl 112 (by omega)]
        rw [wz_n (Or.inr rfl) (by show b t < 41; omega), show (2 : Int32) = nI 2 from rfl, rd_n (by decide), g1, q3, nI_add1, wr_n (by decide), g1, show (3 : Int32) = nI 3 from rfl, rd_n (by decide), upM_self, upd_ne (show (3 : Nat) ≠ 2 by decide), q4, rd_n (by show b t < 41; omega), g2, h12 _ bt, wr_n (by decide), upM_upM, upM_self, ← hνa]
      obtain ⟨νr, r1, r2, r3⟩ := m_rename (t := t) (l1 := g (u (b t))) (l2 := g (u (b t + 1))) (h := g) (μ := νa) hP (by rw [ka 89 (by omega) (by omega) (by omega)]; exact z) l1 l3 (fun x hx => ⟨(q5 x hx).1, by rw [ka 111 (by omega) (by omega) (by omega)]; exact (q5 x hx).2⟩) (fX9_joined_240 FF n)
      rw [write, r1]
      have k115 : νr 115 = upd (upd (ν 115) 2 (nI ((kr u w b f0 t).2.2.1 + 1))) 3 ((kr u w b f0 t).2.2.2 + w (b t)) := by rw [r2 115 (by omega), hνa, upM_self]
      refine ih n (t + 1) νr (rn g (u (b t)) (u (b t + 1))) (by omega) (by omega) (fun c' w1 w2 w3 w4 => by rw [r2 c' w1, ka c' w2 w3 w4]; exact q1 c' w1 w2 w3 w4) (fun j w1 w2 => by rw [k115, upd_ne w2, upd_ne w1]; exact q2 j w1 w2) (by rw [k115, upd_ne (by decide), upd_s, e]) (by rw [k115, upd_s, e]) (fun x hx => ⟨?_, r3 x hx⟩) (fun x y hx hy => ?_) (fun s hs => ?_) (fun k hk => ?_)
      · unfold rn
        by_cases cx : g x = g (u (b t + 1))
        · rw [if_pos cx]; exact l1
        · rw [if_neg cx]; exact (q5 x hx).1
      · rw [e]
        show rn g _ _ x = rn g _ _ y ↔ rn (kr u w b f0 t).1 _ _ x = rn (kr u w b f0 t).1 _ _ y
        rw [rn_eq, rn_eq, q6 x y hx hy, q6 x _ hx u1, q6 x _ hx u3, q6 y _ hy u1, q6 y _ hy u3]
      · rw [r2 113 (by omega), hνa, upM_ne (by omega), upM_ne (by omega)]
        exact k113 s hs
      · rw [r2 114 (by omega), hνa, upM_ne (by omega), upM_self, kl 114 (by omega), e]
        show _ = nI (if k = b t then 1 else (kr u w b f0 t).2.1 k)
        by_cases ek : k = b t
        · rw [ek, upd_s, if_pos rfl]
          rfl
        · rw [upd_ne ek, if_neg ek]
          exact q8 k hk
