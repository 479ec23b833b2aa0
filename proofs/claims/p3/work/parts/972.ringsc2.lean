/-! the class's rings: weights, joins, exchanges -/
def wgt (p q u v : Nat → Nat) (G : Nat → Nat → Int32) (k : Nat) : Int32 :=
  if max (p (u k)) (q (v k)) < min (p (u (k + 1))) (q (v (k + 1))) then G (max (p (u k)) (q (v k))) (min (p (u (k + 1))) (q (v (k + 1)))) + G (min (p (u (k + 1))) (q (v (k + 1)))) (max (p (u k)) (q (v k))) else 0
/-- rows u and v of the class -/
def UV (P : Nat) (u v : Nat → Nat) (μ : Mem) : Prop := ∀ i, i < P → (u i < P ∧ μ 64 i = nI (u i)) ∧ v i < P ∧ μ 65 i = nI (v i)
theorem UV.ch {P : Nat} {u v : Nat → Nat} {μ μ' : Mem} (h : UV P u v μ) (e4 : μ' 64 = μ 64) (e5 : μ' 65 = μ 65) : UV P u v μ' := fun i hi => by
  rw [e4, e5]; exact h i hi
theorem c_weight {k T P i : Nat} {p q u v : Nat → Nat} {G : Nat → Nat → Int32} {μ0 μ : Mem} (hP : P ≤ 41) (hT4 : T ≤ 100000) (hT : ∀ i, i < P → p i ≤ T ∧ q i ≤ T) (hG : GO k T G μ0) (h : RC μ0 P p q μ) (huv : UV P u v μ) (hi : i + 1 < P) : fX5_weightOf FF (nI i) k μ = some (wgt p q u v G i, μ) := by
  obtain ⟨⟨a1, a2⟩, a3, a4⟩ := huv i (by omega)
  obtain ⟨⟨b1, b2⟩, b3, b4⟩ := huv (i + 1) hi
  have t1 := (hT _ a1).1
  have t2 := (hT _ a3).2
  have t3 := (hT _ b1).1
  have t4 := (hT _ b3).2
  unfold fX5_weightOf
  rw [rd_n (by show i < 41; omega), a2, rd_n (by show u i < 41; omega), (h.2.2 _ a1).1, rd_n (by show i < 41; omega), a4, rd_n (by show v i < 41; omega), (h.2.2 _ a3).2, nI_add1, rd_n (by show i + 1 < 41; omega), b2, rd_n (by show u (i + 1) < 41; omega), (h.2.2 _ b1).1, rd_n (by show i + 1 < 41; omega), b4, rd_n (by show v (i + 1) < 41; omega), (h.2.2 _ b3).2, imax_n (by omega) (by omega), imin_n (by omega) (by omega), ifle (by omega) (by omega)]
  unfold wgt
  by_cases c : min (p (u (i + 1))) (q (v (i + 1))) ≤ max (p (u i)) (q (v i))
  · rw [if_pos c, if_neg (by omega)]
  · rw [if_neg c, if_pos (by omega), hG μ h.1 _ _ (by omega) (by omega), cal_n, hG μ h.1 _ _ (by omega) (by omega), cal_n]
theorem c_rename {P l1 l2 : Nat} {h : Nat → Nat} {μ : Mem} (hP : P ≤ 41) (h9 : μ 61 9 = nI P) (h1 : l1 < 42) (h2 : l2 < 42) (hl : ∀ x, x < P → h x < 42 ∧ μ 67 x = nI (h x)) : ∃ μ', fX5_rename FF (nI l2) (nI l1) μ = some μ' ∧ (∀ c, c ≠ 67 → μ' c = μ c) ∧ ∀ x, x < P → μ' 67 x = nI (if h x = l2 then l1 else h x) := by
  have loop : ∀ (d n i : Nat) (ν : Mem), i + d = P → d < n → (∀ c, c ≠ 67 → ν c = μ c) → (∀ x, x < i → ν 67 x = nI (if h x = l2 then l1 else h x)) → (∀ x, i ≤ x → ν 67 x = μ 67 x) → ∃ μ', fX5_rename_2 FF n (nI l2) (nI l1) (nI i) ν = some μ' ∧ (∀ c, c ≠ 67 → μ' c = μ c) ∧ ∀ x, x < P → μ' 67 x = nI (if h x = l2 then l1 else h x) := by
    intro d
    induction d with
    | zero =>
      intro n i ν hi hn q1 q2 q3
      obtain ⟨n, rfl⟩ : ∃ n', n = n' + 1 := ⟨n - 1, by omega⟩
      obtain rfl : i = P := by omega
      refine ⟨ν, ?_, q1, q2⟩
      show fX5_rename_2_b FF _ _ _ _ ν = _
      unfold fX5_rename_2_b
      rw [q1 61 (by omega), h9, if_pos (nI_le (by omega) (by omega))]
    | succ d ih =>
      intro n i ν hi hn q1 q2 q3
      obtain ⟨n, rfl⟩ : ∃ n', n = n' + 1 := ⟨n - 1, by omega⟩
      obtain ⟨li, ei⟩ := hl i (by omega)
      obtain ⟨m2, f2, a2, b2, g2⟩ := wr_x (μ := ν) (k := 67) (i := i) (nI l1) (by show i < 41; omega)
      by_cases c : h i = l2
      · obtain ⟨μ', w1, w2⟩ := ih n (i + 1) m2 (by omega) (by omega) (fun c' hc => by rw [g2 c' hc]; exact q1 c' hc) (fun x hx => by
          by_cases e : x = i
          · rw [e, a2, if_pos c]
          · rw [b2 x e]; exact q2 x (by omega)) (fun x hx => by rw [b2 x (by omega)]; exact q3 x (by omega))
        refine ⟨μ', ?_, w2⟩
        show fX5_rename_2_b FF _ _ _ _ ν = _
        unfold fX5_rename_2_b
        rw [q1 61 (by omega), h9, if_neg (nI_ge (by omega) (by omega)), rd_n (by show i < 41; omega), q3 i (by omega), ei, ifeq (by omega) (by omega), if_pos c, f2, nI_add1]
        exact w1
      · obtain ⟨μ', w1, w2⟩ := ih n (i + 1) ν (by omega) (by omega) q1 (fun x hx => by
          by_cases e : x = i
          · rw [e, q3 i (by omega), ei, if_neg c]
          · exact q2 x (by omega)) (fun x hx => q3 x (by omega))
        refine ⟨μ', ?_, w2⟩
        show fX5_rename_2_b FF _ _ _ _ ν = _
        unfold fX5_rename_2_b
        rw [q1 61 (by omega), h9, if_neg (nI_ge (by omega) (by omega)), rd_n (by show i < 41; omega), q3 i (by omega), ei, ifeq (by omega) (by omega), if_neg c, nI_add1]
        exact w1
  exact loop P FF 0 μ (by omega) (by rw [FF_e]; omega) (fun _ _ => rfl) (fun x hx => by omega) (fun _ _ => rfl)
theorem c_take {P M : Nat} {p q u v b f0 : Nat → Nat} {w : Nat → Int32} {μ0 μ : Mem} (hM : M + 1 = P) (hP : P ≤ 41) (h : RC μ0 P p q μ) (huv : UV P u v μ) (hu : ∀ i, i < P → u i < P) (hb : ∀ t, t < M → b t < M) (hbi : ∀ s t, s < t → t < M → b s ≠ b t) (hbs : ∀ k, k < M → ∃ t, t < M ∧ b t = k) (h69 : ∀ t, t < M → μ 69 t = nI (b t)) (h68 : ∀ k, k < M → μ 68 k = w k) (hf : ∀ x, x < P → f0 x < 42 ∧ μ 67 x = nI (f0 x)) :
    ∃ μ', fX5_takeJoins FF μ = some μ' ∧ (∀ c, c ≠ 61 → c ≠ 67 → c ≠ 70 → μ' c = μ c) ∧ (∀ j, j ≠ 13 → j ≠ 14 → μ' 61 j = μ 61 j) ∧ μ' 61 13 = nI (kr u w b f0 M).2.2.1 ∧ μ' 61 14 = (kr u w b f0 M).2.2.2 ∧ ∀ k, k < M → μ' 70 k = nI ((kr u w b f0 M).2.1 k) := by
  have inv := kr_inv (w := w) hM hu hb hbi (fun x hx => (hf x hx).1)
  have loop : ∀ (d n t : Nat) (ν : Mem), t + d = M → d < n → (∀ c, c ≠ 61 → c ≠ 67 → c ≠ 70 → ν c = μ c) → (∀ j, j ≠ 13 → j ≠ 14 → ν 61 j = μ 61 j) → ν 61 13 = nI (kr u w b f0 t).2.2.1 → ν 61 14 = (kr u w b f0 t).2.2.2 → (∀ x, x < P → ν 67 x = nI ((kr u w b f0 t).1 x)) → (∀ s, s < t → ν 70 (b s) = nI ((kr u w b f0 t).2.1 (b s))) →
      ∃ μ', fX5_takeJoins_12 FF n (nI t) ν = some μ' ∧ (∀ c, c ≠ 61 → c ≠ 67 → c ≠ 70 → μ' c = μ c) ∧ (∀ j, j ≠ 13 → j ≠ 14 → μ' 61 j = μ 61 j) ∧ μ' 61 13 = nI (kr u w b f0 M).2.2.1 ∧ μ' 61 14 = (kr u w b f0 M).2.2.2 ∧ ∀ k, k < M → μ' 70 k = nI ((kr u w b f0 M).2.1 k) := by
    intro d
    induction d with
    | zero =>
      intro n t ν ht hn q1 q2 q3 q4 q5 q6
      obtain ⟨n, rfl⟩ : ∃ n', n = n' + 1 := ⟨n - 1, by omega⟩
      obtain rfl : t = M := by omega
      refine ⟨ν, ?_, q1, q2, q3, q4, fun k hk => ?_⟩
      · show fX5_takeJoins_12_b FF _ _ ν = _
        unfold fX5_takeJoins_12_b
        rw [q2 9 (by decide) (by decide), h.2.1, nI_add1, if_pos (nI_le (by omega) (by omega))]
      · obtain ⟨s, hs, e⟩ := hbs k hk
        rw [← e]
        exact q6 s hs
    | succ d ih =>
      intro n t ν ht hn q1 q2 q3 q4 q5 q6
      obtain ⟨n, rfl⟩ : ∃ n', n = n' + 1 := ⟨n - 1, by omega⟩
      obtain ⟨a1, a2, a3, a4, a5, a6, a7, a8⟩ := inv t (by omega)
      have bt := hb t (by omega)
      have bt40 : b t < 40 := by omega
      obtain ⟨⟨u1, u2⟩, -⟩ := huv (b t) (by omega)
      obtain ⟨⟨u3, u4⟩, -⟩ := huv (b t + 1) (by omega)
      have l1 := a1 _ u1
      have l2 := a1 _ u3
      have q9 : ν 61 9 = nI P := by rw [q2 9 (by decide) (by decide)]; exact h.2.1
      have q64 : ν 64 = μ 64 := q1 64 (by omega) (by omega) (by omega)
      have head : fX5_takeJoins_12 FF (n + 1) (nI t) ν = if (kr u w b f0 t).1 (u (b t)) = (kr u w b f0 t).1 (u (b t + 1)) then fX5_takeJoins_72 FF (fX5_takeJoins_12 FF n) (nI t) (nI (b t)) (nI ((kr u w b f0 t).1 (u (b t)))) (nI ((kr u w b f0 t).1 (u (b t + 1)))) 0 (nI (b t)) ν else fX5_takeJoins_72 FF (fX5_takeJoins_12 FF n) (nI t) (nI (b t)) (nI ((kr u w b f0 t).1 (u (b t)))) (nI ((kr u w b f0 t).1 (u (b t + 1)))) 1 (nI (b t)) ν := by
        show fX5_takeJoins_12_b FF _ _ ν = _
        unfold fX5_takeJoins_12_b
        rw [q9, nI_add1, if_neg (nI_ge (by omega) (by omega)), rd_n (by show t < 40; omega), q1 69 (by omega) (by omega) (by omega), h69 t (by omega), rd_n (by show b t < 41; omega), q64, u2, rd_n (by show u (b t) < 41; omega), q5 _ u1, nI_add1, rd_n (by show b t + 1 < 41; omega), q64, u4, rd_n (by show u (b t + 1) < 41; omega), q5 _ u3, ifeq (by omega) (by omega)]
      rw [head]
      by_cases c : (kr u w b f0 t).1 (u (b t)) = (kr u w b f0 t).1 (u (b t + 1))
      · have e := kr_n (w := w) c
        rw [if_pos c]
        have step : fX5_takeJoins_72 FF (fX5_takeJoins_12 FF n) (nI t) (nI (b t)) (nI ((kr u w b f0 t).1 (u (b t)))) (nI ((kr u w b f0 t).1 (u (b t + 1)))) 0 (nI (b t)) ν = fX5_takeJoins_12 FF n (nI (t + 1)) (upM ν 70 (upd (ν 70) (b t) 0)) := by
          unfold fX5_takeJoins_72
          rw [wz_n (Or.inl rfl) (by exact bt40), rd_n (by exact bt40), upM_self, upd_s, if_pos rfl, nI_add1]
        rw [step]
        refine ih n (t + 1) _ (by omega) (by omega) (fun c' w1 w2 w3 => by rw [upM_ne w3]; exact q1 c' w1 w2 w3) (fun j w1 w2 => by rw [upM_ne (by omega)]; exact q2 j w1 w2) (by rw [upM_ne (by omega), e]; exact q3) (by rw [upM_ne (by omega), e]; exact q4) (fun x hx => by rw [upM_ne (by omega), e]; exact q5 x hx) (fun s hs => ?_)
        rw [upM_self, e]
        by_cases es : s = t
        · rw [es, upd_s, a4 (b t) bt (fun s' hs' => hbi s' t hs' (by omega))]
          rfl
        · rw [upd_ne (hbi s t (by omega) (by omega))]
          exact q6 s (by omega)
      · have e := kr_y (w := w) c
        rw [if_neg c]
        obtain ⟨νa, hνa⟩ : ∃ νa, νa = upM (upM ν 70 (upd (ν 70) (b t) 1)) 61 (upd (upd (ν 61) 13 (nI ((kr u w b f0 t).2.2.1 + 1))) 14 ((kr u w b f0 t).2.2.2 + w (b t))) := ⟨_, rfl⟩
        have k67 : νa 67 = ν 67 := by rw [hνa, upM_ne (by omega), upM_ne (by omega)]
        obtain ⟨νr, r1, r2, r3⟩ := c_rename (P := P) (l1 := (kr u w b f0 t).1 (u (b t))) (l2 := (kr u w b f0 t).1 (u (b t + 1))) (h := (kr u w b f0 t).1) (μ := νa) hP (by rw [hνa, upM_self, upd_ne (by decide), upd_ne (by decide)]; exact q9) l1 l2 (fun x hx => ⟨a1 x hx, by rw [k67]; exact q5 x hx⟩)
        have step : fX5_takeJoins_72 FF (fX5_takeJoins_12 FF n) (nI t) (nI (b t)) (nI ((kr u w b f0 t).1 (u (b t)))) (nI ((kr u w b f0 t).1 (u (b t + 1)))) 1 (nI (b t)) ν = fX5_takeJoins_12 FF n (nI (t + 1)) νr := by
          have g1 : upM ν 70 (upd (ν 70) (b t) 1) 61 = ν 61 := upM_ne (by omega)
          have g2 : ∀ Y, upM (upM ν 70 (upd (ν 70) (b t) 1)) 61 Y 68 = μ 68 := fun Y => by rw [upM_ne (by omega), upM_ne (by omega), q1 68 (by omega) (by omega) (by omega)]
          unfold fX5_takeJoins_72
          rw [wz_n (Or.inr rfl) (by exact bt40), rd_n (by exact bt40), upM_self, upd_s, if_neg one_ne, st_n, g1, rd_n (by exact bt40), g2, h68 _ bt, st_n, upM_upM, upM_self, upd_ne (show (14 : Nat) ≠ 13 by decide), q3, q4, nI_add1, ← hνa, r1, cav_n, nI_add1]
        rw [step]
        have ka : ∀ c', c' ≠ 61 → c' ≠ 67 → c' ≠ 70 → νr c' = μ c' := fun c' w1 w2 w3 => by rw [r2 c' w2, hνa, upM_ne w1, upM_ne w3]; exact q1 c' w1 w2 w3
        have k61 : νr 61 = νa 61 := r2 61 (by omega)
        have k70 : νr 70 = upd (ν 70) (b t) 1 := by rw [r2 70 (by omega), hνa, upM_ne (by omega), upM_self]
        refine ih n (t + 1) νr (by omega) (by omega) ka (fun j w1 w2 => by rw [k61, hνa, upM_self, upd_ne w2, upd_ne w1]; exact q2 j w1 w2) ?_ ?_ (fun x hx => ?_) (fun s hs => ?_)
        · rw [k61, hνa, upM_self, upd_ne (by decide), upd_s, e]
        · rw [k61, hνa, upM_self, upd_s, e]
        · rw [r3 x hx, e]
          rfl
        · rw [k70, e]
          show _ = nI (if b s = b t then 1 else (kr u w b f0 t).2.1 (b s))
          by_cases es : s = t
          · rw [es, upd_s, if_pos rfl]
            rfl
          · have nb := hbi s t (by omega) (by omega)
            rw [upd_ne nb, if_neg nb]
            exact q6 s (by omega)
  obtain ⟨ν, hν⟩ : ∃ ν, ν = upM μ 61 (upd (upd (μ 61) 13 0) 14 0) := ⟨_, rfl⟩
  have l := loop M FF 0 ν (by omega) (by rw [FF_e]; omega) (fun c w1 _ _ => by rw [hν, upM_ne w1]) (fun j w1 w2 => by rw [hν, upM_self, upd_ne w2, upd_ne w1]) (by rw [hν, upM_self, upd_ne (by decide), upd_s]; rfl) (by rw [hν, upM_self, upd_s]; rfl) (fun x hx => by rw [hν, upM_ne (by omega)]; exact (hf x hx).2) (fun s hs => by omega)
  have e : fX5_takeJoins FF μ = fX5_takeJoins_12 FF FF (nI 0) ν := by
    unfold fX5_takeJoins
    rw [st_n, st_n, upM_upM, upM_self, ← hν]
    rfl
  rw [e]
  exact l
