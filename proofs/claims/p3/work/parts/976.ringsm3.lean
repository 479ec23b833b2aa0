/-! the reference's rings: what is exchanged, and all together -/
theorem m_exch {P k : Nat} {u v : Nat → Nat} {μ : Mem} (hP : P ≤ 41) (hU : UM P u v μ) (hk : k + 1 < P) : fX9_exchange FF (nI k) μ = some (upM μ 110 (swp (μ 110) (u k) (u (k + 1)))) := by
  obtain ⟨⟨u1, u2⟩, -⟩ := hU k (by omega)
  obtain ⟨⟨u3, u4⟩, -⟩ := hU (k + 1) (by omega)
  unfold fX9_exchange
  rw [rd_n (by show k < 41; omega), u2, rd_n (by show u k < 41; omega), rd_n (by show k < 41; omega), u2, nI_add1, rd_n (by show k + 1 < 41; omega), u4, rd_n (by show u (k + 1) < 41; omega), wr_n (by show u k < 41; omega), rd_n (by show k + 1 < 41; omega), upM_ne (by omega), u4, wr_n (by show u (k + 1) < 41; omega), upM_upM, upM_self]
  rfl
theorem m_exU {T P M : Nat} {p q u v tk : Nat → Nat} {G : Nat → Nat → Int32} {ν0 μ : Mem} (hM : M + 1 = P) (hP : P ≤ 41) (hT4 : T ≤ 100000) (hT : ∀ i, i < P → p i ≤ T ∧ q i ≤ T) (hG : GM T G ν0) (h : MC ν0 P p q μ) (huv : UM P u v μ) (ht : ∀ k, k < M → tk k ≤ 1 ∧ μ 114 k = nI (tk k)) : ∀ (d n i : Nat) (ν : Mem) (π : Nat → Nat), i + d = M → d < n → (∀ c, c ≠ 110 → ν c = μ c) → (∀ x, x < P → ν 110 x = nI (π x)) → (∀ x, x < P → exL u (Lup (sU tk (eaF p q u v)) d i) π x < P) → ∃ μ', fX9_joined_489 FF n (nI i) ν = some (cst P p q G (exL u (Lup (sU tk (eaF p q u v)) d i) π), μ') ∧ (∀ c, c ≠ 110 → μ' c = μ c) ∧ ∀ x, x < P → μ' 110 x = nI (exL u (Lup (sU tk (eaF p q u v)) d i) π x) := by
  intro d
  induction d with
  | zero =>
    intro n i ν π hi hn q1 q2 q3
    obtain ⟨n, rfl⟩ : ∃ n', n = n' + 1 := ⟨n - 1, by omega⟩
    have hR : MC ν0 P p q ν := h.ch (fun c c1 c2 => q1 c (by omega)) (fun j _ => by rw [q1 89 (by omega)])
    refine ⟨ν, ?_, q1, q2⟩
    show fX9_joined_489_b FF _ _ ν = _
    unfold fX9_joined_489_b
    rw [hR.pt, nI_add1, if_pos (nI_le (by omega) (by omega)), m_costAll hP hT hG hR q3 q2, cal_n]
  | succ d ih =>
    intro n i ν π hi hn q1 q2 q3
    obtain ⟨n, rfl⟩ : ∃ n', n = n' + 1 := ⟨n - 1, by omega⟩
    obtain ⟨t1, t2⟩ := ht i (by omega)
    have hR : MC ν0 P p q ν := h.ch (fun c c1 c2 => q1 c (by omega)) (fun j _ => by rw [q1 89 (by omega)])
    have hU : UM P u v ν := huv.ch (q1 108 (by omega)) (q1 109 (by omega))
    obtain ⟨⟨u1, u2⟩, u5, u6⟩ := hU i (by omega)
    obtain ⟨⟨u3, u4⟩, -⟩ := hU (i + 1) (by omega)
    have tt1 := (hT _ u1).1
    have tt2 := (hT _ u5).2
    have el : Lup (sU tk (eaF p q u v)) (d + 1) i = if sU tk (eaF p q u v) i = true then i :: Lup (sU tk (eaF p q u v)) d (i + 1) else Lup (sU tk (eaF p q u v)) d (i + 1) := rfl
    have head : fX9_joined_489 FF (n + 1) (nI i) ν = if sU tk (eaF p q u v) i = true then fX9_joined_489 FF n (nI (i + 1)) (upM ν 110 (swp (ν 110) (u i) (u (i + 1)))) else fX9_joined_489 FF n (nI (i + 1)) ν := by
      show fX9_joined_489_b FF _ _ ν = _
      unfold fX9_joined_489_b
      rw [hR.pt, nI_add1, if_neg (nI_ge (by omega) (by omega)), rd_n (by show i < 41; omega), q1 114 (by omega), t2, show (0 : Int32) = nI 0 from rfl, ifeq (by omega) (by omega)]
      unfold sU
      by_cases c : tk i = 0
      · rw [if_pos c, if_neg]
        rw [Bool.and_eq_true, decide_eq_true_iff]
        omega
      · rw [if_neg c, rd_n (by show i < 41; omega), u2, rd_n (by show u i < 41; omega), (hR.2.2 _ u1).1, rd_n (by show i < 41; omega), u6, rd_n (by show v i < 41; omega), (hR.2.2 _ u5).2, ifle (by omega) (by omega)]
        have ee : eaF p q u v i = decide (q (v i) < p (u i)) := rfl
        by_cases e : p (u i) ≤ q (v i)
        · rw [if_pos e, if_neg]
          rw [Bool.and_eq_true, ee, decide_eq_true_iff, decide_eq_true_iff]
          omega
        · rw [if_neg e, if_pos (by rw [Bool.and_eq_true, ee, decide_eq_true_iff, decide_eq_true_iff]; omega), m_exch hP hU (by omega), cav_n]
    rw [el] at q3 ⊢
    rw [head]
    by_cases c : sU tk (eaF p q u v) i = true
    · rw [if_pos c] at q3 ⊢
      rw [if_pos c]
      exact ih n (i + 1) _ (swN π (u i) (u (i + 1))) (by omega) (by omega) (fun c' hc => by rw [upM_ne hc]; exact q1 c' hc) (fun x hx => by rw [upM_self]; exact swp_swN u1 u3 q2 x hx) q3
    · rw [if_neg c] at q3 ⊢
      rw [if_neg c]
      exact ih n (i + 1) ν π (by omega) (by omega) q1 q2 q3
theorem m_exD {T P M : Nat} {p q u v tk : Nat → Nat} {G : Nat → Nat → Int32} {ν0 μ : Mem} (hM : M + 1 = P) (hP : P ≤ 41) (hT4 : T ≤ 100000) (hT : ∀ i, i < P → p i ≤ T ∧ q i ≤ T) (hG : GM T G ν0) (h : MC ν0 P p q μ) (huv : UM P u v μ) (ht : ∀ k, k < M → tk k ≤ 1 ∧ μ 114 k = nI (tk k)) : ∀ (i n : Nat) (ν : Mem) (π : Nat → Nat), i ≤ M → i < n → (∀ c, c ≠ 110 → ν c = μ c) → (∀ x, x < P → ν 110 x = nI (π x)) → (∀ x, x < P → exL u (Ldn (sD tk (eaF p q u v)) i ++ Lup (sU tk (eaF p q u v)) M 0) π x < P) → ∃ μ', fX9_joined_438 FF n (nI i + (-1)) ν = some (cst P p q G (exL u (Ldn (sD tk (eaF p q u v)) i ++ Lup (sU tk (eaF p q u v)) M 0) π), μ') ∧ (∀ c, c ≠ 110 → μ' c = μ c) ∧ ∀ x, x < P → μ' 110 x = nI (exL u (Ldn (sD tk (eaF p q u v)) i ++ Lup (sU tk (eaF p q u v)) M 0) π x) := by
  intro i
  induction i with
  | zero =>
    intro n ν π hi hn q1 q2 q3
    obtain ⟨n, rfl⟩ : ∃ n', n = n' + 1 := ⟨n - 1, by omega⟩
    obtain ⟨μ', w1, w2, w3⟩ := m_exU hM hP hT4 hT hG h huv ht M FF 0 ν π (by omega) (by rw [FF_e]; omega) q1 q2 q3
    refine ⟨μ', ?_, w2, w3⟩
    show fX9_joined_438_b FF _ _ ν = _
    unfold fX9_joined_438_b
    rw [if_pos idx_neg]
    exact w1
  | succ i ih =>
    intro n ν π hi hn q1 q2 q3
    obtain ⟨n, rfl⟩ : ∃ n', n = n' + 1 := ⟨n - 1, by omega⟩
    obtain ⟨t1, t2⟩ := ht i (by omega)
    have hR : MC ν0 P p q ν := h.ch (fun c c1 c2 => q1 c (by omega)) (fun j _ => by rw [q1 89 (by omega)])
    have hU : UM P u v ν := huv.ch (q1 108 (by omega)) (q1 109 (by omega))
    obtain ⟨⟨u1, u2⟩, u5, u6⟩ := hU i (by omega)
    obtain ⟨⟨u3, u4⟩, -⟩ := hU (i + 1) (by omega)
    have tt1 := (hT _ u1).1
    have tt2 := (hT _ u5).2
    have el : Ldn (sD tk (eaF p q u v)) (i + 1) = if sD tk (eaF p q u v) i = true then i :: Ldn (sD tk (eaF p q u v)) i else Ldn (sD tk (eaF p q u v)) i := rfl
    have head : fX9_joined_438 FF (n + 1) (nI (i + 1) + (-1)) ν = if sD tk (eaF p q u v) i = true then fX9_joined_438 FF n (nI i + (-1)) (upM ν 110 (swp (ν 110) (u i) (u (i + 1)))) else fX9_joined_438 FF n (nI i + (-1)) ν := by
      show fX9_joined_438_b FF _ _ ν = _
      unfold fX9_joined_438_b
      rw [nI_addm1, if_neg (nI_pos (by omega)), rd_n (by show i < 41; omega), q1 114 (by omega), t2, show (0 : Int32) = nI 0 from rfl, ifeq (by omega) (by omega)]
      unfold sD
      by_cases c : tk i = 0
      · rw [if_pos c, if_neg]
        rw [Bool.and_eq_true, decide_eq_true_iff]
        omega
      · rw [if_neg c, rd_n (by show i < 41; omega), u2, rd_n (by show u i < 41; omega), (hR.2.2 _ u1).1, rd_n (by show i < 41; omega), u6, rd_n (by show v i < 41; omega), (hR.2.2 _ u5).2, iflt (by omega) (by omega)]
        have ee : eaF p q u v i = decide (q (v i) < p (u i)) := rfl
        by_cases e : q (v i) < p (u i)
        · rw [if_pos e, if_neg]
          rw [ee, decide_eq_true e, Bool.and_eq_true]
          exact fun w => by cases w.2
        · rw [if_neg e, if_pos (by
            rw [ee, decide_eq_false e, Bool.and_eq_true, decide_eq_true_iff]
            exact ⟨by omega, rfl⟩), m_exch hP hU (by omega), cav_n]
    rw [el] at q3 ⊢
    rw [head]
    by_cases c : sD tk (eaF p q u v) i = true
    · rw [if_pos c] at q3 ⊢
      rw [if_pos c]
      exact ih n _ (swN π (u i) (u (i + 1))) (by omega) (by omega) (fun c' hc => by rw [upM_ne hc]; exact q1 c' hc) (fun x hx => by rw [upM_self]; exact swp_swN u1 u3 q2 x hx) q3
    · rw [if_neg c] at q3 ⊢
      rw [if_neg c]
      exact ih n ν π (by omega) (by omega) q1 q2 q3
/-- the one ring -/
theorem rF_ring {P M : Nat} {p q f0 : Nat → Nat} {G : Nat → Nat → Int32} (hM : M + 1 = P) (hP : P ≤ 41) (hf : lbO P p q f0) : PB P (rF P M p q G f0) ∧ ∀ x y, x < P → y < P → Rch (rF P M p q G f0) x y := by
  obtain ⟨p1, p2, p3⟩ := so_perm (w := fun i => nI (p i)) (N := P) (by omega)
  obtain ⟨j1, j2, j3⟩ := so_perm (w := rW P p q G) (N := M) (by omega)
  exact one_ring (L := 42) (w := rW P p q G) (f0 := f0) (ea := eaF p q (rU P p) (rU P q)) hM p1 p3 j1 (fun s t h1 h2 e => by
    have := j2 s t (by omega) h2 e
    omega) j3 hf.1 (bhN_pb (by omega)) (fun x hx => (hf.2 x hx).1) (fun x y hx hy e => ((hf.2 x hx).2 y hy).mp e)
theorem m_joined {T P M : Nat} {p q f0 : Nat → Nat} {G : Nat → Nat → Int32} {μ : Mem} (hM : M + 1 = P) (hP : P ≤ 41) (hT4 : T ≤ 100000) (hT : ∀ i, i < P → p i ≤ T ∧ q i ≤ T) (hG : GM T G μ) (h : MC μ P p q μ) (hf : lbO P p q f0) : ∃ μ', fX9_joined FF μ = some (cst P p q G (rF P M p q G f0), μ') ∧ MC μ P p q μ' ∧ μ' 89 33 = 1 ∧ μ' 115 0 = nI (Kn (rB P p q) P) ∧ μ' 115 1 = cst P p q G (rB P p q) ∧ μ' 115 2 = nI (rK P M p q G f0).2.2.1 ∧ μ' 115 3 = (rK P M p q G f0).2.2.2 ∧ ∀ x, x < P → μ' 110 x = nI (rF P M p q G f0 x) := by
  obtain ⟨p1, p2, p3⟩ := so_perm (w := fun i => nI (p i)) (N := P) (by omega)
  obtain ⟨v1, v2, v3⟩ := so_perm (w := fun i => nI (q i)) (N := P) (by omega)
  obtain ⟨μa, hμa⟩ : ∃ μa, μa = upM (upM μ 108 (srI (gtK (μ 107)) (μ 108) P)) 109 (srI (gtK (μ 106)) (μ 109) P) := ⟨_, rfl⟩
  have ka : ∀ c, c ≠ 108 → c ≠ 109 → μa c = μ c := fun c c1 c2 => by rw [hμa, upM_ne c2, upM_ne c1]
  have ra : MC μ P p q μa := h.ch (fun c c1 c2 => ka c (by omega) (by omega)) (fun j _ => by rw [ka 89 (by omega) (by omega)])
  have ua : UM P (rU P p) (rU P q) μa := fun i hi => by
    refine ⟨⟨p1 i hi, ?_⟩, v1 i hi, ?_⟩
    · rw [hμa, upM_ne (by omega), upM_self]
      exact so_eq (by omega) (fun s hs => (h.2.2 s hs).1) i hi
    · rw [hμa, upM_self]
      exact so_eq (by omega) (fun s hs => (h.2.2 s hs).2) i hi
  have e1 : fX9_joined FF μ = fX9_joined_26 FF FF (nI 0) μa := by
    unfold fX9_joined
    have z1 : upM μ 108 (srI (gtK (μ 107)) (μ 108) P) 106 = μ 106 := upM_ne (by omega)
    have z2 : upM μ 108 (srI (gtK (μ 107)) (μ 108) P) 109 = μ 109 := upM_ne (by omega)
    have z3 : upM μ 108 (srI (gtK (μ 107)) (μ 108) P) 89 21 = nI P := by rw [upM_ne (by omega)]; exact h.pt
    rw [m_sorts (by omega) (by omega) h.pt (by show P ≤ 41; omega) (by show P ≤ 41; omega), cav_n, m_sorts (by omega) (by omega) z3 (by show P ≤ 41; omega) (by show P ≤ 41; omega), cav_n, z1, z2, ← hμa]
    rfl
  have bloop : ∀ (d n i : Nat) (ν : Mem), i + d = P → d < n → (∀ c, c ≠ 110 → c ≠ 111 → c ≠ 113 → c ≠ 114 → ν c = μa c) → (∀ j, j < i → ν 110 (rU P p j) = nI (rU P q j) ∧ ν 111 j = -1 ∧ ν 113 j = 0 ∧ ν 114 j = 0) → ∃ μ', fX9_joined_26 FF n (nI i) ν = st μ' 89 33 1 (fun m3 => wr m3 115 0 0 (fun m4 => wr m4 115 2 0 (fun m5 => wr m5 115 3 0 (fun m6 => fX9_joined_106 FF FF 0 m6)))) ∧ (∀ c, c ≠ 110 → c ≠ 111 → c ≠ 113 → c ≠ 114 → μ' c = μa c) ∧ ∀ j, j < P → μ' 110 (rU P p j) = nI (rU P q j) ∧ μ' 111 j = -1 ∧ μ' 113 j = 0 ∧ μ' 114 j = 0 := by
    intro d
    induction d with
    | zero =>
      intro n i ν hi hn q1 q2
      obtain ⟨n, rfl⟩ : ∃ n', n = n' + 1 := ⟨n - 1, by omega⟩
      obtain rfl : i = P := by omega
      refine ⟨ν, ?_, q1, q2⟩
      have z : ν 89 21 = nI i := by rw [q1 89 (by omega) (by omega) (by omega) (by omega)]; exact ra.pt
      show fX9_joined_26_b FF _ _ ν = _
      unfold fX9_joined_26_b
      rw [z, if_pos (nI_le (by omega) (by omega))]
    | succ d ih =>
      intro n i ν hi hn q1 q2
      obtain ⟨n, rfl⟩ : ∃ n', n = n' + 1 := ⟨n - 1, by omega⟩
      obtain ⟨⟨u1, u2⟩, u3, u4⟩ := ua i (by omega)
      have z : ν 89 21 = nI P := by rw [q1 89 (by omega) (by omega) (by omega) (by omega)]; exact ra.pt
      obtain ⟨ν', hν'⟩ : ∃ ν', ν' = upM (upM (upM (upM ν 110 (upd (ν 110) (rU P p i) (nI (rU P q i)))) 111 (upd (ν 111) i (-1))) 113 (upd (ν 113) i 0)) 114 (upd (ν 114) i 0) := ⟨_, rfl⟩
      have g1 : upM ν 110 (upd (ν 110) (rU P p i) (nI (rU P q i))) 111 = ν 111 := upM_ne (by omega)
      have g2 : upM (upM ν 110 (upd (ν 110) (rU P p i) (nI (rU P q i)))) 111 (upd (ν 111) i (-1)) 113 = ν 113 := by rw [upM_ne (by omega), upM_ne (by omega)]
      have g3 : upM (upM (upM ν 110 (upd (ν 110) (rU P p i) (nI (rU P q i)))) 111 (upd (ν 111) i (-1))) 113 (upd (ν 113) i 0) 114 = ν 114 := by rw [upM_ne (by omega), upM_ne (by omega), upM_ne (by omega)]
      have step : fX9_joined_26 FF (n + 1) (nI i) ν = fX9_joined_26 FF n (nI (i + 1)) ν' := by
        show fX9_joined_26_b FF _ _ ν = _
        unfold fX9_joined_26_b
        rw [z, if_neg (nI_ge (by omega) (by omega)), rd_n (by show i < 41; omega), q1 108 (by omega) (by omega) (by omega) (by omega), u2, rd_n (by show i < 41; omega), q1 109 (by omega) (by omega) (by omega) (by omega), u4, wr_n (by show rU P p i < 41; omega), wr_n (by show i < 41; omega), g1, wz_n (Or.inl rfl) (by show i < 41; omega), g2, wz_n (Or.inl rfl) (by show i < 41; omega), g3, nI_add1, ← hν']
      have k110 : ν' 110 = upd (ν 110) (rU P p i) (nI (rU P q i)) := by rw [hν', upM_ne (by omega), upM_ne (by omega), upM_ne (by omega), upM_self]
      have k111 : ν' 111 = upd (ν 111) i (-1) := by rw [hν', upM_ne (by omega), upM_ne (by omega), upM_self]
      have k113 : ν' 113 = upd (ν 113) i 0 := by rw [hν', upM_ne (by omega), upM_self]
      have k114 : ν' 114 = upd (ν 114) i 0 := by rw [hν', upM_self]
      rw [step]
      refine ih n (i + 1) ν' (by omega) (by omega) (fun c w1 w2 w3 w4 => by rw [hν', upM_ne w4, upM_ne w3, upM_ne w2, upM_ne w1]; exact q1 c w1 w2 w3 w4) (fun j hj => ?_)
      rw [k110, k111, k113, k114]
      by_cases e : j = i
      · rw [e, upd_s, upd_s, upd_s, upd_s]
        exact ⟨rfl, rfl, rfl, rfl⟩
      · rw [upd_ne (show rU P p j ≠ rU P p i from fun w => e (p2 j i (by omega) (by omega) w)), upd_ne e, upd_ne e, upd_ne e]
        exact q2 j (by omega)
  obtain ⟨μb, b1, b2, b3⟩ := bloop P FF 0 μa (by omega) (by rw [FF_e]; omega) (fun _ _ _ _ _ => rfl) (fun j hj => by omega)
  have hpb : PB P (rB P p q) := bhN_pb (by omega)
  have h110 : ∀ x, x < P → μb 110 x = nI (rB P p q x) := fun x hx => by
    obtain ⟨j, hj, e⟩ := p3 x hx
    have e' : rU P p j = x := e
    have z : rB P p q x = rU P q j := by rw [← e']; exact bhN_u p2 P (Nat.le_refl _) j hj
    rw [z, ← e']
    exact (b3 j hj).1
  obtain ⟨μc, hμc⟩ : ∃ μc, μc = upM (upM μb 89 (upd (μb 89) 33 1)) 115 (upd (upd (upd (μb 115) 0 0) 2 0) 3 0) := ⟨_, rfl⟩
  have kc : ∀ c, c ≠ 89 → c ≠ 115 → μc c = μb c := fun c c1 c2 => by rw [hμc, upM_ne c2, upM_ne c1]
  have kcj : ∀ j, j ≠ 33 → μc 89 j = μb 89 j := fun j hj => by rw [hμc, upM_ne (by omega), upM_self, upd_ne hj]
  have e2 : st μb 89 33 1 (fun m3 => wr m3 115 0 0 (fun m4 => wr m4 115 2 0 (fun m5 => wr m5 115 3 0 (fun m6 => fX9_joined_106 FF FF 0 m6)))) = fX9_joined_106 FF FF (nI 0) μc := by
    have g1 : upM μb 89 (upd (μb 89) 33 1) 115 = μb 115 := upM_ne (by omega)
    rw [st_n, show (0 : Int32) = nI 0 from rfl, wr_n (by decide), g1, show (2 : Int32) = nI 2 from rfl, wr_n (by decide), upM_upM, upM_self, show (3 : Int32) = nI 3 from rfl, wr_n (by decide), upM_upM, upM_self]
    rw [hμc]
    rfl
  have rc : MC μ P p q μc := ra.ch (fun c c1 c2 => by rw [kc c c1 (by omega), b2 c (by omega) (by omega) (by omega) (by omega)]) (fun j hj => by rw [kcj j hj, b2 89 (by omega) (by omega) (by omega) (by omega)])
  obtain ⟨μn, g, n1, n2, n3, n4, n5, n6, n7⟩ := m_names hP hT hG hpb P FF 0 μc (μc 111) (by omega) (by rw [FF_e]; omega) rc (fun x hx => by rw [kc 110 (by omega) (by omega)]; exact h110 x hx) (by rw [hμc, upM_self, upd_ne (by decide), upd_ne (by decide), upd_s]; rfl) rfl (fun a ha => Or.inl ⟨by rw [kc 111 (by omega) (by omega)]; exact (b3 a ha).2.1, fun s hs => by omega⟩)
  have fin := n7.fin hpb (fun s hs => by show s ≤ 41; omega) (fun a b _ _ e => e)
  have rn1 : MC μ P p q μn := rc.ch (fun c c1 c2 => n2 c (by omega) (by omega)) (fun j _ => by rw [n2 89 (by omega) (by omega)])
  have un : UM P (rU P p) (rU P q) μn := ua.ch (by rw [n2 108 (by omega) (by omega), kc 108 (by omega) (by omega), b2 108 (by omega) (by omega) (by omega) (by omega)]) (by rw [n2 109 (by omega) (by omega), kc 109 (by omega) (by omega), b2 109 (by omega) (by omega) (by omega) (by omega)])
  obtain ⟨μw, w1, w2, w3⟩ := m_weights hM hP hT4 hT hG rn1 un M FF 0 μn (by omega) (by rw [FF_e]; omega) (fun _ _ => rfl) (fun j hj => by omega)
  have rw1 : MC μ P p q μw := rn1.ch (fun c c1 c2 => w2 c (by omega)) (fun j _ => by rw [w2 89 (by omega)])
  have uw : UM P (rU P p) (rU P q) μw := un.ch (w2 108 (by omega)) (w2 109 (by omega))
  obtain ⟨j1, j2, j3⟩ := so_perm (w := rW P p q G) (N := M) (by omega)
  have jl := so_lex (w := rW P p q G) (N := M) (by omega)
  obtain ⟨μt, t1, t2, t3, t4, t5, t6⟩ := m_take (b := rJ P M p q G) (f0 := f0) (w := rW P p q G) (μ := μw) hM hP rw1 uw j1 (fun s t h1 h2 e => by
    have := j2 s t (by omega) h2 e
    omega) j3 jl w3 M FF 0 μw (fun x => tn (g x)) (by omega) (by rw [FF_e]; omega) (fun _ _ _ _ _ => rfl) (fun _ _ _ => rfl) (by rw [w2 115 (by omega), n5 2 (by decide) (by decide), hμc, upM_self, upd_ne (by decide), upd_s]; rfl) (by rw [w2 115 (by omega), n5 3 (by decide) (by decide), hμc, upM_self, upd_s]; rfl) (fun x hx => ⟨(fin x hx).1.2, by rw [w2 111 (by omega), n6]; exact (fin x hx).1.1⟩) (fun x y hx hy => by
      show tn (g x) = tn (g y) ↔ f0 x = f0 y
      rw [((fin x hx).2.2 y hy).2, ((hf.2 x hx).2 y hy)]) (fun s hs => by
      rw [w2 113 (by omega), n2 113 (by omega) (by omega), kc 113 (by omega) (by omega), if_neg (by omega)]
      exact (b3 _ (by have := j1 s hs; show so (rW P p q G) M s < P; omega)).2.2.1) (fun k hk => by
      rw [w2 114 (by omega), n2 114 (by omega) (by omega), kc 114 (by omega) (by omega)]
      exact (b3 k (by omega)).2.2.2)
  have inv := kr_inv (w := rW P p q G) (L := 42) (f0 := f0) hM p1 j1 (fun s t h1 h2 e => by
    have := j2 s t (by omega) h2 e
    omega) hf.1 M (Nat.le_refl _)
  have rt1 : MC μ P p q μt := rw1.ch (fun c c1 c2 => t2 c (by omega) (by omega) (by omega) (by omega)) (fun j _ => by rw [t2 89 (by omega) (by omega) (by omega) (by omega)])
  have ut1 : UM P (rU P p) (rU P q) μt := uw.ch (t2 108 (by omega) (by omega) (by omega) (by omega)) (t2 109 (by omega) (by omega) (by omega) (by omega))
  have fpb := (rF_ring (G := G) hM hP hf).1
  obtain ⟨μx, x1, x2, x3⟩ := m_exD (tk := (rK P M p q G f0).2.1) hM hP hT4 hT hG rt1 ut1 (fun k hk => ⟨inv.2.2.2.2.1 k, t6 k hk⟩) M FF μt (rB P p q) (Nat.le_refl _) (by rw [FF_e]; omega) (fun _ _ => rfl) (fun x hx => by
    rw [t2 110 (by omega) (by omega) (by omega) (by omega), w2 110 (by omega), n2 110 (by omega) (by omega), kc 110 (by omega) (by omega)]
    exact h110 x hx) fpb.1
  have k115 : ∀ j, μx 115 j = μt 115 j := fun j => by rw [x2 115 (by omega)]
  refine ⟨μx, ?_, rt1.ch (fun c c1 c2 => x2 c (by omega)) (fun j _ => by rw [x2 89 (by omega)]), ?_, ?_, ?_, ?_, ?_, x3⟩
  · rw [e1, b1, e2, n1]
    exact (w1.trans t1).trans x1
  · rw [x2 89 (by omega), t2 89 (by omega) (by omega) (by omega) (by omega), w2 89 (by omega), n2 89 (by omega) (by omega), hμc, upM_ne (by omega), upM_self, upd_s]
  · rw [k115, t3 0 (by decide) (by decide), w2 115 (by omega), n3]
  · rw [k115, t3 1 (by decide) (by decide), w2 115 (by omega), n4]
  · rw [k115, t4]
    rfl
  · rw [k115, t5]
    rfl
