/-! the class's rings: what is exchanged, and all together -/
theorem swp_swN {f : Nat → Int32} {π : Nat → Nat} {P a b : Nat} (ha : a < P) (hb : b < P) (h : ∀ x, x < P → f x = nI (π x)) : ∀ x, x < P → swp f a b x = nI (swN π a b x) := fun x hx => by
  rw [swp_e]
  unfold swN
  by_cases c1 : x = b
  · rw [if_pos c1, h a ha]
    by_cases c2 : x = a
    · rw [if_pos c2, ← c1, c2]
    · rw [if_neg c2, if_pos c1]
  · rw [if_neg c1]
    by_cases c2 : x = a
    · rw [if_pos c2, if_pos c2, h b hb]
    · rw [if_neg c2, if_neg c2, if_neg c1, h x hx]
def eaF (p q u v : Nat → Nat) (k : Nat) : Bool := decide (q (v k) < p (u k))
theorem c_above {T P k : Nat} {p q u v : Nat → Nat} {μ0 μ : Mem} (hP : P ≤ 41) (hT4 : T ≤ 100000) (hT : ∀ i, i < P → p i ≤ T ∧ q i ≤ T) (h : RC μ0 P p q μ) (huv : UV P u v μ) (hk : k < P) : fX5_endsAbove FF (nI k) μ = some (if eaF p q u v k = true then 1 else 0, μ) := by
  obtain ⟨⟨a1, a2⟩, a3, a4⟩ := huv k hk
  have t1 := (hT _ a1).1
  have t2 := (hT _ a3).2
  unfold fX5_endsAbove
  rw [rd_n (by show k < 41; omega), a2, rd_n (by show u k < 41; omega), (h.2.2 _ a1).1, rd_n (by show k < 41; omega), a4, rd_n (by show v k < 41; omega), (h.2.2 _ a3).2, ifle (by omega) (by omega)]
  unfold eaF
  by_cases c : p (u k) ≤ q (v k)
  · rw [if_pos c, if_neg (by rw [decide_eq_true_iff]; omega), zr_0]
  · rw [if_neg c, if_pos (by rw [decide_eq_true_iff]; omega), zr_1]
theorem c_exU {T P M : Nat} {p q u v tk : Nat → Nat} {μ0 μ : Mem} (hM : M + 1 = P) (hP : P ≤ 41) (hT4 : T ≤ 100000) (hT : ∀ i, i < P → p i ≤ T ∧ q i ≤ T) (h : RC μ0 P p q μ) (huv : UV P u v μ) (ht : ∀ k, k < M → tk k ≤ 1 ∧ μ 70 k = nI (tk k)) : ∀ (d n i : Nat) (ν : Mem) (π : Nat → Nat), i + d = M → d < n → (∀ c, c ≠ 66 → ν c = μ c) → (∀ x, x < P → ν 66 x = nI (π x)) → ∃ μ', fX5_exchangeTaken_57 FF n (nI i) ν = some μ' ∧ (∀ c, c ≠ 66 → μ' c = μ c) ∧ ∀ x, x < P → μ' 66 x = nI (exL u (Lup (sU tk (eaF p q u v)) d i) π x) := by
  intro d
  induction d with
  | zero =>
    intro n i ν π hi hn q1 q2
    obtain ⟨n, rfl⟩ : ∃ n', n = n' + 1 := ⟨n - 1, by omega⟩
    refine ⟨ν, ?_, q1, q2⟩
    show fX5_exchangeTaken_57_b FF _ _ ν = _
    unfold fX5_exchangeTaken_57_b
    rw [q1 61 (by omega), h.2.1, nI_add1, if_pos (nI_le (by omega) (by omega))]
  | succ d ih =>
    intro n i ν π hi hn q1 q2
    obtain ⟨n, rfl⟩ : ∃ n', n = n' + 1 := ⟨n - 1, by omega⟩
    obtain ⟨t1, t2⟩ := ht i (by omega)
    have hR : RC μ0 P p q ν := h.ch (fun c c1 c2 => q1 c (by omega)) (by rw [q1 61 (by omega)])
    have hU : UV P u v ν := huv.ch (q1 64 (by omega)) (q1 65 (by omega))
    obtain ⟨⟨u1, u2⟩, -⟩ := hU i (by omega)
    obtain ⟨⟨u3, u4⟩, -⟩ := hU (i + 1) (by omega)
    have el : Lup (sU tk (eaF p q u v)) (d + 1) i = if sU tk (eaF p q u v) i = true then i :: Lup (sU tk (eaF p q u v)) d (i + 1) else Lup (sU tk (eaF p q u v)) d (i + 1) := rfl
    have head : fX5_exchangeTaken_57 FF (n + 1) (nI i) ν = if sU tk (eaF p q u v) i = true then fX5_exchangeTaken_57 FF n (nI (i + 1)) (upM ν 66 (swp (ν 66) (u i) (u (i + 1)))) else fX5_exchangeTaken_57 FF n (nI (i + 1)) ν := by
      show fX5_exchangeTaken_57_b FF _ _ ν = _
      unfold fX5_exchangeTaken_57_b
      rw [hR.2.1, nI_add1, if_neg (nI_ge (by omega) (by omega)), rd_n (by show i < 40; omega), q1 70 (by omega), t2, show (0 : Int32) = nI 0 from rfl, ifeq (by omega) (by omega)]
      unfold sU
      by_cases c : tk i = 0
      · rw [if_pos c, if_neg]
        rw [Bool.and_eq_true, decide_eq_true_iff]
        omega
      · rw [if_neg c, c_above hP hT4 hT hR hU (by omega), cal_n]
        by_cases e : eaF p q u v i = true
        · rw [if_pos e, if_neg (show ¬ (1 : Int32) = nI 0 by decide), if_pos (by rw [Bool.and_eq_true, decide_eq_true_iff]; exact ⟨by omega, e⟩), rd_n (by show i < 41; omega), u2, rd_n (by show i + 1 < 41; omega), u4, c_exch (by show u i < 41; omega) (by show u (i + 1) < 41; omega), cav_n]
        · rw [if_neg e, if_pos (show (0 : Int32) = nI 0 from rfl), if_neg]
          rw [Bool.and_eq_true]
          exact fun w => e w.2
    rw [head, el]
    by_cases c : sU tk (eaF p q u v) i = true
    · rw [if_pos c, if_pos c]
      exact ih n (i + 1) _ (swN π (u i) (u (i + 1))) (by omega) (by omega) (fun c' hc => by rw [upM_ne hc]; exact q1 c' hc) (fun x hx => by rw [upM_self]; exact swp_swN u1 u3 q2 x hx)
    · rw [if_neg c, if_neg c]
      exact ih n (i + 1) ν π (by omega) (by omega) q1 q2
theorem c_exD {T P M : Nat} {p q u v tk : Nat → Nat} {μ0 μ : Mem} (hM : M + 1 = P) (hP : P ≤ 41) (hT4 : T ≤ 100000) (hT : ∀ i, i < P → p i ≤ T ∧ q i ≤ T) (h : RC μ0 P p q μ) (huv : UV P u v μ) (ht : ∀ k, k < M → tk k ≤ 1 ∧ μ 70 k = nI (tk k)) : ∀ (i n : Nat) (ν : Mem) (π : Nat → Nat), i ≤ M → i < n → (∀ c, c ≠ 66 → ν c = μ c) → (∀ x, x < P → ν 66 x = nI (π x)) → ∃ μ', fX5_exchangeTaken_7 FF n (nI i + (-1)) ν = some μ' ∧ (∀ c, c ≠ 66 → μ' c = μ c) ∧ ∀ x, x < P → μ' 66 x = nI (exL u (Ldn (sD tk (eaF p q u v)) i ++ Lup (sU tk (eaF p q u v)) M 0) π x) := by
  intro i
  induction i with
  | zero =>
    intro n ν π hi hn q1 q2
    obtain ⟨n, rfl⟩ : ∃ n', n = n' + 1 := ⟨n - 1, by omega⟩
    obtain ⟨μ', w1, w2, w3⟩ := c_exU hM hP hT4 hT h huv ht M FF 0 ν π (by omega) (by rw [FF_e]; omega) q1 q2
    refine ⟨μ', ?_, w2, w3⟩
    show fX5_exchangeTaken_7_b FF _ _ ν = _
    unfold fX5_exchangeTaken_7_b
    rw [if_pos idx_neg]
    exact w1
  | succ i ih =>
    intro n ν π hi hn q1 q2
    obtain ⟨n, rfl⟩ : ∃ n', n = n' + 1 := ⟨n - 1, by omega⟩
    obtain ⟨t1, t2⟩ := ht i (by omega)
    have hR : RC μ0 P p q ν := h.ch (fun c c1 c2 => q1 c (by omega)) (by rw [q1 61 (by omega)])
    have hU : UV P u v ν := huv.ch (q1 64 (by omega)) (q1 65 (by omega))
    obtain ⟨⟨u1, u2⟩, -⟩ := hU i (by omega)
    obtain ⟨⟨u3, u4⟩, -⟩ := hU (i + 1) (by omega)
    have el : Ldn (sD tk (eaF p q u v)) (i + 1) = if sD tk (eaF p q u v) i = true then i :: Ldn (sD tk (eaF p q u v)) i else Ldn (sD tk (eaF p q u v)) i := rfl
    have head : fX5_exchangeTaken_7 FF (n + 1) (nI (i + 1) + (-1)) ν = if sD tk (eaF p q u v) i = true then fX5_exchangeTaken_7 FF n (nI i + (-1)) (upM ν 66 (swp (ν 66) (u i) (u (i + 1)))) else fX5_exchangeTaken_7 FF n (nI i + (-1)) ν := by
      show fX5_exchangeTaken_7_b FF _ _ ν = _
      unfold fX5_exchangeTaken_7_b
      rw [nI_addm1, if_neg (nI_pos (by omega)), rd_n (by show i < 40; omega), q1 70 (by omega), t2, show (0 : Int32) = nI 0 from rfl, ifeq (by omega) (by omega)]
      unfold sD
      by_cases c : tk i = 0
      · rw [if_pos c, if_neg]
        rw [Bool.and_eq_true, decide_eq_true_iff]
        omega
      · rw [if_neg c, c_above hP hT4 hT hR hU (by omega), cal_n]
        by_cases e : eaF p q u v i = true
        · rw [if_pos e, if_neg (show ¬ (1 : Int32) = nI 0 by decide), if_neg]
          rw [Bool.and_eq_true, e]
          exact fun w => by cases w.2
        · rw [if_neg e, if_pos (show (0 : Int32) = nI 0 from rfl), if_pos (by
            rw [Bool.and_eq_true, decide_eq_true_iff]
            refine ⟨by omega, ?_⟩
            cases hE : eaF p q u v i with
            | false => rfl
            | true => exact absurd hE e), rd_n (by show i < 41; omega), u2, nI_add1, rd_n (by show i + 1 < 41; omega), u4, c_exch (by show u i < 41; omega) (by show u (i + 1) < 41; omega), cav_n]
    rw [head, el]
    by_cases c : sD tk (eaF p q u v) i = true
    · rw [if_pos c, if_pos c]
      exact ih n _ (swN π (u i) (u (i + 1))) (by omega) (by omega) (fun c' hc => by rw [upM_ne hc]; exact q1 c' hc) (fun x hx => by rw [upM_self]; exact swp_swN u1 u3 q2 x hx)
    · rw [if_neg c, if_neg c]
      exact ih n ν π (by omega) (by omega) q1 q2
/-- the rings' rows and numbers, of what lies in q and p -/
def rU (P : Nat) (p : Nat → Nat) : Nat → Nat := so (fun i => nI (p i)) P
def rB (P : Nat) (p q : Nat → Nat) : Nat → Nat := bhN (rU P p) (rU P q) P
def rW (P : Nat) (p q : Nat → Nat) (G : Nat → Nat → Int32) : Nat → Int32 := wgt p q (rU P p) (rU P q) G
def rJ (P M : Nat) (p q : Nat → Nat) (G : Nat → Nat → Int32) : Nat → Nat := so (rW P p q G) M
def rK (P M : Nat) (p q : Nat → Nat) (G : Nat → Nat → Int32) (f0 : Nat → Nat) : (Nat → Nat) × (Nat → Nat) × Nat × Int32 := kr (rU P p) (rW P p q G) (rJ P M p q G) f0 M
def rF (P M : Nat) (p q : Nat → Nat) (G : Nat → Nat → Int32) (f0 : Nat → Nat) : Nat → Nat := exL (rU P p) (jL (rK P M p q G f0).2.1 (eaF p q (rU P p) (rU P q)) M) (rB P p q)
def lbO (P : Nat) (p q : Nat → Nat) (f0 : Nat → Nat) : Prop := (∀ x, x < P → f0 x < 42) ∧ ∀ x, x < P → f0 (rB P p q x) = f0 x ∧ ∀ y, y < P → (f0 x = f0 y ↔ Rch (rB P p q) x y)
theorem c_joinAll {k T P M : Nat} {p q : Nat → Nat} {G : Nat → Nat → Int32} {μ0 μ : Mem} (hM : M + 1 = P) (hP : P ≤ 41) (hT4 : T ≤ 100000) (hT : ∀ i, i < P → p i ≤ T ∧ q i ≤ T) (hG : GO k T G μ0) (h : RC μ0 P p q μ) : ∃ μ' f0, fX5_joinAll FF k μ = some (cst P p q G (rF P M p q G f0), μ') ∧ lbO P p q f0 ∧ RC μ0 P p q μ' ∧ μ' 61 10 = 1 ∧ μ' 61 11 = nI (Kn (rB P p q) P) ∧ μ' 61 12 = cst P p q G (rB P p q) ∧ μ' 61 13 = nI (rK P M p q G f0).2.2.1 ∧ μ' 61 14 = (rK P M p q G f0).2.2.2 ∧ ∀ x, x < P → μ' 66 x = nI (rF P M p q G f0 x) := by
  obtain ⟨p1, p2, p3⟩ := so_perm (w := fun i => nI (p i)) (N := P) (by omega)
  obtain ⟨v1, v2, v3⟩ := so_perm (w := fun i => nI (q i)) (N := P) (by omega)
  -- sorted
  obtain ⟨μa, hμa⟩ : ∃ μa, μa = upM (upM μ 64 (srI (gtK (μ 63)) (μ 64) P)) 65 (srI (gtK (μ 62)) (μ 65) P) := ⟨_, rfl⟩
  have ka : ∀ c, c ≠ 64 → c ≠ 65 → μa c = μ c := fun c c1 c2 => by rw [hμa, upM_ne c2, upM_ne c1]
  have ra : RC μ0 P p q μa := h.ch (fun c c1 c2 => ka c (by omega) (by omega)) (by rw [ka 61 (by omega) (by omega)])
  have ua : UV P (rU P p) (rU P q) μa := fun i hi => by
    refine ⟨⟨p1 i hi, ?_⟩, v1 i hi, ?_⟩
    · rw [hμa, upM_ne (by omega), upM_self]
      exact so_eq (by omega) (fun s hs => (h.2.2 s hs).1) i hi
    · rw [hμa, upM_self]
      exact so_eq (by omega) (fun s hs => (h.2.2 s hs).2) i hi
  have e1 : fX5_joinAll FF k μ = fX5_joinAll_32 FF k FF (nI 0) μa := by
    unfold fX5_joinAll
    have z1 : upM μ 64 (srI (gtK (μ 63)) (μ 64) P) 62 = μ 62 := upM_ne (by omega)
    have z2 : upM μ 64 (srI (gtK (μ 63)) (μ 64) P) 65 = μ 65 := upM_ne (by omega)
    have z3 : upM μ 64 (srI (gtK (μ 63)) (μ 64) P) 61 = μ 61 := upM_ne (by omega)
    rw [h.2.1, c_rank (by omega) (by show P ≤ 41; omega) (by show P ≤ 41; omega), cav_n, z3, h.2.1, c_rank (by omega) (by show P ≤ 41; omega) (by show P ≤ 41; omega), cav_n, z1, z2, ← hμa]
    rfl
  -- what comes behind
  have bloop : ∀ (d n i : Nat) (ν : Mem), i + d = P → d < n → (∀ c, c ≠ 66 → ν c = μa c) → (∀ j, j < i → ν 66 (rU P p j) = nI (rU P q j)) → ∃ μ', fX5_joinAll_32 FF k n (nI i) ν = st μ' 61 10 1 (fun m3 => cal (fX5_costOfAll FF k m3) (fun r5 m4 => st m4 61 12 r5 (fun m6 => cav (fX5_nameRings FF m6) (fun m7 => fX5_joinAll_83 FF k FF 0 m7)))) ∧ (∀ c, c ≠ 66 → μ' c = μa c) ∧ ∀ j, j < P → μ' 66 (rU P p j) = nI (rU P q j) := by
    intro d
    induction d with
    | zero =>
      intro n i ν hi hn q1 q2
      obtain ⟨n, rfl⟩ : ∃ n', n = n' + 1 := ⟨n - 1, by omega⟩
      obtain rfl : i = P := by omega
      refine ⟨ν, ?_, q1, q2⟩
      show fX5_joinAll_32_b FF _ _ _ ν = _
      unfold fX5_joinAll_32_b
      rw [q1 61 (by omega), ra.2.1, if_pos (nI_le (by omega) (by omega))]
    | succ d ih =>
      intro n i ν hi hn q1 q2
      obtain ⟨n, rfl⟩ : ∃ n', n = n' + 1 := ⟨n - 1, by omega⟩
      obtain ⟨⟨u1, u2⟩, u3, u4⟩ := ua i (by omega)
      obtain ⟨m2, f2, a2, b2, g2⟩ := wr_x (μ := ν) (k := 66) (i := rU P p i) (nI (rU P q i)) (by show rU P p i < 41; omega)
      have step : fX5_joinAll_32 FF k (n + 1) (nI i) ν = fX5_joinAll_32 FF k n (nI (i + 1)) m2 := by
        show fX5_joinAll_32_b FF _ _ _ ν = _
        unfold fX5_joinAll_32_b
        rw [q1 61 (by omega), ra.2.1, if_neg (nI_ge (by omega) (by omega)), rd_n (by show i < 41; omega), q1 64 (by omega), u2, rd_n (by show i < 41; omega), q1 65 (by omega), u4, f2, nI_add1]
      rw [step]
      refine ih n (i + 1) m2 (by omega) (by omega) (fun c hc => by rw [g2 c hc]; exact q1 c hc) (fun j hj => ?_)
      by_cases e : j = i
      · rw [e, a2]
      · rw [b2 (rU P p j) (fun w => e (p2 j i (by omega) (by omega) w))]
        exact q2 j (by omega)
  obtain ⟨μb, b1, b2, b3⟩ := bloop P FF 0 μa (by omega) (by rw [FF_e]; omega) (fun _ _ => rfl) (fun j hj => by omega)
  rw [e1, b1]
  have hpb : PB P (rB P p q) := bhN_pb (by omega)
  have h66 : ∀ x, x < P → μb 66 x = nI (rB P p q x) := fun x hx => by
    obtain ⟨j, hj, e⟩ := p3 x hx
    have e' : rU P p j = x := e
    have z : rB P p q x = rU P q j := by rw [← e']; exact bhN_u p2 P (Nat.le_refl _) j hj
    rw [z, ← e']
    exact b3 j hj
  -- cost of the pairing
  obtain ⟨μc, hμc⟩ : ∃ μc, μc = upM μb 61 (upd (upd (μb 61) 10 1) 12 (cst P p q G (rB P p q))) := ⟨_, rfl⟩
  obtain ⟨μb', hμb'⟩ : ∃ μb', μb' = upM μb 61 (upd (μb 61) 10 1) := ⟨_, rfl⟩
  have rb : RC μ0 P p q μb := ra.ch (fun c c1 c2 => b2 c (by omega)) (by rw [b2 61 (by omega)])
  have rb' : RC μ0 P p q μb' := rb.ch (fun c c1 c2 => by rw [hμb', upM_ne c1]) (by rw [hμb', upM_self, upd_ne (by decide)])
  have rc : RC μ0 P p q μc := rb.ch (fun c c1 c2 => by rw [hμc, upM_ne c1]) (by rw [hμc, upM_self, upd_ne (by decide), upd_ne (by decide)])
  have kc : ∀ c, c ≠ 61 → μc c = μb c := fun c c1 => by rw [hμc, upM_ne c1]
  have cc := c_costAll (μ := μb') hP hT hG rb' hpb.1 (fun x hx => by rw [hμb', upM_ne (by omega)]; exact h66 x hx)
  -- names
  obtain ⟨μn, f, n1, n2, n3, n4, n5, n6⟩ := c_names hP rc hpb (fun x hx => by rw [kc 66 (by omega)]; exact h66 x hx)
  have rn1 : RC μ0 P p q μn := rc.ch (fun c c1 c2 => n2 c c1 (by omega)) (n3 9 (by decide))
  have un : UV P (rU P p) (rU P q) μn := ua.ch (by rw [n2 64 (by omega) (by omega), kc 64 (by omega), b2 64 (by omega)]) (by rw [n2 65 (by omega) (by omega), kc 65 (by omega), b2 65 (by omega)])
  have fin := n6.fin hpb (fun s hs => by have := Kn_le (π := rB P p q) s; omega) (fun a b ha hb e => Kn_inj ha hb e)
  obtain ⟨f0, hf0⟩ : ∃ f0, f0 = fun x => tn (f x) := ⟨_, rfl⟩
  have f0e : ∀ x, f0 x = tn (f x) := fun x => by rw [hf0]
  have e2 : st μb 61 10 1 (fun m3 => cal (fX5_costOfAll FF k m3) (fun r5 m4 => st m4 61 12 r5 (fun m6 => cav (fX5_nameRings FF m6) (fun m7 => fX5_joinAll_83 FF k FF 0 m7)))) = fX5_joinAll_83 FF k FF (nI 0) μn := by
    rw [st_n, ← hμb', cc, cal_n, st_n, show upM μb' 61 (upd (μb' 61) 12 (cst P p q G (rB P p q))) = μc from by rw [hμb', hμc, upM_upM, upM_self], n1, cav_n]
    rfl
  rw [e2]
  -- weights
  have wloop : ∀ (d n i : Nat) (ν : Mem), i + d = M → d < n → (∀ c, c ≠ 68 → ν c = μn c) → (∀ j, j < i → ν 68 j = rW P p q G j) → ∃ μ', fX5_joinAll_83 FF k n (nI i) ν = cav (fX8_rank FF 68 ((μ' 61 9) - 1) 69 μ') (fun m11 => cav (fX5_takeJoins FF m11) (fun m12 => cav (fX5_exchangeTaken FF m12) (fun m13 => cal (fX5_costOfAll FF k m13) (fun r15 m14 => some (r15, m14))))) ∧ (∀ c, c ≠ 68 → μ' c = μn c) ∧ ∀ j, j < M → μ' 68 j = rW P p q G j := by
    intro d
    induction d with
    | zero =>
      intro n i ν hi hn q1 q2
      obtain ⟨n, rfl⟩ : ∃ n', n = n' + 1 := ⟨n - 1, by omega⟩
      obtain rfl : i = M := by omega
      refine ⟨ν, ?_, q1, q2⟩
      show fX5_joinAll_83_b FF _ _ _ ν = _
      unfold fX5_joinAll_83_b
      have z : ν 61 9 = nI P := by rw [q1 61 (by omega)]; exact rn1.2.1
      rw [if_pos (by rw [z, nI_add1]; exact nI_le (by omega) (by omega))]
    | succ d ih =>
      intro n i ν hi hn q1 q2
      obtain ⟨n, rfl⟩ : ∃ n', n = n' + 1 := ⟨n - 1, by omega⟩
      have rv : RC μ0 P p q ν := rn1.ch (fun c c1 c2 => q1 c (by omega)) (by rw [q1 61 (by omega)])
      have uv : UV P (rU P p) (rU P q) ν := un.ch (q1 64 (by omega)) (q1 65 (by omega))
      obtain ⟨m2, f2, a2, b2, g2⟩ := wr_x (μ := ν) (k := 68) (i := i) (rW P p q G i) (by show i < 40; omega)
      have step : fX5_joinAll_83 FF k (n + 1) (nI i) ν = fX5_joinAll_83 FF k n (nI (i + 1)) m2 := by
        show fX5_joinAll_83_b FF _ _ _ ν = _
        unfold fX5_joinAll_83_b
        rw [rv.2.1, nI_add1, if_neg (nI_ge (by omega) (by omega)), c_weight hP hT4 hT hG rv uv (by omega), cal_n]
        exact f2 _
      rw [step]
      refine ih n (i + 1) m2 (by omega) (by omega) (fun c hc => by rw [g2 c hc]; exact q1 c hc) (fun j hj => ?_)
      by_cases e : j = i
      · rw [e, a2]
      · rw [b2 j e]; exact q2 j (by omega)
  obtain ⟨μw, w1, w2, w3⟩ := wloop M FF 0 μn (by omega) (by rw [FF_e]; omega) (fun _ _ => rfl) (fun j hj => by omega)
  have rw1 : RC μ0 P p q μw := rn1.ch (fun c c1 c2 => w2 c (by omega)) (by rw [w2 61 (by omega)])
  -- by weight
  obtain ⟨μs, hμs⟩ : ∃ μs, μs = upM μw 69 (srI (gtK (μw 68)) (μw 69) M) := ⟨_, rfl⟩
  have ks : ∀ c, c ≠ 69 → μs c = μw c := fun c hc => by rw [hμs, upM_ne hc]
  have rs1 : RC μ0 P p q μs := rw1.ch (fun c c1 c2 => ks c (by omega)) (by rw [ks 61 (by omega)])
  have us1 : UV P (rU P p) (rU P q) μs := un.ch (by rw [ks 64 (by omega), w2 64 (by omega)]) (by rw [ks 65 (by omega), w2 65 (by omega)])
  obtain ⟨j1, j2, j3⟩ := so_perm (w := rW P p q G) (N := M) (by omega)
  obtain ⟨μt, t1, t2, t3, t4, t5, t6⟩ := c_take (b := rJ P M p q G) (f0 := f0) (w := rW P p q G) (μ := μs) hM hP rs1 us1 p1 j1 (fun s t h1 h2 e => by
    have := j2 s t (by omega) h2 e
    omega) j3 (fun t ht => by
    rw [hμs, upM_self]
    exact so_eq (by omega) w3 t ht) (fun k hk => by rw [ks 68 (by omega)]; exact w3 k hk) (fun x hx => by
    rw [f0e]
    refine ⟨(fin x hx).1.2, ?_⟩
    rw [ks 67 (by omega), w2 67 (by omega), n5]
    exact (fin x hx).1.1)
  have rt1 : RC μ0 P p q μt := rs1.ch (fun c c1 c2 => t2 c c1 (by omega) (by omega)) (t3 9 (by decide) (by decide))
  have ut1 : UV P (rU P p) (rU P q) μt := us1.ch (t2 64 (by omega) (by omega) (by omega)) (t2 65 (by omega) (by omega) (by omega))
  have inv := kr_inv (w := rW P p q G) (L := 42) (f0 := f0) hM p1 j1 (fun s t h1 h2 e => by
    have := j2 s t (by omega) h2 e
    omega) (fun x hx => by rw [f0e]; exact (fin x hx).1.2) M (Nat.le_refl _)
  have k66 : ∀ x, x < P → μt 66 x = nI (rB P p q x) := fun x hx => by
    rw [t2 66 (by omega) (by omega) (by omega), ks 66 (by omega), w2 66 (by omega), n2 66 (by omega) (by omega), kc 66 (by omega)]
    exact h66 x hx
  obtain ⟨μx, x1, x2, x3⟩ := c_exD (tk := (rK P M p q G f0).2.1) hM hP hT4 hT rt1 ut1 (fun k hk => ⟨inv.2.2.2.2.1 k, t6 k hk⟩) M FF μt (rB P p q) (Nat.le_refl _) (by rw [FF_e]; omega) (fun _ _ => rfl) k66
  have rx1 : RC μ0 P p q μx := rt1.ch (fun c c1 c2 => x2 c (by omega)) (by rw [x2 61 (by omega)])
  have fpb : PB P (rF P M p q G f0) := by
    have f0l : ∀ x, x < P → f0 x < 42 := fun x hx => by rw [f0e]; exact (fin x hx).1.2
    exact (one_ring (L := 42) (w := rW P p q G) (f0 := f0) (ea := eaF p q (rU P p) (rU P q)) hM p1 p3 j1 (fun s t h1 h2 e => by
      have := j2 s t (by omega) h2 e
      omega) j3 f0l hpb (fun x hx => by rw [f0e, f0e]; exact (fin x hx).2.1) (fun x y hx hy e => ((fin x hx).2.2 y hy).2.mp (by rw [← f0e, ← f0e]; exact e))).1
  have cx := c_costAll (μ := μx) hP hT hG rx1 fpb.1 x3
  refine ⟨μx, f0, ?_, ⟨fun x hx => by rw [f0e]; exact (fin x hx).1.2, fun x hx => ⟨by rw [f0e, f0e]; exact (fin x hx).2.1, fun y hy => by rw [f0e, f0e]; exact ((fin x hx).2.2 y hy).2⟩⟩, rx1, ?_, ?_, ?_, ?_, ?_, x3⟩
  · rw [w1, rw1.2.1, show nI P - 1 = nI M from by rw [show (1 : Int32) = nI 1 from rfl, nI_sub (by omega), show P - 1 = M by omega], c_rank (by omega) (by show M ≤ 40; omega) (by show M ≤ 40; omega), cav_n, ← hμs, t1, cav_n]
    have e3 : fX5_exchangeTaken FF μt = some μx := by
      unfold fX5_exchangeTaken
      rw [rt1.2.1, ← hM, nI_m2]
      exact x1
    rw [e3, cav_n, cx, cal_n]
  · rw [x2 61 (by omega), t3 10 (by decide) (by decide), ks 61 (by omega), w2 61 (by omega), n3 10 (by decide), hμc, upM_self, upd_ne (by decide), upd_s]
  · rw [x2 61 (by omega), t3 11 (by decide) (by decide), ks 61 (by omega), w2 61 (by omega), n4]
  · rw [x2 61 (by omega), t3 12 (by decide) (by decide), ks 61 (by omega), w2 61 (by omega), n3 12 (by decide), hμc, upM_self, upd_s]
  · rw [x2 61 (by omega), t4]
    rfl
  · rw [x2 61 (by omega), t5]
    rfl
