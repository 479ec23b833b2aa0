/-! the reference's rings: sorting, pairing, names -/
theorem m_sort_in {F k1 k2 x : Nat} {μ : Mem} (hk : k1 ≠ k2) (hx : x < ln k1) (h0 : x < ln k2) (rec2 : Int32 → Mem → Option Mem) : ∀ (j n : Nat) (g : Nat → Int32), j ≤ x → j < n → (∀ p, p < j → ∃ s, s < x ∧ g p = nI s) → fX9_sorts_13 F k1 k2 rec2 n (nI x) (nI j) (upM μ k1 g) = rec2 (nI (x + 1)) (upM μ k1 (shI (fun v => gtK (μ k2) v x) (nI x) j g)) := by
  have l0 := ln_le k1
  have l2 := ln_le k2
  intro j
  induction j with
  | zero =>
    intro n g hj hn hg
    obtain ⟨n, rfl⟩ : ∃ n', n = n' + 1 := ⟨n - 1, by omega⟩
    show fX9_sorts_13_b F k1 k2 rec2 _ _ _ _ = _
    unfold fX9_sorts_13_b fX9_sorts_48
    rw [if_pos (show nI 0 ≤ 0 by decide), wr_n (by omega), nI_add1, upM_upM, upM_self]
    rfl
  | succ j ih =>
    intro n g hj hn hg
    obtain ⟨n, rfl⟩ : ∃ n', n = n' + 1 := ⟨n - 1, by omega⟩
    obtain ⟨s, hs, es⟩ := hg j (by omega)
    have e : shI (fun v => gtK (μ k2) v x) (nI x) (j + 1) g = if gtK (μ k2) s x = true then shI (fun v => gtK (μ k2) v x) (nI x) j (upd g (j + 1) (g j)) else upd g (j + 1) (nI x) := by
      show (if gtK (μ k2) (tn (g j)) x = true then _ else _) = _
      rw [es, tn_n (by omega)]
    show fX9_sorts_13_b F k1 k2 rec2 _ _ _ _ = _
    unfold fX9_sorts_13_b fX9_sorts_48
    rw [show (0 : Int32) = nI 0 from rfl, if_neg (nI_ge (by omega) (by omega)), show (1 : Int32) = nI 1 from rfl, nI_sub (by omega), show j + 1 - 1 = j by omega, rd_n (by omega), upM_self, es, rd_n (by omega), upM_ne (Ne.symm hk), rd_n (by omega), upM_ne (Ne.symm hk), e]
    by_cases c : μ k2 s ≤ μ k2 x
    · have hf : ¬ gtK (μ k2) s x = true := by
        unfold gtK
        rw [decide_eq_true_iff]
        exact fun q => q c
      rw [if_pos c, if_neg hf, wr_n (by omega), upM_upM, upM_self, show nI x + nI 1 = nI (x + 1) from nI_add1 x]
    · have hf : gtK (μ k2) s x = true := by
        unfold gtK
        rw [decide_eq_true_iff]
        exact c
      rw [if_neg c, if_pos hf, rd_n (by omega), upM_self, es, wr_n (by omega), upM_upM, upM_self, show nI (j + 1) + -nI 1 = nI j from nI_addm1 j]
      exact ih n _ (by omega) (by omega) (fun p hp => by rw [upd_ne (by omega)]; exact hg p (by omega))
theorem m_sorts {k1 k2 P : Nat} {μ : Mem} (hk : k1 ≠ k2) (h89 : k1 ≠ 89) (h9 : μ 89 21 = nI P) (h2 : P ≤ ln k1) (h0 : P ≤ ln k2) : fX9_sorts FF k1 k2 μ = some (upM μ k1 (srI (gtK (μ k2)) (μ k1) P)) := by
  have l0 := ln_le k1
  have loop : ∀ (d n i : Nat), i + d = P → d < n → fX9_sorts_2 FF k1 k2 n (nI i) (upM μ k1 (srI (gtK (μ k2)) (μ k1) i)) = some (upM μ k1 (srI (gtK (μ k2)) (μ k1) P)) := by
    intro d
    induction d with
    | zero =>
      intro n i hi hn
      obtain ⟨n, rfl⟩ : ∃ n', n = n' + 1 := ⟨n - 1, by omega⟩
      show fX9_sorts_2_b FF k1 k2 _ _ _ = _
      unfold fX9_sorts_2_b
      rw [upM_ne (Ne.symm h89), h9, if_pos (nI_le (by omega) (by omega)), show i = P by omega]
    | succ d ih =>
      intro n i hi hn
      obtain ⟨n, rfl⟩ : ∃ n', n = n' + 1 := ⟨n - 1, by omega⟩
      show fX9_sorts_2_b FF k1 k2 _ _ _ = _
      unfold fX9_sorts_2_b
      obtain ⟨σ, τ, p1, p2⟩ := srI_perm (gt := gtK (μ k2)) (g := μ k1) i
      rw [upM_ne (Ne.symm h89), h9, if_neg (nI_ge (by omega) (by omega)), m_sort_in hk (by omega) (by omega) _ i FF _ (by omega) (by rw [FF_e]; omega) (fun p hp => ⟨σ p, (p1 p hp).1, (p1 p hp).2.1⟩)]
      exact ih n (i + 1) (by omega) (by omega)
  have := loop P FF 0 (by omega) (by rw [FF_e]; omega)
  rw [show srI (gtK (μ k2)) (μ k1) 0 = μ k1 from rfl, upM_id] at this
  exact this
/-- the reference's cells of rings -/
def MF (ν0 μ : Mem) : Prop := (∀ c, c ≠ 89 → (c < 108 ∨ 115 < c) → μ c = ν0 c) ∧ ∀ j, j ≠ 33 → μ 89 j = ν0 89 j
def MC (ν0 : Mem) (P : Nat) (p q : Nat → Nat) (μ : Mem) : Prop := MF ν0 μ ∧ ν0 89 21 = nI P ∧ ∀ i, i < P → μ 107 i = nI (p i) ∧ μ 106 i = nI (q i)
theorem MC.pt {ν0 μ : Mem} {P : Nat} {p q : Nat → Nat} (h : MC ν0 P p q μ) : μ 89 21 = nI P := by
  rw [h.1.2 21 (by decide)]; exact h.2.1
theorem MC.ch {ν0 μ μ' : Mem} {P : Nat} {p q : Nat → Nat} (h : MC ν0 P p q μ) (e : ∀ c, c ≠ 89 → (c < 108 ∨ 115 < c) → μ' c = μ c) (ej : ∀ j, j ≠ 33 → μ' 89 j = μ 89 j) : MC ν0 P p q μ' :=
  ⟨⟨fun c c1 c2 => by rw [e c c1 c2]; exact h.1.1 c c1 c2, fun j hj => by rw [ej j hj]; exact h.1.2 j hj⟩, h.2.1, fun i hi => by rw [e 107 (by omega) (by omega), e 106 (by omega) (by omega)]; exact h.2.2 i hi⟩
def GM (T : Nat) (G : Nat → Nat → Int32) (ν0 : Mem) : Prop := ∀ μ : Mem, MF ν0 μ → ∀ a b, a ≤ T → b ≤ T → fX9_costOf FF (nI a) (nI b) μ = some (G a b, μ) ∧ (a < b → fX9_between FF (nI a) (nI b) 1 1 μ = some (G a b + G b a, μ))
theorem m_costAll {T P : Nat} {p q π : Nat → Nat} {G : Nat → Nat → Int32} {ν0 μ : Mem} (hP : P ≤ 41) (hT : ∀ i, i < P → p i ≤ T ∧ q i ≤ T) (hG : GM T G ν0) (h : MC ν0 P p q μ) (hπ : ∀ x, x < P → π x < P) (h110 : ∀ x, x < P → μ 110 x = nI (π x)) : fX9_ringCost FF μ = some (cst P p q G π, μ) := by
  have loop : ∀ (d n i : Nat), i + d = P → d < n → fX9_ringCost_4 FF n (sumF (fun x => G (p x) (q (π x))) i) (nI i) μ = some (cst P p q G π, μ) := by
    intro d
    induction d with
    | zero =>
      intro n i hi hn
      obtain ⟨n, rfl⟩ : ∃ n', n = n' + 1 := ⟨n - 1, by omega⟩
      show fX9_ringCost_4_b FF _ _ _ μ = _
      unfold fX9_ringCost_4_b
      rw [h.pt, if_pos (nI_le (by omega) (by omega)), show i = P by omega]
      rfl
    | succ d ih =>
      intro n i hi hn
      obtain ⟨n, rfl⟩ : ∃ n', n = n' + 1 := ⟨n - 1, by omega⟩
      show fX9_ringCost_4_b FF _ _ _ μ = _
      unfold fX9_ringCost_4_b
      have hp := hπ i (by omega)
      rw [h.pt, if_neg (nI_ge (by omega) (by omega)), rd_n (by show i < 41; omega), (h.2.2 i (by omega)).1, rd_n (by show i < 41; omega), h110 i (by omega), rd_n (by show π i < 41; omega), (h.2.2 _ hp).2, (hG μ h.1 _ _ (hT i (by omega)).1 (hT _ hp).2).1, cal_n, nI_add1]
      exact ih n (i + 1) (by omega) (by omega)
  exact loop P FF 0 (by omega) (by rw [FF_e]; omega)
/-- the way ends -/
def stp (π : Nat → Nat) (nm : Int32) : Nat → Nat → (Nat → Int32) → Prop
  | 0, p, f => ¬ f p = -1
  | d + 1, p, f => ¬ f p = -1 ∨ stp π nm d (π p) (upd f p nm)
theorem stp_orbit {P D i : Nat} {π : Nat → Nat} {nm : Int32} {f : Nat → Int32} (hp : PB P π) (hi : i < P) (hD : P ≤ D) (hn : ¬ nm = -1) : stp π nm D i f := by
  obtain ⟨m, mp, mP, me⟩ := itr_per hp hi
  have loop : ∀ (d j e : Nat) (g : Nat → Int32), j + d = m → (0 < j → ¬ g i = -1) → stp π nm (d + e) (itr π j i) g := by
    intro d
    induction d with
    | zero =>
      intro j e g hj hg
      obtain rfl : j = m := by omega
      rw [me, Nat.zero_add]
      cases e with
      | zero => exact hg mp
      | succ e => exact Or.inl (hg mp)
    | succ d ih =>
      intro j e g hj hg
      rw [show d + 1 + e = (d + e) + 1 by omega]
      refine Or.inr (ih (j + 1) e _ (by omega) (fun _ => ?_))
      by_cases c : i = itr π j i
      · rw [← c, upd_s]; exact hn
      · rw [upd_ne c]
        by_cases j0 : j = 0
        · subst j0; exact absurd rfl c
        · exact hg (by omega)
  have l := loop m 0 (D - m) f (by omega) (fun h => by omega)
  rw [show m + (D - m) = D by omega] at l
  exact l
theorem m_walk {P i : Nat} {π : Nat → Nat} {μ : Mem} (hP : P ≤ 41) (hπ : ∀ x, x < P → π x < P) (h110 : ∀ x, x < P → μ 110 x = nI (π x)) (rec106 : Int32 → Mem → Option (Int32 × Mem)) : ∀ (d n p : Nat) (f : Nat → Int32), d < n → p < P → stp π (nI i) d p f → fX9_joined_140 FF rec106 n (nI i) (nI p) (upM μ 111 f) = rec106 (nI (i + 1)) (upM μ 111 (walk π (nI i) d p f)) := by
  intro d
  induction d with
  | zero =>
    intro n p f hn hp hs
    obtain ⟨n, rfl⟩ : ∃ n', n = n' + 1 := ⟨n - 1, by omega⟩
    show fX9_joined_140_b FF _ _ _ _ _ = _
    unfold fX9_joined_140_b
    rw [rd_n (by show p < 41; omega), upM_self, if_neg (show ¬ f p = -1 from hs), nI_add1]
    rfl
  | succ d ih =>
    intro n p f hn hp hs
    obtain ⟨n, rfl⟩ : ∃ n', n = n' + 1 := ⟨n - 1, by omega⟩
    have ew : walk π (nI i) (d + 1) p f = if f p = -1 then walk π (nI i) d (π p) (upd f p (nI i)) else f := rfl
    show fX9_joined_140_b FF _ _ _ _ _ = _
    unfold fX9_joined_140_b
    rw [rd_n (by show p < 41; omega), upM_self, ew]
    by_cases c : f p = -1
    · rw [if_pos c, if_pos c, wr_n (by show p < 41; omega), upM_upM, upM_self, rd_n (by show p < 41; omega), upM_ne (by omega), h110 p hp]
      exact ih n (π p) _ (by omega) (hπ p hp) (hs.resolve_left (fun w => w c))
    · rw [if_neg c, if_neg c, nI_add1]
theorem m_names {T P : Nat} {p q π : Nat → Nat} {G : Nat → Nat → Int32} {ν0 : Mem} (hP : P ≤ 41) (hT : ∀ i, i < P → p i ≤ T ∧ q i ≤ T) (hG : GM T G ν0) (hp : PB P π) : ∀ (d n i : Nat) (ν : Mem) (f : Nat → Int32), i + d = P → d < n → MC ν0 P p q ν → (∀ x, x < P → ν 110 x = nI (π x)) → ν 115 0 = nI (Kn π i) → ν 111 = f → Nmd P π (fun s => s) i f →
    ∃ μ' g, fX9_joined_106 FF n (nI i) ν = fX9_joined_185 FF FF 0 μ' ∧ (∀ c, c ≠ 111 → c ≠ 115 → μ' c = ν c) ∧ μ' 115 0 = nI (Kn π P) ∧ μ' 115 1 = cst P p q G π ∧ (∀ j, j ≠ 0 → j ≠ 1 → μ' 115 j = ν 115 j) ∧ μ' 111 = g ∧ Nmd P π (fun s => s) P g := by
  intro d
  induction d with
  | zero =>
    intro n i ν f hi hn hM h110 h0 h111 hN
    obtain ⟨n, rfl⟩ : ∃ n', n = n' + 1 := ⟨n - 1, by omega⟩
    obtain rfl : i = P := by omega
    refine ⟨upM ν 115 (upd (ν 115) 1 (cst i p q G π)), f, ?_, fun c c1 c2 => upM_ne c2, by rw [upM_self, upd_ne (by decide)]; exact h0, by rw [upM_self, upd_s], fun j j1 j2 => by rw [upM_self, upd_ne j2], by rw [upM_ne (by omega)]; exact h111, hN⟩
    show fX9_joined_106_b FF _ _ ν = _
    unfold fX9_joined_106_b
    rw [hM.pt, if_pos (nI_le (by omega) (by omega)), m_costAll hP hT hG hM hp.1 h110, cal_n, show (1 : Int32) = nI 1 from rfl, wr_n (by decide)]
  | succ d ih =>
    intro n i ν f hi hn hM h110 h0 h111 hN
    obtain ⟨n, rfl⟩ : ∃ n', n = n' + 1 := ⟨n - 1, by omega⟩
    have ev : ∀ X, upM ν 115 X = upM (upM ν 115 X) 111 f := fun X => by rw [← h111, show ν 111 = upM ν 115 X 111 from (upM_ne (by omega)).symm, upM_id]
    have fin : ∀ (ν' : Mem) (f' : Nat → Int32) (K : Nat), K = Kn π (i + 1) → ν' = upM (upM ν 115 (upd (ν 115) 0 (nI K))) 111 f' → Nmd P π (fun s => s) (i + 1) f' → ∃ μ' g, fX9_joined_106 FF n (nI (i + 1)) ν' = fX9_joined_185 FF FF 0 μ' ∧ (∀ c, c ≠ 111 → c ≠ 115 → μ' c = ν c) ∧ μ' 115 0 = nI (Kn π P) ∧ μ' 115 1 = cst P p q G π ∧ (∀ j, j ≠ 0 → j ≠ 1 → μ' 115 j = ν 115 j) ∧ μ' 111 = g ∧ Nmd P π (fun s => s) P g := fun ν' f' K hK hν' hN' => by
      have k : ∀ c, c ≠ 111 → c ≠ 115 → ν' c = ν c := fun c c1 c2 => by rw [hν', upM_ne c1, upM_ne c2]
      have k115 : ν' 115 = upd (ν 115) 0 (nI K) := by rw [hν', upM_ne (by omega), upM_self]
      obtain ⟨μ', g, z1, z2, z3, z4, z5, z6, z7⟩ := ih n (i + 1) ν' f' (by omega) (by omega) (hM.ch (fun c c1 c2 => k c (by omega) (by omega)) (fun j _ => by rw [k 89 (by omega) (by omega)])) (fun x hx => by rw [k 110 (by omega) (by omega)]; exact h110 x hx) (by rw [k115, upd_s, hK]) (by rw [hν', upM_self]) hN'
      exact ⟨μ', g, z1, fun c c1 c2 => by rw [z2 c c1 c2, k c c1 c2], z3, z4, fun j j1 j2 => by rw [z5 j j1 j2, k115, upd_ne j1], z6, z7⟩
    have hK := Kn_le (π := π) i
    rcases hN.st hp (by omega) (fun s hs => by show s ≤ 41; omega) with ⟨e1, e2, e3, e4⟩ | ⟨e1, e2, e4⟩
    · have step : fX9_joined_106 FF (n + 1) (nI i) ν = fX9_joined_106 FF n (nI (i + 1)) (upM (upM ν 115 (upd (ν 115) 0 (nI (Kn π i + 1)))) 111 (cvr (Rch π i) (nI i) f)) := by
        show fX9_joined_106_b FF _ _ ν = _
        unfold fX9_joined_106_b
        rw [hM.pt, if_neg (nI_ge (by omega) (by omega)), show (0 : Int32) = nI 0 from rfl, rd_n (by decide), rd_n (by show i < 41; omega), h111, if_pos e1, h0, nI_add1, wr_n (by decide), ev, m_walk hP hp.1 (fun x hx => by rw [upM_ne (by omega)]; exact h110 x hx) _ P FF i f (by rw [FF_e]; omega) (by omega) (stp_orbit hp (by omega) (Nat.le_refl _) (m1_ne (by omega))), walk_orbit hp (by omega) (Nat.le_refl _) (m1_ne (by omega)) e3, upM_upM (g := f)]
      rw [step]
      exact fin _ _ _ (Kn_s e2).symm rfl e4
    · have step : fX9_joined_106 FF (n + 1) (nI i) ν = fX9_joined_106 FF n (nI (i + 1)) (upM (upM ν 115 (upd (ν 115) 0 (nI (Kn π i)))) 111 f) := by
        show fX9_joined_106_b FF _ _ ν = _
        unfold fX9_joined_106_b
        rw [hM.pt, if_neg (nI_ge (by omega) (by omega)), show (0 : Int32) = nI 0 from rfl, rd_n (by decide), rd_n (by show i < 41; omega), h111, if_neg e1, h0, show nI (Kn π i) + nI 0 = nI (Kn π i) from by rw [nI_add]; rfl, wr_n (by decide), ev, m_walk hP hp.1 (fun x hx => by rw [upM_ne (by omega)]; exact h110 x hx) _ 0 FF i f (by rw [FF_e]; omega) (by omega) e1, upM_upM (g := f) (h := f)]
        rfl
      rw [step]
      exact fin _ _ _ (Kn_n e2).symm rfl e4
