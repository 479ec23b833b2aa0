section
/-! the reference's rings: sorting, pairing, names -/
theorem m_sort_in {F k1 k2 x : Nat} {μ : Mem} (hk : k1 ≠ k2) (hx : x < ln k1) (h0 : x < ln k2) (rec2 : Int32 → Mem → Option Mem) : ∀ (j n : Nat) (g : Nat → Int32), j ≤ x → j < n → (∀ p, p < j → ∃ s, s < x ∧ g p = nI s) → fX9_sorts_13 F k1 k2 rec2 n (nI x) (nI j) (upM μ k1 g) = rec2 (nI (x + 1)) (upM μ k1 (shI (fun v => gtK (μ k2) v x) (nI x) j g)) := by
  have l0 := ln_le k1
  have l2 := ln_le k2
  intro j
  induction j with
  | zero =>
    intro n g hj hn hg
    obtain ⟨n, rfl⟩ : ∃ n', n = n' + 1 := ⟨n - 1, by omega⟩
    show fX9_sorts_13_b F k1 k2 rec2 _ _ _ _ = _
    unfold fX9_sorts_13_b fX9_sorts_48
    rw [if_pos (show nI 0 ≤ 0 by decide), wr_n (by omega), nI_add1, upM_upM, upM_self]
    rfl
  | succ j ih =>
    intro n g hj hn hg
    obtain ⟨n, rfl⟩ : ∃ n', n = n' + 1 := ⟨n - 1, by omega⟩
    obtain ⟨s, hs, es⟩ := hg j (by omega)
    have e : shI (fun v => gtK (μ k2) v x) (nI x) (j + 1) g = if gtK (μ k2) s x = true then shI (fun v => gtK (μ k2) v x) (nI x) j (upd g (j + 1) (g j)) else upd g (j + 1) (nI x) := by
      show (if gtK (μ k2) (tn (g j)) x = true then _ else _) = _
      rw [es, tn_n (by omega)]
    show fX9_sorts_13_b F k1 k2 rec2 _ _ _ _ = _
    unfold fX9_sorts_13_b fX9_sorts_48
    rw [show (0 : Int32) = nI 0 from rfl, if_neg (nI_ge (by omega) (by omega)), show (1 : Int32) = nI 1 from rfl, nI_sub (by omega), show j + 1 - 1 = j by omega, rd_n (by omega), upM_self, es, rd_n (by omega), upM_ne (Ne.symm hk), rd_n (by omega), upM_ne (Ne.symm hk), e]
    by_cases c : μ k2 s ≤ μ k2 x
    · have hf : ¬ gtK (μ k2) s x = true := by
        unfold gtK
        rw [decide_eq_true_iff]
        exact fun q => q c
      rw [if_pos c, if_neg hf, wr_n (by omega), upM_upM, upM_self, show nI x + nI 1 = nI (x + 1) from nI_add1 x]
    · have hf : gtK (μ k2) s x = true := by
        unfold gtK
        rw [decide_eq_true_iff]
        exact c
      rw [if_neg c, if_pos hf, rd_n (by omega), upM_self, es, wr_n (by omega), upM_upM, upM_self, show nI (j + 1) + -nI 1 = nI j from nI_addm1 j]
      exact ih n _ (by omega) (by omega) (fun p hp => by rw [upd_ne (by omega)]; exact hg p (by omega))
theorem m_sorts {k1 k2 P : Nat} {μ : Mem} (hk : k1 ≠ k2) (h89 : k1 ≠ 89) (h9 : μ 89 21 = nI P) (h2 : P ≤ ln k1) (h0 : P ≤ ln k2) : fX9_sorts FF k1 k2 μ = some (upM μ k1 (srI (gtK (μ k2)) (μ k1) P)) := by
  have l0 := ln_le k1
  have loop : ∀ (d n i : Nat), i + d = P → d < n → fX9_sorts_2 FF k1 k2 n (nI i) (upM μ k1 (srI (gtK (μ k2)) (μ k1) i)) = some (upM μ k1 (srI (gtK (μ k2)) (μ k1) P)) := by
    intro d
    induction d with
    | zero =>
      intro n i hi hn
      obtain ⟨n, rfl⟩ : ∃ n', n = n' + 1 := ⟨n - 1, by omega⟩
      show fX9_sorts_2_b FF k1 k2 _ _ _ = _
      unfold fX9_sorts_2_b
      rw [upM_ne (Ne.symm h89), h9, if_pos (nI_le (by omega) (by omega)), show i = P by omega]
    | succ d ih =>
      intro n i hi hn
      obtain ⟨n, rfl⟩ : ∃ n', n = n' + 1 := ⟨n - 1, by omega⟩
      show fX9_sorts_2_b FF k1 k2 _ _ _ = _
      unfold fX9_sorts_2_b
      obtain ⟨σ, τ, p1, p2⟩ := srI_perm (gt := gtK (μ k2)) (g := μ k1) i
      rw [upM_ne (Ne.symm h89), h9, if_neg (nI_ge (by omega) (by omega)), m_sort_in hk (by omega) (by omega) _ i FF _ (by omega) (by rw [FF_e]; omega) (fun p hp => ⟨σ p, (p1 p hp).1, (p1 p hp).2.1⟩)]
      exact ih n (i + 1) (by omega) (by omega)
  have := loop P FF 0 (by omega) (by rw [FF_e]; omega)
  rw [show srI (gtK (μ k2)) (μ k1) 0 = μ k1 from rfl, upM_id] at this
  exact this
/-- the reference's cells of rings -/
def MF (ν0 μ : Mem) : Prop := (∀ c, c ≠ 89 → (c < 108 ∨ 115 < c) → μ c = ν0 c) ∧ ∀ j, j ≠ 33 → μ 89 j = ν0 89 j
def MC (ν0 : Mem) (P : Nat) (p q : Nat → Nat) (μ : Mem) : Prop := MF ν0 μ ∧ ν0 89 21 = nI P ∧ ∀ i, i < P → μ 107 i = nI (p i) ∧ μ 106 i = nI (q i)
theorem MC.pt {ν0 μ : Mem} {P : Nat} {p q : Nat → Nat} (h : MC ν0 P p q μ) : μ 89 21 = nI P := by
  rw [h.1.2 21 (by decide)]; exact h.2.1
theorem MC.ch {ν0 μ μ' : Mem} {P : Nat} {p q : Nat → Nat} (h : MC ν0 P p q μ) (e : ∀ c, c ≠ 89 → (c < 108 ∨ 115 < c) → μ' c = μ c) (ej : ∀ j, j ≠ 33 → μ' 89 j = μ 89 j) : MC ν0 P p q μ' :=
  ⟨⟨fun c c1 c2 => by rw [e c c1 c2]; exact h.1.1 c c1 c2, fun j hj => by rw [ej j hj]; exact h.1.2 j hj⟩, h.2.1, fun i hi => by rw [e 107 (by omega) (by omega), e 106 (by omega) (by omega)]; exact h.2.2 i hi⟩
def GM (T : Nat) (G : Nat → Nat → Int32) (ν0 : Mem) : Prop := ∀ μ : Mem, MF ν0 μ → ∀ a b, a ≤ T → b ≤ T → fX9_costOf FF (nI a) (nI b) μ = some (G a b, μ) ∧ (a < b → fX9_between FF (nI a) (nI b) 1 1 μ = some (G a b + G b a, μ))
theorem m_costAll {T P : Nat} {p q π : Nat → Nat} {G : Nat → Nat → Int32} {ν0 μ : Mem} (hP : P ≤ 41) (hT : ∀ i, i < P → p i ≤ T ∧ q i ≤ T) (hG : GM T G ν0) (h : MC ν0 P p q μ) (hπ : ∀ x, x < P → π x < P) (h110 : ∀ x, x < P → μ 110 x = nI (π x)) : fX9_ringCost FF μ = some (cst P p q G π, μ) := by
  have loop : ∀ (d n i : Nat), i + d = P → d < n → fX9_ringCost_4 FF n (sumF (fun x => G (p x) (q (π x))) i) (nI i) μ = some (cst P p q G π, μ) := by
    intro d
    induction d with
    | zero =>
      intro n i hi hn
      obtain ⟨n, rfl⟩ : ∃ n', n = n' + 1 := ⟨n - 1, by omega⟩
      show fX9_ringCost_4_b FF _ _ _ μ = _
      unfold fX9_ringCost_4_b
      rw [h.pt, if_pos (nI_le (by omega) (by omega)), show i = P by omega]
      rfl
    | succ d ih =>
      intro n i hi hn
      obtain ⟨n, rfl⟩ : ∃ n', n = n' + 1 := ⟨n - 1, by omega⟩
      show fX9_ringCost_4_b FF _ _ _ μ = _
      unfold fX9_ringCost_4_b
      have hp := hπ i (by omega)
      rw [h.pt, if_neg (nI_ge (by omega) (by omega)), rd_n (by show i < 41; omega), (h.2.2 i (by omega)).1, rd_n (by show i < 41; omega), h110 i (by omega), rd_n (by show π i < 41; omega), (h.2.2 _ hp).2, (hG μ h.1 _ _ (hT i (by omega)).1 (hT _ hp).2).1, cal_n, nI_add1]
      exact ih n (i + 1) (by omega) (by omega)
  exact loop P FF 0 (by omega) (by rw [FF_e]; omega)
/-- the way ends -/
def stp (π : Nat → Nat) (nm : Int32) : Nat → Nat → (Nat → Int32) → Prop
  | 0, p, f => ¬ f p = -1
  | d + 1, p, f => ¬ f p = -1 ∨ stp π nm d (π p) (upd f p nm)
theorem stp_orbit {P D i : Nat} {π : Nat → Nat} {nm : Int32} {f : Nat → Int32} (hp : PB P π) (hi : i < P) (hD : P ≤ D) (hn : ¬ nm = -1) : stp π nm D i f := by
  obtain ⟨m, mp, mP, me⟩ := itr_per hp hi
  have loop : ∀ (d j e : Nat) (g : Nat → Int32), j + d = m → (0 < j → ¬ g i = -1) → stp π nm (d + e) (itr π j i) g := by
    intro d
    induction d with
    | zero =>
      intro j e g hj hg
      obtain rfl : j = m := by omega
      rw [me, Nat.zero_add]
      cases e with
      | zero => exact hg mp
      | succ e => exact Or.inl (hg mp)
    | succ d ih =>
      intro j e g hj hg
      rw [show d + 1 + e = (d + e) + 1 by omega]
      refine Or.inr (ih (j + 1) e _ (by omega) (fun _ => ?_))
      by_cases c : i = itr π j i
      · rw [← c, upd_s]; exact hn
      · rw [upd_ne c]
        by_cases j0 : j = 0
        · subst j0; exact absurd rfl c
        · exact hg (by omega)
  have l := loop m 0 (D - m) f (by omega) (fun h => by omega)
  rw [show m + (D - m) = D by omega] at l
  exact l
theorem m_walk {P i : Nat} {π : Nat → Nat} {μ : Mem} (hP : P ≤ 41) (hπ : ∀ x, x < P → π x < P) (h110 : ∀ x, x < P → μ 110 x = nI (π x)) (rec106 : Int32 → Mem → Option (Int32 × Mem)) : ∀ (d n p : Nat) (f : Nat → Int32), d < n → p < P → stp π (nI i) d p f → fX9_joined_140 FF rec106 n (nI i) (nI p) (upM μ 111 f) = rec106 (nI (i + 1)) (upM μ 111 (walk π (nI i) d p f)) := by
  intro d
  induction d with
  | zero =>
    intro n p f hn hp hs
    obtain ⟨n, rfl⟩ : ∃ n', n = n' + 1 := ⟨n - 1, by omega⟩
    show fX9_joined_140_b FF _ _ _ _ _ = _
    unfold fX9_joined_140_b
    rw [rd_n (by show p < 41; omega), upM_self, if_neg (show ¬ f p = -1 from hs), nI_add1]
    rfl
  | succ d ih =>
    intro n p f hn hp hs
    obtain ⟨n, rfl⟩ : ∃ n', n = n' + 1 := ⟨n - 1, by omega⟩
    have ew : walk π (nI i) (d + 1) p f = if f p = -1 then walk π (nI i) d (π p) (upd f p (nI i)) else f := rfl
    show fX9_joined_140_b FF _ _ _ _ _ = _
    unfold fX9_joined_140_b
    rw [rd_n (by show p < 41; omega), upM_self, ew]
    by_cases c : f p = -1
    · rw [if_pos c, if_pos c, wr_n (by show p < 41; omega), upM_upM, upM_self, rd_n (by show p < 41; omega), upM_ne (by omega), h110 p hp]
      exact ih n (π p) _ (by omega) (hπ p hp) (hs.resolve_left (fun w => w c))
    · rw [if_neg c, if_neg c, nI_add1]
theorem m_names {T P : Nat} {p q π : Nat → Nat} {G : Nat → Nat → Int32} {ν0 : Mem} (hP : P ≤ 41) (hT : ∀ i, i < P → p i ≤ T ∧ q i ≤ T) (hG : GM T G ν0) (hp : PB P π) : ∀ (d n i : Nat) (ν : Mem) (f : Nat → Int32), i + d = P → d < n → MC ν0 P p q ν → (∀ x, x < P → ν 110 x = nI (π x)) → ν 115 0 = nI (Kn π i) → ν 111 = f → Nmd P π (fun s => s) i f →
    ∃ μ' g, fX9_joined_106 FF n (nI i) ν = fX9_joined_185 FF FF 0 μ' ∧ (∀ c, c ≠ 111 → c ≠ 115 → μ' c = ν c) ∧ μ' 115 0 = nI (Kn π P) ∧ μ' 115 1 = cst P p q G π ∧ (∀ j, j ≠ 0 → j ≠ 1 → μ' 115 j = ν 115 j) ∧ μ' 111 = g ∧ Nmd P π (fun s => s) P g := by
  intro d
  induction d with
  | zero =>
    intro n i ν f hi hn hM h110 h0 h111 hN
    obtain ⟨n, rfl⟩ : ∃ n', n = n' + 1 := ⟨n - 1, by omega⟩
    obtain rfl : i = P := by omega
    refine ⟨upM ν 115 (upd (ν 115) 1 (cst i p q G π)), f, ?_, fun c c1 c2 => upM_ne c2, by rw [upM_self, upd_ne (by decide)]; exact h0, by rw [upM_self, upd_s], fun j j1 j2 => by rw [upM_self, upd_ne j2], by rw [upM_ne (by omega)]; exact h111, hN⟩
    show fX9_joined_106_b FF _ _ ν = _
    unfold fX9_joined_106_b
    rw [hM.pt, if_pos (nI_le (by omega) (by omega)), m_costAll hP hT hG hM hp.1 h110, cal_n, show (1 : Int32) = nI 1 from rfl, wr_n (by decide)]
  | succ d ih =>
    intro n i ν f hi hn hM h110 h0 h111 hN
    obtain ⟨n, rfl⟩ : ∃ n', n = n' + 1 := ⟨n - 1, by omega⟩
    have ev : ∀ X, upM ν 115 X = upM (upM ν 115 X) 111 f := fun X => by rw [← h111, show ν 111 = upM ν 115 X 111 from (upM_ne (by omega)).symm, upM_id]
    have fin : ∀ (ν' : Mem) (f' : Nat → Int32) (K : Nat), K = Kn π (i + 1) → ν' = upM (upM ν 115 (upd (ν 115) 0 (nI K))) 111 f' → Nmd P π (fun s => s) (i + 1) f' → ∃ μ' g, fX9_joined_106 FF n (nI (i + 1)) ν' = fX9_joined_185 FF FF 0 μ' ∧ (∀ c, c ≠ 111 → c ≠ 115 → μ' c = ν c) ∧ μ' 115 0 = nI (Kn π P) ∧ μ' 115 1 = cst P p q G π ∧ (∀ j, j ≠ 0 → j ≠ 1 → μ' 115 j = ν 115 j) ∧ μ' 111 = g ∧ Nmd P π (fun s => s) P g := fun ν' f' K hK hν' hN' => by
      have k : ∀ c, c ≠ 111 → c ≠ 115 → ν' c = ν c := fun c c1 c2 => by rw [hν', upM_ne c1, upM_ne c2]
      have k115 : ν' 115 = upd (ν 115) 0 (nI K) := by rw [hν', upM_ne (by omega), upM_self]
      obtain ⟨μ', g, z1, z2, z3, z4, z5, z6, z7⟩ := ih n (i + 1) ν' f' (by omega) (by omega) (hM.ch (fun c c1 c2 => k c (by omega) (by omega)) (fun j _ => by rw [k 89 (by omega) (by omega)])) (fun x hx => by rw [k 110 (by omega) (by omega)]; exact h110 x hx) (by rw [k115, upd_s, hK]) (by rw [hν', upM_self]) hN'
      exact ⟨μ', g, z1, fun c c1 c2 => by rw [z2 c c1 c2, k c c1 c2], z3, z4, fun j j1 j2 => by rw [z5 j j1 j2, k115, upd_ne j1], z6, z7⟩
    have hK := Kn_le (π := π) i
    rcases hN.st hp (by omega) (fun s hs => by show s ≤ 41; omega) with ⟨e1, e2, e3, e4⟩ | ⟨e1, e2, e4⟩
    · have step : fX9_joined_106 FF (n + 1) (nI i) ν = fX9_joined_106 FF n (nI (i + 1)) (upM (upM ν 115 (upd (ν 115) 0 (nI (Kn π i + 1)))) 111 (cvr (Rch π i) (nI i) f)) := by
        show fX9_joined_106_b FF _ _ ν = _
        unfold fX9_joined_106_b
        rw [hM.pt, if_neg (nI_ge (by omega) (by omega)), show (0 : Int32) = nI 0 from rfl, rd_n (by decide), rd_n (by show i < 41; omega), h111, if_pos e1, h0, nI_add1, wr_n (by decide), ev, m_walk hP hp.1 (fun x hx => by rw [upM_ne (by omega)]; exact h110 x hx) _ P FF i f (by rw [FF_e]; omega) (by omega) (stp_orbit hp (by omega) (Nat.le_refl _) (m1_ne (by omega))), walk_orbit hp (by omega) (Nat.le_refl _) (m1_ne (by omega)) e3, upM_upM (g := f)]
      rw [step]
      exact fin _ _ _ (Kn_s e2).symm rfl e4
    · have step : fX9_joined_106 FF (n + 1) (nI i) ν = fX9_joined_106 FF n (nI (i + 1)) (upM (upM ν 115 (upd (ν 115) 0 (nI (Kn π i)))) 111 f) := by
        show fX9_joined_106_b FF _ _ ν = _
        unfold fX9_joined_106_b
        rw [hM.pt, if_neg (nI_ge (by omega) (by omega)), show (0 : Int32) = nI 0 from rfl, rd_n (by decide), rd_n (by show i < 41; omega), h111, if_neg e1, h0, show nI (Kn π i) + nI 0 = nI (Kn π i) from by rw [nI_add]; rfl, wr_n (by decide), ev, m_walk hP hp.1 (fun x hx => by rw [upM_ne (by omega)]; exact h110 x hx) _ 0 FF i f (by rw [FF_e]; omega) (by omega) e1, upM_upM (g := f) (h := f)]
        rfl
      rw [step]
      exact fin _ _ _ (Kn_n e2).symm rfl e4
end
section
/-! the reference's rings: weights, which join is looked at, joins -/
def UM (P : Nat) (u v : Nat → Nat) (μ : Mem) : Prop := ∀ i, i < P → (u i < P ∧ μ 108 i = nI (u i)) ∧ v i < P ∧ μ 109 i = nI (v i)
theorem UM.ch {P : Nat} {u v : Nat → Nat} {μ μ' : Mem} (h : UM P u v μ) (e4 : μ' 108 = μ 108) (e5 : μ' 109 = μ 109) : UM P u v μ' := fun i hi => by
  rw [e4, e5]; exact h i hi
theorem m_higher {T P i : Nat} {p q u v : Nat → Nat} {ν0 μ : Mem} (hP : P ≤ 41) (hT4 : T ≤ 100000) (hT : ∀ i, i < P → p i ≤ T ∧ q i ≤ T) (h : MC ν0 P p q μ) (huv : UM P u v μ) (hi : i < P) : fX9_higher FF (nI i) μ = some (nI (max (p (u i)) (q (v i))), μ) := by
  obtain ⟨⟨a1, a2⟩, a3, a4⟩ := huv i hi
  have t1 := (hT _ a1).1
  have t2 := (hT _ a3).2
  unfold fX9_higher
  rw [rd_n (by show i < 41; omega), a2, rd_n (by show u i < 41; omega), (h.2.2 _ a1).1, rd_n (by show i < 41; omega), a4, rd_n (by show v i < 41; omega), (h.2.2 _ a3).2, ifle (by omega) (by omega)]
  by_cases c : p (u i) ≤ q (v i)
  · rw [if_pos c, rd_n (by show i < 41; omega), a4, rd_n (by show v i < 41; omega), (h.2.2 _ a3).2, Nat.max_eq_right c]
  · rw [if_neg c, rd_n (by show i < 41; omega), a2, rd_n (by show u i < 41; omega), (h.2.2 _ a1).1, Nat.max_eq_left (by omega)]
theorem m_lower {T P i : Nat} {p q u v : Nat → Nat} {ν0 μ : Mem} (hP : P ≤ 41) (hT4 : T ≤ 100000) (hT : ∀ i, i < P → p i ≤ T ∧ q i ≤ T) (h : MC ν0 P p q μ) (huv : UM P u v μ) (hi : i < P) : fX9_lower FF (nI i) μ = some (nI (min (p (u i)) (q (v i))), μ) := by
  obtain ⟨⟨a1, a2⟩, a3, a4⟩ := huv i hi
  have t1 := (hT _ a1).1
  have t2 := (hT _ a3).2
  unfold fX9_lower
  rw [rd_n (by show i < 41; omega), a2, rd_n (by show u i < 41; omega), (h.2.2 _ a1).1, rd_n (by show i < 41; omega), a4, rd_n (by show v i < 41; omega), (h.2.2 _ a3).2, ifle (by omega) (by omega)]
  by_cases c : q (v i) ≤ p (u i)
  · rw [if_pos c, rd_n (by show i < 41; omega), a4, rd_n (by show v i < 41; omega), (h.2.2 _ a3).2, Nat.min_eq_right c]
  · rw [if_neg c, rd_n (by show i < 41; omega), a2, rd_n (by show u i < 41; omega), (h.2.2 _ a1).1, Nat.min_eq_left (by omega)]
theorem m_weights {T P M : Nat} {p q u v : Nat → Nat} {G : Nat → Nat → Int32} {ν0 μ : Mem} (hM : M + 1 = P) (hP : P ≤ 41) (hT4 : T ≤ 100000) (hT : ∀ i, i < P → p i ≤ T ∧ q i ≤ T) (hG : GM T G ν0) (h : MC ν0 P p q μ) (huv : UM P u v μ) : ∀ (d n i : Nat) (ν : Mem), i + d = M → d < n → (∀ c, c ≠ 112 → ν c = μ c) → (∀ j, j < i → ν 112 j = wgt p q u v G j) → ∃ μ', fX9_joined_185 FF n (nI i) ν = fX9_joined_240 FF FF 0 μ' ∧ (∀ c, c ≠ 112 → μ' c = μ c) ∧ ∀ j, j < M → μ' 112 j = wgt p q u v G j := by
  intro d
  induction d with
  | zero =>
    intro n i ν hi hn q1 q2
    obtain ⟨n, rfl⟩ : ∃ n', n = n' + 1 := ⟨n - 1, by omega⟩
    obtain rfl : i = M := by omega
    refine ⟨ν, ?_, q1, q2⟩
    show fX9_joined_185_b FF _ _ ν = _
    unfold fX9_joined_185_b
    rw [q1 89 (by omega), h.pt, nI_add1, if_pos (nI_le (by omega) (by omega))]
  | succ d ih =>
    intro n i ν hi hn q1 q2
    obtain ⟨n, rfl⟩ : ∃ n', n = n' + 1 := ⟨n - 1, by omega⟩
    have hv : MC ν0 P p q ν := h.ch (fun c c1 c2 => q1 c (by omega)) (fun j _ => by rw [q1 89 (by omega)])
    have hU : UM P u v ν := huv.ch (q1 108 (by omega)) (q1 109 (by omega))
    obtain ⟨⟨a1, a2⟩, a3, a4⟩ := hU i (by omega)
    obtain ⟨⟨b1, b2⟩, b3, b4⟩ := hU (i + 1) (by omega)
    have t1 := (hT _ a1).1
    have t2 := (hT _ a3).2
    have t3 := (hT _ b1).1
    have t4 := (hT _ b3).2
    obtain ⟨m2, f2, g2, b2', c2⟩ := wr_x (μ := ν) (k := 112) (i := i) (wgt p q u v G i) (by show i < 41; omega)
    have step : fX9_joined_185 FF (n + 1) (nI i) ν = fX9_joined_185 FF n (nI (i + 1)) m2 := by
      show fX9_joined_185_b FF _ _ ν = _
      unfold fX9_joined_185_b
      rw [hv.pt, nI_add1, if_neg (nI_ge (by omega) (by omega)), m_higher hP hT4 hT hv hU (by omega), cal_n, m_lower hP hT4 hT hv hU (by omega), cal_n, ifle (by omega) (by omega)]
      have ew : wgt p q u v G i = if max (p (u i)) (q (v i)) < min (p (u (i + 1))) (q (v (i + 1))) then G (max (p (u i)) (q (v i))) (min (p (u (i + 1))) (q (v (i + 1)))) + G (min (p (u (i + 1))) (q (v (i + 1)))) (max (p (u i)) (q (v i))) else 0 := rfl
      by_cases c : min (p (u (i + 1))) (q (v (i + 1))) ≤ max (p (u i)) (q (v i))
      · rw [if_neg (by omega)] at ew
        rw [if_pos c, ← ew]
        exact f2 _
      · rw [if_pos (by omega)] at ew
        rw [if_neg c, (hG ν hv.1 _ _ (by omega) (by omega)).2 (by omega), cal_n, ← ew]
        exact f2 _
    rw [step]
    refine ih n (i + 1) m2 (by omega) (by omega) (fun c hc => by rw [c2 c hc]; exact q1 c hc) (fun j hj => ?_)
    by_cases e : j = i
    · rw [e, g2]
    · rw [b2' j e]; exact q2 j (by omega)
/-- the join that is looked at -/
def Lst (w : Nat → Int32) (L : Nat → Prop) (c j : Nat) : Prop := j < c ∧ ¬ L j ∧ ∀ k, k < c → ¬ L k → (w j).toInt < (w k).toInt ∨ ((w j).toInt = (w k).toInt ∧ j ≤ k)
theorem m_select {P M t : Nat} {w : Nat → Int32} {L : Nat → Prop} {μ : Mem} (hM : M + 1 = P) (hP : P ≤ 41) (h9 : μ 89 21 = nI P) (h112 : ∀ k, k < M → μ 112 k = w k) (h113 : ∀ k, k < M → (L k ∧ μ 113 k = 1) ∨ (¬ L k ∧ μ 113 k = 0)) (rec240 : Int32 → Mem → Option (Int32 × Mem)) (hex : ∃ k, k < M ∧ ¬ L k) : ∃ (n' j : Nat), Lst w L M j ∧ fX9_joined_254 FF rec240 FF (nI t) (-1) 0 μ = fX9_joined_254_b FF rec240 (fX9_joined_254 FF rec240 n') (nI t) (nI j) (nI M) μ := by
  have loop : ∀ (d n c : Nat) (y : Int32), c + d = M → d < n → ((y = -1 ∧ ∀ k, k < c → L k) ∨ ∃ j, y = nI j ∧ Lst w L c j) → ∃ (n' j : Nat), Lst w L M j ∧ fX9_joined_254 FF rec240 n (nI t) y (nI c) μ = fX9_joined_254_b FF rec240 (fX9_joined_254 FF rec240 n') (nI t) (nI j) (nI M) μ := by
    intro d
    induction d with
    | zero =>
      intro n c y hc hn hy
      obtain ⟨n, rfl⟩ : ∃ n', n = n' + 1 := ⟨n - 1, by omega⟩
      obtain rfl : c = M := by omega
      rcases hy with ⟨_, q⟩ | ⟨j, rfl, q⟩
      · obtain ⟨k, k1, k2⟩ := hex
        exact absurd (q k k1) k2
      · exact ⟨n, j, q, rfl⟩
    | succ d ih =>
      intro n c y hc hn hy
      obtain ⟨n, rfl⟩ : ∃ n', n = n' + 1 := ⟨n - 1, by omega⟩
      have head : fX9_joined_254 FF rec240 (n + 1) (nI t) y (nI c) μ = if (μ 113 c) = 0 then (if y = -1 then fX9_joined_254 FF rec240 n (nI t) (nI c) (nI (c + 1)) μ else rd μ 112 (nI c) (fun v49 => rd μ 112 y (fun v50 => if v50 ≤ v49 then fX9_joined_254 FF rec240 n (nI t) y (nI (c + 1)) μ else fX9_joined_254 FF rec240 n (nI t) (nI c) (nI (c + 1)) μ))) else fX9_joined_254 FF rec240 n (nI t) y (nI (c + 1)) μ := by
        show fX9_joined_254_b FF _ _ _ _ _ μ = _
        unfold fX9_joined_254_b
        rw [h9, nI_add1, if_neg (nI_ge (by omega) (by omega)), rd_n (by show c < 41; omega)]
      rw [head]
      rcases h113 c (by omega) with ⟨l1, l2⟩ | ⟨l1, l2⟩
      · rw [l2, if_neg one_ne]
        refine ih n (c + 1) y (by omega) (by omega) ?_
        rcases hy with ⟨e, q⟩ | ⟨j, e, q1, q2, q3⟩
        · refine Or.inl ⟨e, fun k hk => ?_⟩
          by_cases ek : k = c
          · rw [ek]; exact l1
          · exact q k (by omega)
        · refine Or.inr ⟨j, e, by omega, q2, fun k hk hL => ?_⟩
          by_cases ek : k = c
          · rw [ek] at hL; exact absurd l1 hL
          · exact q3 k (by omega) hL
      · rw [l2, if_pos rfl]
        rcases hy with ⟨e, q⟩ | ⟨j, e, q1, q2, q3⟩
        · rw [if_pos e]
          refine ih n (c + 1) (nI c) (by omega) (by omega) (Or.inr ⟨c, rfl, by omega, l1, fun k hk hL => ?_⟩)
          by_cases ek : k = c
          · rw [ek]; exact Or.inr ⟨rfl, Nat.le_refl _⟩
          · exact absurd (q k (by omega)) hL
        · rw [if_neg (by rw [e]; exact m1_ne (by omega)), rd_n (by show c < 41; omega), e, rd_n (by show j < 41; omega), h112 c (by omega), h112 j (by omega)]
          by_cases cw : w j ≤ w c
          · rw [if_pos cw]
            rw [Int32.le_iff_toInt_le] at cw
            refine ih n (c + 1) (nI j) (by omega) (by omega) (Or.inr ⟨j, rfl, by omega, q2, fun k hk hL => ?_⟩)
            by_cases ek : k = c
            · subst ek
              omega
            · exact q3 k (by omega) hL
          · rw [if_neg cw]
            rw [Int32.le_iff_toInt_le] at cw
            refine ih n (c + 1) (nI c) (by omega) (by omega) (Or.inr ⟨c, rfl, by omega, l1, fun k hk hL => ?_⟩)
            by_cases ek : k = c
            · subst ek
              exact Or.inr ⟨rfl, Nat.le_refl _⟩
            · rcases q3 k (by omega) hL with z | ⟨z, _⟩
              · exact Or.inl (by omega)
              · exact Or.inl (by omega)
  exact loop M FF 0 (-1) (by omega) (by rw [FF_e]; omega) (Or.inl ⟨rfl, fun k hk => by omega⟩)
theorem m_rename {P t l1 l2 : Nat} {h : Nat → Nat} {μ : Mem} (hP : P ≤ 41) (h9 : μ 89 21 = nI P) (h1 : l1 < 42) (h2 : l2 < 42) (hl : ∀ x, x < P → h x < 42 ∧ μ 111 x = nI (h x)) (rec240 : Int32 → Mem → Option (Int32 × Mem)) : ∃ μ', fX9_joined_380 FF rec240 FF (nI t) (nI l1) (nI l2) 0 μ = rec240 (nI (t + 1)) μ' ∧ (∀ c, c ≠ 111 → μ' c = μ c) ∧ ∀ x, x < P → μ' 111 x = nI (if h x = l2 then l1 else h x) := by
  have loop : ∀ (d n i : Nat) (ν : Mem), i + d = P → d < n → (∀ c, c ≠ 111 → ν c = μ c) → (∀ x, x < i → ν 111 x = nI (if h x = l2 then l1 else h x)) → (∀ x, i ≤ x → ν 111 x = μ 111 x) → ∃ μ', fX9_joined_380 FF rec240 n (nI t) (nI l1) (nI l2) (nI i) ν = rec240 (nI (t + 1)) μ' ∧ (∀ c, c ≠ 111 → μ' c = μ c) ∧ ∀ x, x < P → μ' 111 x = nI (if h x = l2 then l1 else h x) := by
    intro d
    induction d with
    | zero =>
      intro n i ν hi hn q1 q2 q3
      obtain ⟨n, rfl⟩ : ∃ n', n = n' + 1 := ⟨n - 1, by omega⟩
      obtain rfl : i = P := by omega
      refine ⟨ν, ?_, q1, q2⟩
      show fX9_joined_380_b FF _ _ _ _ _ _ ν = _
      unfold fX9_joined_380_b
      rw [q1 89 (by omega), h9, if_pos (nI_le (by omega) (by omega)), nI_add1]
    | succ d ih =>
      intro n i ν hi hn q1 q2 q3
      obtain ⟨n, rfl⟩ : ∃ n', n = n' + 1 := ⟨n - 1, by omega⟩
      obtain ⟨li, ei⟩ := hl i (by omega)
      have new : ∀ z, z = (if h i = l2 then l1 else h i) → ∃ m2 : Mem, (∀ {α : Type} (f : Mem → Option α), wr ν 111 (nI i) (nI z) f = f m2) ∧ ∃ μ', fX9_joined_380 FF rec240 n (nI t) (nI l1) (nI l2) (nI (i + 1)) m2 = rec240 (nI (t + 1)) μ' ∧ (∀ c, c ≠ 111 → μ' c = μ c) ∧ ∀ x, x < P → μ' 111 x = nI (if h x = l2 then l1 else h x) := fun z hz => by
        obtain ⟨m2, f2, a2, b2, g2⟩ := wr_x (μ := ν) (k := 111) (i := i) (nI z) (by show i < 41; omega)
        refine ⟨m2, f2, ih n (i + 1) m2 (by omega) (by omega) (fun c' hc => by rw [g2 c' hc]; exact q1 c' hc) (fun x hx => ?_) (fun x hx => by rw [b2 x (by omega)]; exact q3 x (by omega))⟩
        by_cases e : x = i
        · rw [e, a2, hz]
        · rw [b2 x e]; exact q2 x (by omega)
      have head : fX9_joined_380 FF rec240 (n + 1) (nI t) (nI l1) (nI l2) (nI i) ν = if h i = l2 then wr ν 111 (nI i) (nI l1) (fun m62 => fX9_joined_380 FF rec240 n (nI t) (nI l1) (nI l2) (nI (i + 1)) m62) else wr ν 111 (nI i) (nI (h i)) (fun m61 => fX9_joined_380 FF rec240 n (nI t) (nI l1) (nI l2) (nI (i + 1)) m61) := by
        show fX9_joined_380_b FF _ _ _ _ _ _ ν = _
        unfold fX9_joined_380_b
        rw [q1 89 (by omega), h9, if_neg (nI_ge (by omega) (by omega)), rd_n (by show i < 41; omega), q3 i (by omega), ei, ifeq (by omega) (by omega), rd_n (by show i < 41; omega), q3 i (by omega), ei, nI_add1]
      rw [head]
      by_cases c : h i = l2
      · rw [if_pos c]
        obtain ⟨m2, f2, z⟩ := new l1 (by rw [if_pos c])
        rw [f2]
        exact z
      · rw [if_neg c]
        obtain ⟨m2, f2, z⟩ := new (h i) (by rw [if_neg c])
        rw [f2]
        exact z
  exact loop P FF 0 μ (by omega) (by rw [FF_e]; omega) (fun _ _ => rfl) (fun x hx => by omega) (fun _ _ => rfl)
theorem rn_eq {h : Nat → Nat} {a b x y : Nat} : rn h a b x = rn h a b y ↔ (h x = h y ∨ ((h x = h a ∨ h x = h b) ∧ (h y = h a ∨ h y = h b))) := by
  unfold rn
  by_cases c1 : h x = h b
  · rw [if_pos c1]
    by_cases c2 : h y = h b
    · rw [if_pos c2]
      exact ⟨fun _ => Or.inl (c1.trans c2.symm), fun _ => rfl⟩
    · rw [if_neg c2]
      constructor
      · intro e
        exact Or.inr ⟨Or.inr c1, Or.inl e.symm⟩
      · rintro (e | ⟨_, e | e⟩)
        · exact absurd (e.symm.trans c1) c2
        · exact e.symm
        · exact absurd e c2
  · rw [if_neg c1]
    by_cases c2 : h y = h b
    · rw [if_pos c2]
      constructor
      · intro e
        exact Or.inr ⟨Or.inl e, Or.inr c2⟩
      · rintro (e | ⟨e | e, _⟩)
        · exact absurd (e.trans c2) c1
        · exact e
        · exact absurd e c1
    · rw [if_neg c2]
      constructor
      · intro e
        exact Or.inl e
      · rintro (e | ⟨e1, e2⟩)
        · exact e
        · rcases e1 with e1 | e1
          · rcases e2 with e2 | e2
            · exact e1.trans e2.symm
            · exact absurd e2 c2
          · exact absurd e1 c1
theorem m_take {P M : Nat} {p q u v b f0 : Nat → Nat} {w : Nat → Int32} {ν0 μ : Mem} (hM : M + 1 = P) (hP : P ≤ 41) (h : MC ν0 P p q μ) (huv : UM P u v μ) (hb : ∀ t, t < M → b t < M) (hbi : ∀ s t, s < t → t < M → b s ≠ b t) (hbs : ∀ k, k < M → ∃ t, t < M ∧ b t = k) (hlex : ∀ s t, s < t → t < M → (w (b s)).toInt < (w (b t)).toInt ∨ ((w (b s)).toInt = (w (b t)).toInt ∧ b s < b t)) (h112 : ∀ k, k < M → μ 112 k = w k) :
    ∀ (d n t : Nat) (ν : Mem) (g : Nat → Nat), t + d = M → d < n → (∀ c, c ≠ 111 → c ≠ 113 → c ≠ 114 → c ≠ 115 → ν c = μ c) → (∀ j, j ≠ 2 → j ≠ 3 → ν 115 j = μ 115 j) → ν 115 2 = nI (kr u w b f0 t).2.2.1 → ν 115 3 = (kr u w b f0 t).2.2.2 → (∀ x, x < P → g x < 42 ∧ ν 111 x = nI (g x)) → (∀ x y, x < P → y < P → (g x = g y ↔ (kr u w b f0 t).1 x = (kr u w b f0 t).1 y)) → (∀ s, s < M → ν 113 (b s) = if s < t then 1 else 0) → (∀ k, k < M → ν 114 k = nI ((kr u w b f0 t).2.1 k)) →
    ∃ μ', fX9_joined_240 FF n (nI t) ν = fX9_joined_438 FF FF (nI M + (-1)) μ' ∧ (∀ c, c ≠ 111 → c ≠ 113 → c ≠ 114 → c ≠ 115 → μ' c = μ c) ∧ (∀ j, j ≠ 2 → j ≠ 3 → μ' 115 j = μ 115 j) ∧ μ' 115 2 = nI (kr u w b f0 M).2.2.1 ∧ μ' 115 3 = (kr u w b f0 M).2.2.2 ∧ ∀ k, k < M → μ' 114 k = nI ((kr u w b f0 M).2.1 k) := by
  intro d
  induction d with
  | zero =>
    intro n t ν g ht hn q1 q2 q3 q4 q5 q6 q7 q8
    obtain ⟨n, rfl⟩ : ∃ n', n = n' + 1 := ⟨n - 1, by omega⟩
    obtain rfl : t = M := by omega
    refine ⟨ν, ?_, q1, q2, q3, q4, q8⟩
    have z : ν 89 21 = nI P := by rw [q1 89 (by omega) (by omega) (by omega) (by omega)]; exact h.pt
    show fX9_joined_240_b FF _ _ ν = _
    unfold fX9_joined_240_b
    rw [z, nI_add1, if_pos (nI_le (by omega) (by omega)), ← hM, nI_m2]
  | succ d ih =>
    intro n t ν g ht hn q1 q2 q3 q4 q5 q6 q7 q8
    obtain ⟨n, rfl⟩ : ∃ n', n = n' + 1 := ⟨n - 1, by omega⟩
    have z : ν 89 21 = nI P := by rw [q1 89 (by omega) (by omega) (by omega) (by omega)]; exact h.pt
    have hU : UM P u v ν := huv.ch (q1 108 (by omega) (by omega) (by omega) (by omega)) (q1 109 (by omega) (by omega) (by omega) (by omega))
    have h12 : ∀ k, k < M → ν 112 k = w k := fun k hk => by rw [q1 112 (by omega) (by omega) (by omega) (by omega)]; exact h112 k hk
    obtain ⟨n', j, ⟨j1, j2, j3⟩, e0⟩ := m_select (t := t) (w := w) (L := fun k => ∃ s, s < t ∧ b s = k) (μ := ν) hM hP z h12 (fun k hk => by
      obtain ⟨s, hs, e⟩ := hbs k hk
      have q := q7 s hs
      rw [e] at q
      by_cases c : s < t
      · rw [if_pos c] at q
        exact Or.inl ⟨⟨s, c, e⟩, q⟩
      · rw [if_neg c] at q
        refine Or.inr ⟨fun ⟨s', c', e'⟩ => ?_, q⟩
        exact hbi s' s (by omega) hs (e'.trans e.symm)) (fX9_joined_240 FF n) ⟨b t, hb t (by omega), fun ⟨s, c, e⟩ => hbi s t c (by omega) e⟩
    have jb : j = b t := by
      obtain ⟨s, hs, e⟩ := hbs j j1
      by_cases c : s = t
      · rw [← e, c]
      · by_cases c2 : s < t
        · exact absurd ⟨s, c2, e⟩ j2
        · exfalso
          have l := hlex t s (by omega) hs
          have m := j3 (b t) (hb t (by omega)) (fun ⟨s', c', e'⟩ => hbi s' t c' (by omega) e')
          rw [← e] at m
          omega
    subst jb
    have bt := hb t (by omega)
    obtain ⟨⟨u1, u2⟩, -⟩ := hU (b t) (by omega)
    obtain ⟨⟨u3, u4⟩, -⟩ := hU (b t + 1) (by omega)
    obtain ⟨l1, l2⟩ := q5 _ u1
    obtain ⟨l3, l4⟩ := q5 _ u3
    obtain ⟨νl, hνl⟩ : ∃ νl, νl = upM ν 113 (upd (ν 113) (b t) 1) := ⟨_, rfl⟩
    have kl : ∀ c, c ≠ 113 → νl c = ν c := fun c hc => by rw [hνl, upM_ne hc]
    have k113 : ∀ s, s < M → νl 113 (b s) = if s < t + 1 then 1 else 0 := fun s hs => by
      rw [hνl, upM_self]
      by_cases e : s = t
      · rw [e, upd_s, if_pos (by omega)]
      · have ne : b s ≠ b t := fun w' => by
          by_cases c : s < t
          · exact hbi s t c (by omega) w'
          · exact hbi t s (by omega) hs w'.symm
        rw [upd_ne ne, q7 s hs]
        by_cases c : s < t
        · rw [if_pos c, if_pos (by omega)]
        · rw [if_neg c, if_neg (by omega)]
    have z12 : nI t + 1 = nI (t + 1) := nI_add1 t
    have head : fX9_joined_240 FF (n + 1) (nI t) ν = if g (u (b t)) = g (u (b t + 1)) then fX9_joined_240 FF n (nI (t + 1)) νl else wz νl 114 (nI (b t)) 1 (fun m42 => rd m42 115 2 (fun v43 => wr m42 115 2 (v43 + 1) (fun m44 => rd m44 115 3 (fun v45 => rd m44 112 (nI (b t)) (fun v46 => wr m44 115 3 (v45 + v46) (fun m47 => fX9_joined_380 FF (fX9_joined_240 FF n) FF (nI t) (nI (g (u (b t)))) (nI (g (u (b t + 1)))) 0 m47)))))) := by
      show fX9_joined_240_b FF _ _ ν = _
      unfold fX9_joined_240_b
      rw [z, z12, if_neg (nI_ge (by omega) (by omega)), e0]
      unfold fX9_joined_254_b
      rw [z, nI_add1, if_pos (nI_le (by omega) (by omega)), wz_n (Or.inr rfl) (by show b t < 41; omega), ← hνl, rd_n (by show b t < 41; omega), kl 108 (by omega), u2, rd_n (by show u (b t) < 41; omega), kl 111 (by omega), l2, nI_add1, rd_n (by show b t + 1 < 41; omega), kl 108 (by omega), u4, rd_n (by show u (b t + 1) < 41; omega), kl 111 (by omega), l4, ifeq (by omega) (by omega), z12]
    rw [head]
    by_cases c : g (u (b t)) = g (u (b t + 1))
    · have e := kr_n (w := w) ((q6 _ _ u1 u3).mp c)
      rw [if_pos c]
      exact ih n (t + 1) νl g (by omega) (by omega) (fun c' w1 w2 w3 w4 => by rw [kl c' w2]; exact q1 c' w1 w2 w3 w4) (fun j w1 w2 => by rw [kl 115 (by omega)]; exact q2 j w1 w2) (by rw [kl 115 (by omega), e]; exact q3) (by rw [kl 115 (by omega), e]; exact q4) (fun x hx => by rw [kl 111 (by omega)]; exact q5 x hx) (by rw [e]; exact q6) k113 (fun k hk => by rw [kl 114 (by omega), e]; exact q8 k hk)
    · have cf : ¬ (kr u w b f0 t).1 (u (b t)) = (kr u w b f0 t).1 (u (b t + 1)) := fun q => c ((q6 _ _ u1 u3).mpr q)
      have e := kr_y (w := w) cf
      rw [if_neg c]
      obtain ⟨νa, hνa⟩ : ∃ νa, νa = upM (upM νl 114 (upd (νl 114) (b t) 1)) 115 (upd (upd (ν 115) 2 (nI ((kr u w b f0 t).2.2.1 + 1))) 3 ((kr u w b f0 t).2.2.2 + w (b t))) := ⟨_, rfl⟩
      have ka : ∀ c', c' ≠ 113 → c' ≠ 114 → c' ≠ 115 → νa c' = ν c' := fun c' w1 w2 w3 => by rw [hνa, upM_ne w3, upM_ne w2, kl c' w1]
      have write : wz νl 114 (nI (b t)) 1 (fun m42 => rd m42 115 2 (fun v43 => wr m42 115 2 (v43 + 1) (fun m44 => rd m44 115 3 (fun v45 => rd m44 112 (nI (b t)) (fun v46 => wr m44 115 3 (v45 + v46) (fun m47 => fX9_joined_380 FF (fX9_joined_240 FF n) FF (nI t) (nI (g (u (b t)))) (nI (g (u (b t + 1)))) 0 m47)))))) = fX9_joined_380 FF (fX9_joined_240 FF n) FF (nI t) (nI (g (u (b t)))) (nI (g (u (b t + 1)))) 0 νa := by
        have g1 : upM νl 114 (upd (νl 114) (b t) 1) 115 = ν 115 := by rw [upM_ne (by omega), kl 115 (by omega)]
        have g2 : ∀ Y, upM (upM νl 114 (upd (νl 114) (b t) 1)) 115 Y 112 = ν 112 := fun Y => by rw [upM_ne (by omega), upM_ne (by omega), kl 112 (by omega)]
        rw [wz_n (Or.inr rfl) (by show b t < 41; omega), show (2 : Int32) = nI 2 from rfl, rd_n (by decide), g1, q3, nI_add1, wr_n (by decide), g1, show (3 : Int32) = nI 3 from rfl, rd_n (by decide), upM_self, upd_ne (show (3 : Nat) ≠ 2 by decide), q4, rd_n (by show b t < 41; omega), g2, h12 _ bt, wr_n (by decide), upM_upM, upM_self, ← hνa]
      obtain ⟨νr, r1, r2, r3⟩ := m_rename (t := t) (l1 := g (u (b t))) (l2 := g (u (b t + 1))) (h := g) (μ := νa) hP (by rw [ka 89 (by omega) (by omega) (by omega)]; exact z) l1 l3 (fun x hx => ⟨(q5 x hx).1, by rw [ka 111 (by omega) (by omega) (by omega)]; exact (q5 x hx).2⟩) (fX9_joined_240 FF n)
      rw [write, r1]
      have k115 : νr 115 = upd (upd (ν 115) 2 (nI ((kr u w b f0 t).2.2.1 + 1))) 3 ((kr u w b f0 t).2.2.2 + w (b t)) := by rw [r2 115 (by omega), hνa, upM_self]
      refine ih n (t + 1) νr (rn g (u (b t)) (u (b t + 1))) (by omega) (by omega) (fun c' w1 w2 w3 w4 => by rw [r2 c' w1, ka c' w2 w3 w4]; exact q1 c' w1 w2 w3 w4) (fun j w1 w2 => by rw [k115, upd_ne w2, upd_ne w1]; exact q2 j w1 w2) (by rw [k115, upd_ne (by decide), upd_s, e]) (by rw [k115, upd_s, e]) (fun x hx => ⟨?_, r3 x hx⟩) (fun x y hx hy => ?_) (fun s hs => ?_) (fun k hk => ?_)
      · unfold rn
        by_cases cx : g x = g (u (b t + 1))
        · rw [if_pos cx]; exact l1
        · rw [if_neg cx]; exact (q5 x hx).1
      · rw [e]
        show rn g _ _ x = rn g _ _ y ↔ rn (kr u w b f0 t).1 _ _ x = rn (kr u w b f0 t).1 _ _ y
        rw [rn_eq, rn_eq, q6 x y hx hy, q6 x _ hx u1, q6 x _ hx u3, q6 y _ hy u1, q6 y _ hy u3]
      · rw [r2 113 (by omega), hνa, upM_ne (by omega), upM_ne (by omega)]
        exact k113 s hs
      · rw [r2 114 (by omega), hνa, upM_ne (by omega), upM_self, kl 114 (by omega), e]
        show _ = nI (if k = b t then 1 else (kr u w b f0 t).2.1 k)
        by_cases ek : k = b t
        · rw [ek, upd_s, if_pos rfl]
          rfl
        · rw [upd_ne ek, if_neg ek]
          exact q8 k hk
end
section
/-! the reference's rings: what is exchanged, and all together -/
theorem m_exch {P k : Nat} {u v : Nat → Nat} {μ : Mem} (hP : P ≤ 41) (hU : UM P u v μ) (hk : k + 1 < P) : fX9_exchange FF (nI k) μ = some (upM μ 110 (swp (μ 110) (u k) (u (k + 1)))) := by
  obtain ⟨⟨u1, u2⟩, -⟩ := hU k (by omega)
  obtain ⟨⟨u3, u4⟩, -⟩ := hU (k + 1) (by omega)
  unfold fX9_exchange
  rw [rd_n (by show k < 41; omega), u2, rd_n (by show u k < 41; omega), rd_n (by show k < 41; omega), u2, nI_add1, rd_n (by show k + 1 < 41; omega), u4, rd_n (by show u (k + 1) < 41; omega), wr_n (by show u k < 41; omega), rd_n (by show k + 1 < 41; omega), upM_ne (by omega), u4, wr_n (by show u (k + 1) < 41; omega), upM_upM, upM_self]
  rfl
theorem m_exU {T P M : Nat} {p q u v tk : Nat → Nat} {G : Nat → Nat → Int32} {ν0 μ : Mem} (hM : M + 1 = P) (hP : P ≤ 41) (hT4 : T ≤ 100000) (hT : ∀ i, i < P → p i ≤ T ∧ q i ≤ T) (hG : GM T G ν0) (h : MC ν0 P p q μ) (huv : UM P u v μ) (ht : ∀ k, k < M → tk k ≤ 1 ∧ μ 114 k = nI (tk k)) : ∀ (d n i : Nat) (ν : Mem) (π : Nat → Nat), i + d = M → d < n → (∀ c, c ≠ 110 → ν c = μ c) → (∀ x, x < P → ν 110 x = nI (π x)) → (∀ x, x < P → exL u (Lup (sU tk (eaF p q u v)) d i) π x < P) → ∃ μ', fX9_joined_489 FF n (nI i) ν = some (cst P p q G (exL u (Lup (sU tk (eaF p q u v)) d i) π), μ') ∧ (∀ c, c ≠ 110 → μ' c = μ c) ∧ ∀ x, x < P → μ' 110 x = nI (exL u (Lup (sU tk (eaF p q u v)) d i) π x) := by
  intro d
  induction d with
  | zero =>
    intro n i ν π hi hn q1 q2 q3
    obtain ⟨n, rfl⟩ : ∃ n', n = n' + 1 := ⟨n - 1, by omega⟩
    have hR : MC ν0 P p q ν := h.ch (fun c c1 c2 => q1 c (by omega)) (fun j _ => by rw [q1 89 (by omega)])
    refine ⟨ν, ?_, q1, q2⟩
    show fX9_joined_489_b FF _ _ ν = _
    unfold fX9_joined_489_b
    rw [hR.pt, nI_add1, if_pos (nI_le (by omega) (by omega)), m_costAll hP hT hG hR q3 q2, cal_n]
  | succ d ih =>
    intro n i ν π hi hn q1 q2 q3
    obtain ⟨n, rfl⟩ : ∃ n', n = n' + 1 := ⟨n - 1, by omega⟩
    obtain ⟨t1, t2⟩ := ht i (by omega)
    have hR : MC ν0 P p q ν := h.ch (fun c c1 c2 => q1 c (by omega)) (fun j _ => by rw [q1 89 (by omega)])
    have hU : UM P u v ν := huv.ch (q1 108 (by omega)) (q1 109 (by omega))
    obtain ⟨⟨u1, u2⟩, u5, u6⟩ := hU i (by omega)
    obtain ⟨⟨u3, u4⟩, -⟩ := hU (i + 1) (by omega)
    have tt1 := (hT _ u1).1
    have tt2 := (hT _ u5).2
    have el : Lup (sU tk (eaF p q u v)) (d + 1) i = if sU tk (eaF p q u v) i = true then i :: Lup (sU tk (eaF p q u v)) d (i + 1) else Lup (sU tk (eaF p q u v)) d (i + 1) := rfl
    have head : fX9_joined_489 FF (n + 1) (nI i) ν = if sU tk (eaF p q u v) i = true then fX9_joined_489 FF n (nI (i + 1)) (upM ν 110 (swp (ν 110) (u i) (u (i + 1)))) else fX9_joined_489 FF n (nI (i + 1)) ν := by
      show fX9_joined_489_b FF _ _ ν = _
      unfold fX9_joined_489_b
      rw [hR.pt, nI_add1, if_neg (nI_ge (by omega) (by omega)), rd_n (by show i < 41; omega), q1 114 (by omega), t2, show (0 : Int32) = nI 0 from rfl, ifeq (by omega) (by omega)]
      unfold sU
      by_cases c : tk i = 0
      · rw [if_pos c, if_neg]
        rw [Bool.and_eq_true, decide_eq_true_iff]
        omega
      · rw [if_neg c, rd_n (by show i < 41; omega), u2, rd_n (by show u i < 41; omega), (hR.2.2 _ u1).1, rd_n (by show i < 41; omega), u6, rd_n (by show v i < 41; omega), (hR.2.2 _ u5).2, ifle (by omega) (by omega)]
        have ee : eaF p q u v i = decide (q (v i) < p (u i)) := rfl
        by_cases e : p (u i) ≤ q (v i)
        · rw [if_pos e, if_neg]
          rw [Bool.and_eq_true, ee, decide_eq_true_iff, decide_eq_true_iff]
          omega
        · rw [if_neg e, if_pos (by rw [Bool.and_eq_true, ee, decide_eq_true_iff, decide_eq_true_iff]; omega), m_exch hP hU (by omega), cav_n]
    rw [el] at q3 ⊢
    rw [head]
    by_cases c : sU tk (eaF p q u v) i = true
    · rw [if_pos c] at q3 ⊢
      rw [if_pos c]
      exact ih n (i + 1) _ (swN π (u i) (u (i + 1))) (by omega) (by omega) (fun c' hc => by rw [upM_ne hc]; exact q1 c' hc) (fun x hx => by rw [upM_self]; exact swp_swN u1 u3 q2 x hx) q3
    · rw [if_neg c] at q3 ⊢
      rw [if_neg c]
      exact ih n (i + 1) ν π (by omega) (by omega) q1 q2 q3
theorem m_exD {T P M : Nat} {p q u v tk : Nat → Nat} {G : Nat → Nat → Int32} {ν0 μ : Mem} (hM : M + 1 = P) (hP : P ≤ 41) (hT4 : T ≤ 100000) (hT : ∀ i, i < P → p i ≤ T ∧ q i ≤ T) (hG : GM T G ν0) (h : MC ν0 P p q μ) (huv : UM P u v μ) (ht : ∀ k, k < M → tk k ≤ 1 ∧ μ 114 k = nI (tk k)) : ∀ (i n : Nat) (ν : Mem) (π : Nat → Nat), i ≤ M → i < n → (∀ c, c ≠ 110 → ν c = μ c) → (∀ x, x < P → ν 110 x = nI (π x)) → (∀ x, x < P → exL u (Ldn (sD tk (eaF p q u v)) i ++ Lup (sU tk (eaF p q u v)) M 0) π x < P) → ∃ μ', fX9_joined_438 FF n (nI i + (-1)) ν = some (cst P p q G (exL u (Ldn (sD tk (eaF p q u v)) i ++ Lup (sU tk (eaF p q u v)) M 0) π), μ') ∧ (∀ c, c ≠ 110 → μ' c = μ c) ∧ ∀ x, x < P → μ' 110 x = nI (exL u (Ldn (sD tk (eaF p q u v)) i ++ Lup (sU tk (eaF p q u v)) M 0) π x) := by
  intro i
  induction i with
  | zero =>
    intro n ν π hi hn q1 q2 q3
    obtain ⟨n, rfl⟩ : ∃ n', n = n' + 1 := ⟨n - 1, by omega⟩
    obtain ⟨μ', w1, w2, w3⟩ := m_exU hM hP hT4 hT hG h huv ht M FF 0 ν π (by omega) (by rw [FF_e]; omega) q1 q2 q3
    refine ⟨μ', ?_, w2, w3⟩
    show fX9_joined_438_b FF _ _ ν = _
    unfold fX9_joined_438_b
    rw [if_pos idx_neg]
    exact w1
  | succ i ih =>
    intro n ν π hi hn q1 q2 q3
    obtain ⟨n, rfl⟩ : ∃ n', n = n' + 1 := ⟨n - 1, by omega⟩
    obtain ⟨t1, t2⟩ := ht i (by omega)
    have hR : MC ν0 P p q ν := h.ch (fun c c1 c2 => q1 c (by omega)) (fun j _ => by rw [q1 89 (by omega)])
    have hU : UM P u v ν := huv.ch (q1 108 (by omega)) (q1 109 (by omega))
    obtain ⟨⟨u1, u2⟩, u5, u6⟩ := hU i (by omega)
    obtain ⟨⟨u3, u4⟩, -⟩ := hU (i + 1) (by omega)
    have tt1 := (hT _ u1).1
    have tt2 := (hT _ u5).2
    have el : Ldn (sD tk (eaF p q u v)) (i + 1) = if sD tk (eaF p q u v) i = true then i :: Ldn (sD tk (eaF p q u v)) i else Ldn (sD tk (eaF p q u v)) i := rfl
    have head : fX9_joined_438 FF (n + 1) (nI (i + 1) + (-1)) ν = if sD tk (eaF p q u v) i = true then fX9_joined_438 FF n (nI i + (-1)) (upM ν 110 (swp (ν 110) (u i) (u (i + 1)))) else fX9_joined_438 FF n (nI i + (-1)) ν := by
      show fX9_joined_438_b FF _ _ ν = _
      unfold fX9_joined_438_b
      rw [nI_addm1, if_neg (nI_pos (by omega)), rd_n (by show i < 41; omega), q1 114 (by omega), t2, show (0 : Int32) = nI 0 from rfl, ifeq (by omega) (by omega)]
      unfold sD
      by_cases c : tk i = 0
      · rw [if_pos c, if_neg]
        rw [Bool.and_eq_true, decide_eq_true_iff]
        omega
      · rw [if_neg c, rd_n (by show i < 41; omega), u2, rd_n (by show u i < 41; omega), (hR.2.2 _ u1).1, rd_n (by show i < 41; omega), u6, rd_n (by show v i < 41; omega), (hR.2.2 _ u5).2, iflt (by omega) (by omega)]
        have ee : eaF p q u v i = decide (q (v i) < p (u i)) := rfl
        by_cases e : q (v i) < p (u i)
        · rw [if_pos e, if_neg]
          rw [ee, decide_eq_true e, Bool.and_eq_true]
          exact fun w => by cases w.2
        · rw [if_neg e, if_pos (by
            rw [ee, decide_eq_false e, Bool.and_eq_true, decide_eq_true_iff]
            exact ⟨by omega, rfl⟩), m_exch hP hU (by omega), cav_n]
    rw [el] at q3 ⊢
    rw [head]
    by_cases c : sD tk (eaF p q u v) i = true
    · rw [if_pos c] at q3 ⊢
      rw [if_pos c]
      exact ih n _ (swN π (u i) (u (i + 1))) (by omega) (by omega) (fun c' hc => by rw [upM_ne hc]; exact q1 c' hc) (fun x hx => by rw [upM_self]; exact swp_swN u1 u3 q2 x hx) q3
    · rw [if_neg c] at q3 ⊢
      rw [if_neg c]
      exact ih n ν π (by omega) (by omega) q1 q2 q3
/-- the one ring -/
theorem rF_ring {P M : Nat} {p q f0 : Nat → Nat} {G : Nat → Nat → Int32} (hM : M + 1 = P) (hP : P ≤ 41) (hf : lbO P p q f0) : PB P (rF P M p q G f0) ∧ ∀ x y, x < P → y < P → Rch (rF P M p q G f0) x y := by
  obtain ⟨p1, p2, p3⟩ := so_perm (w := fun i => nI (p i)) (N := P) (by omega)
  obtain ⟨j1, j2, j3⟩ := so_perm (w := rW P p q G) (N := M) (by omega)
  exact one_ring (L := 42) (w := rW P p q G) (f0 := f0) (ea := eaF p q (rU P p) (rU P q)) hM p1 p3 j1 (fun s t h1 h2 e => by
    have := j2 s t (by omega) h2 e
    omega) j3 hf.1 (bhN_pb (by omega)) (fun x hx => (hf.2 x hx).1) (fun x y hx hy e => ((hf.2 x hx).2 y hy).mp e)
theorem m_joined {T P M : Nat} {p q f0 : Nat → Nat} {G : Nat → Nat → Int32} {μ : Mem} (hM : M + 1 = P) (hP : P ≤ 41) (hT4 : T ≤ 100000) (hT : ∀ i, i < P → p i ≤ T ∧ q i ≤ T) (hG : GM T G μ) (h : MC μ P p q μ) (hf : lbO P p q f0) : ∃ μ', fX9_joined FF μ = some (cst P p q G (rF P M p q G f0), μ') ∧ MC μ P p q μ' ∧ μ' 89 33 = 1 ∧ μ' 115 0 = nI (Kn (rB P p q) P) ∧ μ' 115 1 = cst P p q G (rB P p q) ∧ μ' 115 2 = nI (rK P M p q G f0).2.2.1 ∧ μ' 115 3 = (rK P M p q G f0).2.2.2 ∧ ∀ x, x < P → μ' 110 x = nI (rF P M p q G f0 x) := by
  obtain ⟨p1, p2, p3⟩ := so_perm (w := fun i => nI (p i)) (N := P) (by omega)
  obtain ⟨v1, v2, v3⟩ := so_perm (w := fun i => nI (q i)) (N := P) (by omega)
  obtain ⟨μa, hμa⟩ : ∃ μa, μa = upM (upM μ 108 (srI (gtK (μ 107)) (μ 108) P)) 109 (srI (gtK (μ 106)) (μ 109) P) := ⟨_, rfl⟩
  have ka : ∀ c, c ≠ 108 → c ≠ 109 → μa c = μ c := fun c c1 c2 => by rw [hμa, upM_ne c2, upM_ne c1]
  have ra : MC μ P p q μa := h.ch (fun c c1 c2 => ka c (by omega) (by omega)) (fun j _ => by rw [ka 89 (by omega) (by omega)])
  have ua : UM P (rU P p) (rU P q) μa := fun i hi => by
    refine ⟨⟨p1 i hi, ?_⟩, v1 i hi, ?_⟩
    · rw [hμa, upM_ne (by omega), upM_self]
      exact so_eq (by omega) (fun s hs => (h.2.2 s hs).1) i hi
    · rw [hμa, upM_self]
      exact so_eq (by omega) (fun s hs => (h.2.2 s hs).2) i hi
  have e1 : fX9_joined FF μ = fX9_joined_26 FF FF (nI 0) μa := by
    unfold fX9_joined
    have z1 : upM μ 108 (srI (gtK (μ 107)) (μ 108) P) 106 = μ 106 := upM_ne (by omega)
    have z2 : upM μ 108 (srI (gtK (μ 107)) (μ 108) P) 109 = μ 109 := upM_ne (by omega)
    have z3 : upM μ 108 (srI (gtK (μ 107)) (μ 108) P) 89 21 = nI P := by rw [upM_ne (by omega)]; exact h.pt
    rw [m_sorts (by omega) (by omega) h.pt (by show P ≤ 41; omega) (by show P ≤ 41; omega), cav_n, m_sorts (by omega) (by omega) z3 (by show P ≤ 41; omega) (by show P ≤ 41; omega), cav_n, z1, z2, ← hμa]
    rfl
  have bloop : ∀ (d n i : Nat) (ν : Mem), i + d = P → d < n → (∀ c, c ≠ 110 → c ≠ 111 → c ≠ 113 → c ≠ 114 → ν c = μa c) → (∀ j, j < i → ν 110 (rU P p j) = nI (rU P q j) ∧ ν 111 j = -1 ∧ ν 113 j = 0 ∧ ν 114 j = 0) → ∃ μ', fX9_joined_26 FF n (nI i) ν = st μ' 89 33 1 (fun m3 => wr m3 115 0 0 (fun m4 => wr m4 115 2 0 (fun m5 => wr m5 115 3 0 (fun m6 => fX9_joined_106 FF FF 0 m6)))) ∧ (∀ c, c ≠ 110 → c ≠ 111 → c ≠ 113 → c ≠ 114 → μ' c = μa c) ∧ ∀ j, j < P → μ' 110 (rU P p j) = nI (rU P q j) ∧ μ' 111 j = -1 ∧ μ' 113 j = 0 ∧ μ' 114 j = 0 := by
    intro d
    induction d with
    | zero =>
      intro n i ν hi hn q1 q2
      obtain ⟨n, rfl⟩ : ∃ n', n = n' + 1 := ⟨n - 1, by omega⟩
      obtain rfl : i = P := by omega
      refine ⟨ν, ?_, q1, q2⟩
      have z : ν 89 21 = nI i := by rw [q1 89 (by omega) (by omega) (by omega) (by omega)]; exact ra.pt
      show fX9_joined_26_b FF _ _ ν = _
      unfold fX9_joined_26_b
      rw [z, if_pos (nI_le (by omega) (by omega))]
    | succ d ih =>
      intro n i ν hi hn q1 q2
      obtain ⟨n, rfl⟩ : ∃ n', n = n' + 1 := ⟨n - 1, by omega⟩
      obtain ⟨⟨u1, u2⟩, u3, u4⟩ := ua i (by omega)
      have z : ν 89 21 = nI P := by rw [q1 89 (by omega) (by omega) (by omega) (by omega)]; exact ra.pt
      obtain ⟨ν', hν'⟩ : ∃ ν', ν' = upM (upM (upM (upM ν 110 (upd (ν 110) (rU P p i) (nI (rU P q i)))) 111 (upd (ν 111) i (-1))) 113 (upd (ν 113) i 0)) 114 (upd (ν 114) i 0) := ⟨_, rfl⟩
      have g1 : upM ν 110 (upd (ν 110) (rU P p i) (nI (rU P q i))) 111 = ν 111 := upM_ne (by omega)
      have g2 : upM (upM ν 110 (upd (ν 110) (rU P p i) (nI (rU P q i)))) 111 (upd (ν 111) i (-1)) 113 = ν 113 := by rw [upM_ne (by omega), upM_ne (by omega)]
      have g3 : upM (upM (upM ν 110 (upd (ν 110) (rU P p i) (nI (rU P q i)))) 111 (upd (ν 111) i (-1))) 113 (upd (ν 113) i 0) 114 = ν 114 := by rw [upM_ne (by omega), upM_ne (by omega), upM_ne (by omega)]
      have step : fX9_joined_26 FF (n + 1) (nI i) ν = fX9_joined_26 FF n (nI (i + 1)) ν' := by
        show fX9_joined_26_b FF _ _ ν = _
        unfold fX9_joined_26_b
        rw [z, if_neg (nI_ge (by omega) (by omega)), rd_n (by show i < 41; omega), q1 108 (by omega) (by omega) (by omega) (by omega), u2, rd_n (by show i < 41; omega), q1 109 (by omega) (by omega) (by omega) (by omega), u4, wr_n (by show rU P p i < 41; omega), wr_n (by show i < 41; omega), g1, wz_n (Or.inl rfl) (by show i < 41; omega), g2, wz_n (Or.inl rfl) (by show i < 41; omega), g3, nI_add1, ← hν']
      have k110 : ν' 110 = upd (ν 110) (rU P p i) (nI (rU P q i)) := by rw [hν', upM_ne (by omega), upM_ne (by omega), upM_ne (by omega), upM_self]
      have k111 : ν' 111 = upd (ν 111) i (-1) := by rw [hν', upM_ne (by omega), upM_ne (by omega), upM_self]
      have k113 : ν' 113 = upd (ν 113) i 0 := by rw [hν', upM_ne (by omega), upM_self]
      have k114 : ν' 114 = upd (ν 114) i 0 := by rw [hν', upM_self]
      rw [step]
      refine ih n (i + 1) ν' (by omega) (by omega) (fun c w1 w2 w3 w4 => by rw [hν', upM_ne w4, upM_ne w3, upM_ne w2, upM_ne w1]; exact q1 c w1 w2 w3 w4) (fun j hj => ?_)
      rw [k110, k111, k113, k114]
      by_cases e : j = i
      · rw [e, upd_s, upd_s, upd_s, upd_s]
        exact ⟨rfl, rfl, rfl, rfl⟩
      · rw [upd_ne (show rU P p j ≠ rU P p i from fun w => e (p2 j i (by omega) (by omega) w)), upd_ne e, upd_ne e, upd_ne e]
        exact q2 j (by omega)
  obtain ⟨μb, b1, b2, b3⟩ := bloop P FF 0 μa (by omega) (by rw [FF_e]; omega) (fun _ _ _ _ _ => rfl) (fun j hj => by omega)
  have hpb : PB P (rB P p q) := bhN_pb (by omega)
  have h110 : ∀ x, x < P → μb 110 x = nI (rB P p q x) := fun x hx => by
    obtain ⟨j, hj, e⟩ := p3 x hx
    have e' : rU P p j = x := e
    have z : rB P p q x = rU P q j := by rw [← e']; exact bhN_u p2 P (Nat.le_refl _) j hj
    rw [z, ← e']
    exact (b3 j hj).1
  obtain ⟨μc, hμc⟩ : ∃ μc, μc = upM (upM μb 89 (upd (μb 89) 33 1)) 115 (upd (upd (upd (μb 115) 0 0) 2 0) 3 0) := ⟨_, rfl⟩
  have kc : ∀ c, c ≠ 89 → c ≠ 115 → μc c = μb c := fun c c1 c2 => by rw [hμc, upM_ne c2, upM_ne c1]
  have kcj : ∀ j, j ≠ 33 → μc 89 j = μb 89 j := fun j hj => by rw [hμc, upM_ne (by omega), upM_self, upd_ne hj]
  have e2 : st μb 89 33 1 (fun m3 => wr m3 115 0 0 (fun m4 => wr m4 115 2 0 (fun m5 => wr m5 115 3 0 (fun m6 => fX9_joined_106 FF FF 0 m6)))) = fX9_joined_106 FF FF (nI 0) μc := by
    have g1 : upM μb 89 (upd (μb 89) 33 1) 115 = μb 115 := upM_ne (by omega)
    rw [st_n, show (0 : Int32) = nI 0 from rfl, wr_n (by decide), g1, show (2 : Int32) = nI 2 from rfl, wr_n (by decide), upM_upM, upM_self, show (3 : Int32) = nI 3 from rfl, wr_n (by decide), upM_upM, upM_self]
    rw [hμc]
    rfl
  have rc : MC μ P p q μc := ra.ch (fun c c1 c2 => by rw [kc c c1 (by omega), b2 c (by omega) (by omega) (by omega) (by omega)]) (fun j hj => by rw [kcj j hj, b2 89 (by omega) (by omega) (by omega) (by omega)])
  obtain ⟨μn, g, n1, n2, n3, n4, n5, n6, n7⟩ := m_names hP hT hG hpb P FF 0 μc (μc 111) (by omega) (by rw [FF_e]; omega) rc (fun x hx => by rw [kc 110 (by omega) (by omega)]; exact h110 x hx) (by rw [hμc, upM_self, upd_ne (by decide), upd_ne (by decide), upd_s]; rfl) rfl (fun a ha => Or.inl ⟨by rw [kc 111 (by omega) (by omega)]; exact (b3 a ha).2.1, fun s hs => by omega⟩)
  have fin := n7.fin hpb (fun s hs => by show s ≤ 41; omega) (fun a b _ _ e => e)
  have rn1 : MC μ P p q μn := rc.ch (fun c c1 c2 => n2 c (by omega) (by omega)) (fun j _ => by rw [n2 89 (by omega) (by omega)])
  have un : UM P (rU P p) (rU P q) μn := ua.ch (by rw [n2 108 (by omega) (by omega), kc 108 (by omega) (by omega), b2 108 (by omega) (by omega) (by omega) (by omega)]) (by rw [n2 109 (by omega) (by omega), kc 109 (by omega) (by omega), b2 109 (by omega) (by omega) (by omega) (by omega)])
  obtain ⟨μw, w1, w2, w3⟩ := m_weights hM hP hT4 hT hG rn1 un M FF 0 μn (by omega) (by rw [FF_e]; omega) (fun _ _ => rfl) (fun j hj => by omega)
  have rw1 : MC μ P p q μw := rn1.ch (fun c c1 c2 => w2 c (by omega)) (fun j _ => by rw [w2 89 (by omega)])
  have uw : UM P (rU P p) (rU P q) μw := un.ch (w2 108 (by omega)) (w2 109 (by omega))
  obtain ⟨j1, j2, j3⟩ := so_perm (w := rW P p q G) (N := M) (by omega)
  have jl := so_lex (w := rW P p q G) (N := M) (by omega)
  obtain ⟨μt, t1, t2, t3, t4, t5, t6⟩ := m_take (b := rJ P M p q G) (f0 := f0) (w := rW P p q G) (μ := μw) hM hP rw1 uw j1 (fun s t h1 h2 e => by
    have := j2 s t (by omega) h2 e
    omega) j3 jl w3 M FF 0 μw (fun x => tn (g x)) (by omega) (by rw [FF_e]; omega) (fun _ _ _ _ _ => rfl) (fun _ _ _ => rfl) (by rw [w2 115 (by omega), n5 2 (by decide) (by decide), hμc, upM_self, upd_ne (by decide), upd_s]; rfl) (by rw [w2 115 (by omega), n5 3 (by decide) (by decide), hμc, upM_self, upd_s]; rfl) (fun x hx => ⟨(fin x hx).1.2, by rw [w2 111 (by omega), n6]; exact (fin x hx).1.1⟩) (fun x y hx hy => by
      show tn (g x) = tn (g y) ↔ f0 x = f0 y
      rw [((fin x hx).2.2 y hy).2, ((hf.2 x hx).2 y hy)]) (fun s hs => by
      rw [w2 113 (by omega), n2 113 (by omega) (by omega), kc 113 (by omega) (by omega), if_neg (by omega)]
      exact (b3 _ (by have := j1 s hs; show so (rW P p q G) M s < P; omega)).2.2.1) (fun k hk => by
      rw [w2 114 (by omega), n2 114 (by omega) (by omega), kc 114 (by omega) (by omega)]
      exact (b3 k (by omega)).2.2.2)
  have inv := kr_inv (w := rW P p q G) (L := 42) (f0 := f0) hM p1 j1 (fun s t h1 h2 e => by
    have := j2 s t (by omega) h2 e
    omega) hf.1 M (Nat.le_refl _)
  have rt1 : MC μ P p q μt := rw1.ch (fun c c1 c2 => t2 c (by omega) (by omega) (by omega) (by omega)) (fun j _ => by rw [t2 89 (by omega) (by omega) (by omega) (by omega)])
  have ut1 : UM P (rU P p) (rU P q) μt := uw.ch (t2 108 (by omega) (by omega) (by omega) (by omega)) (t2 109 (by omega) (by omega) (by omega) (by omega))
  have fpb := (rF_ring (G := G) hM hP hf).1
  obtain ⟨μx, x1, x2, x3⟩ := m_exD (tk := (rK P M p q G f0).2.1) hM hP hT4 hT hG rt1 ut1 (fun k hk => ⟨inv.2.2.2.2.1 k, t6 k hk⟩) M FF μt (rB P p q) (Nat.le_refl _) (by rw [FF_e]; omega) (fun _ _ => rfl) (fun x hx => by
    rw [t2 110 (by omega) (by omega) (by omega) (by omega), w2 110 (by omega), n2 110 (by omega) (by omega), kc 110 (by omega) (by omega)]
    exact h110 x hx) fpb.1
  have k115 : ∀ j, μx 115 j = μt 115 j := fun j => by rw [x2 115 (by omega)]
  refine ⟨μx, ?_, rt1.ch (fun c c1 c2 => x2 c (by omega)) (fun j _ => by rw [x2 89 (by omega)]), ?_, ?_, ?_, ?_, ?_, x3⟩
  · rw [e1, b1, e2, n1]
    exact (w1.trans t1).trans x1
  · rw [x2 89 (by omega), t2 89 (by omega) (by omega) (by omega) (by omega), w2 89 (by omega), n2 89 (by omega) (by omega), hμc, upM_ne (by omega), upM_self, upd_s]
  · rw [k115, t3 0 (by decide) (by decide), w2 115 (by omega), n3]
  · rw [k115, t3 1 (by decide) (by decide), w2 115 (by omega), n4]
  · rw [k115, t4]
    rfl
  · rw [k115, t5]
    rfl
end
section
/-! what going costs: at once, and by heats; the row of a ring -/
theorem pS_one {p : Nat → Int32} {x : Nat} (h : ∀ s, s < 8 → p s = 1) : pS p x 8 = nI x := by
  have e : ∀ n, n ≤ 8 → pS p x n = nI (smN (fun s => part s x) n) := fun n => by
    induction n with
    | zero => intro _; rfl
    | succ n ih =>
      intro hn
      show pS p x n + p n * nI (part n x) = nI (smN (fun s => part s x) n + part n x)
      rw [ih (by omega), h n (by omega), i_1m, nI_add]
  rw [e 8 (by omega)]
  have : smN (fun s => part s x) 8 = x := by
    show 0 + part 0 x + part 1 x + part 2 x + part 3 x + part 4 x + part 5 x + part 6 x + part 7 x = x
    have p7 : part 7 x = x - 350 := by unfold part; rw [if_pos rfl]
    have pn : ∀ s, s < 7 → part s x = min x (50 * s + 50) - 50 * s := fun s hs => by unfold part; rw [if_neg (by omega)]
    rw [p7, pn 0 (by omega), pn 1 (by omega), pn 2 (by omega), pn 3 (by omega), pn 4 (by omega), pn 5 (by omega), pn 6 (by omega)]
    omega
  rw [this]
theorem pS_zero {p : Nat → Int32} {x : Nat} (h : ∀ s, s < 8 → p s = 0) : ∀ n, n ≤ 8 → pS p x n = 0
  | 0, _ => rfl
  | n + 1, hn => by
    show pS p x n + p n * nI (part n x) = 0
    rw [pS_zero h n (by omega), h n (by omega), i_0m]
    rfl
def G1 (a b : Nat) : Int32 := if b ≤ a then 0 else nI (b - a)
theorem go_wait {μ0 : Mem} (h : PR μ0) : GO 76 100000 G1 μ0 := fun μ hμ a b ha hb => by
  have e7 : ∀ s, s < 8 → μ 77 s = 1 := fun s hs => by rw [hμ 77 (by omega)]; exact (h s hs).2.2.2.2.1
  have e8 : ∀ s, s < 8 → μ 78 s = 0 := fun s hs => by rw [hμ 78 (by omega)]; exact (h s hs).2.2.2.2.2
  unfold fX4_going G1
  rw [ifle (by omega) (by omega)]
  by_cases c : b ≤ a
  · rw [if_pos c, if_pos c, show 76 + 1 + 1 = 78 from rfl, c_below rfl (by omega), cal_n, c_below rfl (by omega), cal_n, pS_zero e8 8 (by omega), pS_zero e8 8 (by omega)]
    rfl
  · rw [if_neg c, if_neg c, show 76 + 1 + 0 = 77 from rfl, c_below rfl (by omega), cal_n, c_below rfl (by omega), cal_n, pS_one e7, pS_one e7, nI_sub (by omega)]
theorem m_btw0 {lo hi : Nat} {y3 y4 : Int32} {μ : Mem} (h22 : μ 89 22 = 0) (hl : lo < 2 ^ 31) (hh : hi < 2 ^ 31) : fX9_between FF (nI lo) (nI hi) y3 y4 μ = some (if hi ≤ lo then 0 else y3 * (nI hi - nI lo), μ) := by
  obtain ⟨n, hn⟩ : ∃ n, FF = n + 1 := ⟨9999999, rfl⟩
  have e : fX9_between FF (nI lo) (nI hi) y3 y4 μ = fX9_between_6 FF (n + 1) (nI lo) (nI hi) y3 y4 0 (nI lo) μ := by rw [← hn]; rfl
  rw [e]
  show fX9_between_6_b FF _ _ _ _ _ _ _ μ = _
  unfold fX9_between_6_b fX9_between_56
  by_cases c : hi ≤ lo
  · have q : nI hi ≤ nI lo := nI_le c (by omega)
    rw [if_pos q, if_pos h22, if_pos q, if_pos c]
  · have q : ¬ nI hi ≤ nI lo := nI_ge (by omega) (by omega)
    rw [if_neg q, if_pos h22, if_pos h22, if_neg q, if_neg c]
theorem gm_wait {ν0 : Mem} (h22 : ν0 89 22 = 0) : GM 100000 G1 ν0 := fun μ hμ a b ha hb => by
  have e22 : μ 89 22 = 0 := by rw [hμ.2 22 (by decide)]; exact h22
  refine ⟨?_, fun hab => ?_⟩
  · unfold fX9_costOf G1
    rw [ifle (by omega) (by omega)]
    by_cases c : b ≤ a
    · rw [if_pos c, if_pos c, m_btw0 e22 (by omega) (by omega), cal_n, i_0m]
      by_cases c2 : a ≤ b
      · rw [if_pos c2]
      · rw [if_neg c2]
    · rw [if_neg c, if_neg c, m_btw0 e22 (by omega) (by omega), cal_n, if_neg c, i_1m, nI_sub (by omega)]
  · rw [m_btw0 e22 (by omega) (by omega), if_neg (by omega), i_1m, nI_sub (by omega)]
    unfold G1
    rw [if_neg (by omega), if_pos (by omega), i_a0]
theorem go_heat {μ0 : Mem} : GO 73 399 (goC (μ0 74) (μ0 75)) μ0 := fun μ hμ a b ha hb => by
  rw [c_going ha hb, hμ 74 (by omega), hμ 75 (by omega)]
theorem sumF_two {f g : Nat → Int32} : ∀ n, sumF (fun j => f j + g j) n = sumF f n + sumF g n
  | 0 => (i_a0 _).symm
  | n + 1 => by
    show sumF (fun j => f j + g j) n + (f n + g n) = (sumF f n + f n) + (sumF g n + g n)
    rw [sumF_two n, i_aa, i_aa]
    congr 1
    rw [← i_aa, ← i_aa, i_ac (sumF g n) (f n)]
theorem gm_heat {μ0 ν0 : Mem} (hp : ∀ i, i < 8 → μ0 74 i = ν0 101 i ∧ μ0 75 i = ν0 102 i) (h22 : ¬ ν0 89 22 = 0) : GM 399 (goC (μ0 74) (μ0 75)) ν0 := fun μ hμ a b ha hb => by
  have e22 : ¬ μ 89 22 = 0 := by rw [hμ.2 22 (by decide)]; exact h22
  have e1 : μ 101 = ν0 101 := hμ.1 101 (by omega) (by omega)
  have e2 : μ 102 = ν0 102 := hμ.1 102 (by omega) (by omega)
  have eG : ∀ a b, a ≤ 399 → b ≤ 399 → goC (μ 101) (μ 102) a b = goC (μ0 74) (μ0 75) a b := fun a b ha hb => by
    rw [e1, e2]
    exact (goC_congr ha hb hp).symm
  refine ⟨by rw [m_costOf ha hb e22, eG a b ha hb], fun hab => ?_⟩
  rw [m_btw (by omega) (by omega) e22, ← eG a b ha hb, ← eG b a hb ha]
  unfold goC
  rw [if_neg (by omega), if_pos (by omega)]
  have s1 := sumF_add (f := fun u => μ 101 (u / 50)) (a := a) (b - a)
  have s2 := sumF_add (f := fun u => μ 102 (u / 50)) (a := a) (b - a)
  rw [show a + (b - a) = b by omega] at s1 s2
  have e3 : sumF (fun j => (1 : Int32) * μ 101 ((a + j) / 50) + 1 * μ 102 ((a + j) / 50)) (b - a) = sumF (fun j => μ 101 ((a + j) / 50) + μ 102 ((a + j) / 50)) (b - a) := sumF_congr (fun i _ => by rw [i_1m, i_1m])
  rw [e3, sumF_two]
  unfold CC
  rw [s1, s2, i_as, i_as]
theorem c_rowF {P n s : Nat} {π : Nat → Nat} {μ : Mem} (hP : P ≤ 41) (hn : n ≤ 40) (hp : PB P π) (hs : s < P) (h66 : ∀ x, x < P → μ 66 x = nI (π x)) : ∃ μ', fX5_rowFrom FF (nI s) 79 (nI n) μ = some μ' ∧ (∀ c, c ≠ 79 → μ' c = μ c) ∧ ∀ j, j < n → μ' 79 j = nI (itr π j s) := by
  have loop : ∀ (d k i : Nat) (ν : Mem), i + d = n → d < k → (∀ c, c ≠ 79 → ν c = μ c) → (∀ j, j < i → ν 79 j = nI (itr π j s)) → ∃ μ', fX5_rowFrom_6 FF 79 k (nI n) (nI (itr π i s)) (nI i) ν = some μ' ∧ (∀ c, c ≠ 79 → μ' c = μ c) ∧ ∀ j, j < n → μ' 79 j = nI (itr π j s) := by
    intro d
    induction d with
    | zero =>
      intro k i ν hi hk q1 q2
      obtain ⟨k, rfl⟩ : ∃ k', k = k' + 1 := ⟨k - 1, by omega⟩
      obtain rfl : i = n := by omega
      refine ⟨ν, ?_, q1, q2⟩
      show fX5_rowFrom_6_b FF _ _ _ _ _ ν = _
      unfold fX5_rowFrom_6_b
      rw [if_pos (nI_le (by omega) (by omega))]
    | succ d ih =>
      intro k i ν hi hk q1 q2
      obtain ⟨k, rfl⟩ : ∃ k', k = k' + 1 := ⟨k - 1, by omega⟩
      have hl := itr_lt hp hs i
      obtain ⟨m1, f1, a1, b1, g1⟩ := wr_x (μ := ν) (k := 79) (i := i) (nI (itr π i s)) (by show i < 40; omega)
      have step : fX5_rowFrom_6 FF 79 (k + 1) (nI n) (nI (itr π i s)) (nI i) ν = fX5_rowFrom_6 FF 79 k (nI n) (nI (itr π (i + 1) s)) (nI (i + 1)) m1 := by
        show fX5_rowFrom_6_b FF _ _ _ _ _ ν = _
        unfold fX5_rowFrom_6_b
        rw [if_neg (nI_ge (by omega) (by omega)), f1, rd_n (by show itr π i s < 41; omega), g1 66 (by omega), q1 66 (by omega), h66 _ hl, nI_add1]
        rfl
      rw [step]
      refine ih k (i + 1) m1 (by omega) (by omega) (fun c hc => by rw [g1 c hc]; exact q1 c hc) (fun j hj => ?_)
      by_cases e : j = i
      · rw [e, a1]
      · rw [b1 j e]; exact q2 j (by omega)
  exact loop n FF 0 μ (by omega) (by rw [FF_e]; omega) (fun _ _ => rfl) (fun j hj => by omega)
theorem m_rowF {P n s : Nat} {π : Nat → Nat} {μ : Mem} (hP : P ≤ 41) (hn : n ≤ 40) (hp : PB P π) (hs : s < P) (h94 : μ 94 0 = nI n) (h110 : ∀ x, x < P → μ 110 x = nI (π x)) : ∃ μ', fX9_roundFrom FF (nI s) μ = some μ' ∧ (∀ j, j < n → μ' 100 j = nI (itr π j s)) ∧ μ' 89 12 = nI n ∧ μ' 89 14 = 1 ∧ μ' 89 15 = 1 ∧ (∀ j, j ≠ 12 → j ≠ 14 → j ≠ 15 → μ' 89 j = μ 89 j) ∧ ∀ c, c ≠ 89 → c ≠ 100 → c ≠ 105 → μ' c = μ c := by
  have loop : ∀ (d k i : Nat) (ν : Mem), i + d = n → d < k → (∀ c, c ≠ 105 → ν c = μ c) → (∀ j, j < i → ν 105 j = nI (itr π j s)) → ∃ μ', fX9_roundFrom_4 FF k (nI (itr π i s)) (nI i) ν = some μ' ∧ (∀ j, j < n → μ' 100 j = nI (itr π j s)) ∧ μ' 89 12 = nI n ∧ μ' 89 14 = 1 ∧ μ' 89 15 = 1 ∧ (∀ j, j ≠ 12 → j ≠ 14 → j ≠ 15 → μ' 89 j = μ 89 j) ∧ ∀ c, c ≠ 89 → c ≠ 100 → c ≠ 105 → μ' c = μ c := by
    intro d
    induction d with
    | zero =>
      intro k i ν hi hk q1 q2
      obtain ⟨k, rfl⟩ : ∃ k', k = k' + 1 := ⟨k - 1, by omega⟩
      obtain rfl : i = n := by omega
      have z : ν 94 0 = nI i := by rw [q1 94 (by omega)]; exact h94
      obtain ⟨μ', w1, w2, w3, w4, w5, w6, w7⟩ := m_finds (N := i) (μ := ν) hn z
      refine ⟨μ', ?_, fun j hj => by rw [w2 j hj]; exact q2 j hj, w3, w4, w5, fun j j1 j2 j3 => by rw [w6 j j1 j2 j3, q1 89 (by omega)], fun c c1 c2 c3 => by rw [w7 c c1 c2, q1 c c3]⟩
      show fX9_roundFrom_4_b FF _ _ _ ν = _
      unfold fX9_roundFrom_4_b
      rw [show (0 : Int32) = nI 0 from rfl, rd_n (by decide), z, if_pos (nI_le (by omega) (by omega)), w1, cav_n]
    | succ d ih =>
      intro k i ν hi hk q1 q2
      obtain ⟨k, rfl⟩ : ∃ k', k = k' + 1 := ⟨k - 1, by omega⟩
      have hl := itr_lt hp hs i
      obtain ⟨m1, f1, a1, b1, g1⟩ := wr_x (μ := ν) (k := 105) (i := i) (nI (itr π i s)) (by show i < 40; omega)
      have step : fX9_roundFrom_4 FF (k + 1) (nI (itr π i s)) (nI i) ν = fX9_roundFrom_4 FF k (nI (itr π (i + 1) s)) (nI (i + 1)) m1 := by
        show fX9_roundFrom_4_b FF _ _ _ ν = _
        unfold fX9_roundFrom_4_b
        rw [show (0 : Int32) = nI 0 from rfl, rd_n (by decide), q1 94 (by omega), h94, if_neg (nI_ge (by omega) (by omega)), f1, rd_n (by show itr π i s < 41; omega), g1 110 (by omega), q1 110 (by omega), h110 _ hl, nI_add1]
        rfl
      rw [step]
      refine ih k (i + 1) m1 (by omega) (by omega) (fun c hc => by rw [g1 c hc]; exact q1 c hc) (fun j hj => ?_)
      by_cases e : j = i
      · rw [e, a1]
      · rw [b1 j e]; exact q2 j (by omega)
  exact loop n FF 0 μ (by omega) (by rw [FF_e]; omega) (fun _ _ => rfl) (fun j hj => by omega)
theorem PermF.of_inj {N : Nat} {ρ : Nat → Nat} (h1 : ∀ i, i < N → ρ i < N) (h2 : ∀ i j, i < j → j < N → ρ i ≠ ρ j) : PermF (fun i => nI (ρ i)) N := by
  have sur : ∀ v, v < N → ∃ i, i < N ∧ ρ i = v := fun v hv => by
    by_cases c : ∃ i, i < N ∧ ρ i = v
    · exact c
    · exfalso
      have := pig (P := N) (ρ := fun i => if i < N then ρ i else v) (N + 1) (fun i hi => by
        show (if i < N then ρ i else v) < N
        by_cases q : i < N
        · rw [if_pos q]; exact h1 i q
        · rw [if_neg q]; exact hv) (fun i j hij hj => by
        show (if i < N then ρ i else v) ≠ (if j < N then ρ j else v)
        rw [if_pos (by omega)]
        by_cases q : j < N
        · rw [if_pos q]; exact h2 i j hij q
        · rw [if_neg q]; exact fun e => c ⟨i, by omega, e⟩)
      omega
  refine ⟨ρ, fun v => if hv : v < N then Classical.choose (sur v hv) else 0, fun i hi => ⟨h1 i hi, rfl, ?_⟩, fun v hv => ?_⟩
  · have hv := h1 i hi
    have s := Classical.choose_spec (sur (ρ i) hv)
    simp only [dif_pos hv]
    by_cases c : Classical.choose (sur (ρ i) hv) = i
    · exact c
    · exfalso
      by_cases d : Classical.choose (sur (ρ i) hv) < i
      · exact h2 _ i d hi s.2
      · exact h2 i _ (by omega) s.1 s.2.symm
  · have s := Classical.choose_spec (sur v hv)
    simp only [dif_pos hv]
    exact s
end
section
/-! rings, on both sides -/
variable {wq : Prop}
theorem rings_both {N P M T k : Nat} {p q : Nat → Nat} {G : Nat → Nat → Int32} {μ μc : Mem} (hI : Inv wq μ) (hL : RelN wq N (CL μ) (MT μ 0)) (hM : M + 1 = P) (hP : P ≤ 41) (hT4 : T ≤ 100000) (hT : ∀ i, i < P → p i ≤ T ∧ q i ≤ T) (hc : ∀ c, (c < 61 ∨ 70 < c) → μc c = μ c) (h9 : μc 61 9 = nI P) (hpq : ∀ i, i < P → μc 63 i = nI (p i) ∧ μc 62 i = nI (q i)) (hG : GO k T G μc) :
    ∃ (cost : Int32) (π : Nat → Nat) (μ1 : Mem), fX5_joinAll FF k μc = some (cost, μ1) ∧ PB P π ∧ (∀ x y, x < P → y < P → Rch π x y) ∧ (∀ x, x < P → μ1 66 x = nI (π x)) ∧ (∀ c, (c < 61 ∨ 70 < c) → μ1 c = μ c) ∧ ∀ s, s < P → (∀ j, j < N → itr π j s < N) → (∀ i j, i < j → j < N → itr π i s ≠ itr π j s) →
      ∃ μa μ2 : Mem, fX5_rowFrom FF (nI s) 79 (nI N) μ1 = some μa ∧ (∀ c, (c < 61 ∨ 70 < c) → c ≠ 79 → μa c = μ c) ∧ fX0_become FF 79 (nI N) μa = some μ2 ∧ (∀ c, (c < 61 ∨ 70 < c) → c ≠ 53 → c ≠ 54 → c ≠ 79 → μ2 c = μ c) ∧
        ∀ ν : Mem, (∀ c, c ≠ 89 → c ≠ 106 → c ≠ 107 → ν c = μ2 c) → (∀ j, j ≠ 21 → j ≠ 22 → ν 89 j = μ 89 j) → ν 89 21 = nI P → (∀ i, i < P → ν 107 i = nI (p i) ∧ ν 106 i = nI (q i)) → GM T G ν →
          ∃ μ3 : Mem, fX9_joined FF ν = some (cost, μ3) ∧ (∀ x, x < P → μ3 110 x = nI (π x)) ∧ (∀ c, 94 ≤ c → c ≤ 99 → μ3 c = μ c) ∧ ∃ μ4 : Mem, fX9_roundFrom FF (nI s) μ3 = some μ4 ∧ Inv wq μ4 ∧ ∀ c, 94 ≤ c → c ≤ 99 → μ4 c = μ c := by
  have hN := hL.1
  obtain ⟨μ1, f0, a1, a2, a3, a4, a5, a6, a7, a8, a9⟩ := c_joinAll (μ0 := μc) (μ := μc) hM hP hT4 hT hG ⟨fun _ _ => rfl, h9, hpq⟩
  obtain ⟨r1, r2⟩ := rF_ring (G := G) hM hP a2
  have k1 : ∀ c, (c < 61 ∨ 70 < c) → μ1 c = μ c := fun c hc' => by rw [a3.1 c hc', hc c hc']
  refine ⟨cst P p q G (rF P M p q G f0), rF P M p q G f0, μ1, a1, r1, r2, a9, k1, fun s hs d1 d2 => ?_⟩
  obtain ⟨μa, b1, b2, b3⟩ := c_rowF hP hN r1 hs a9
  obtain ⟨μ2, c1, c2, c3, c4, c5⟩ := c_become0 (N := N) (μ := μa) hN
  have ka : ∀ c, (c < 61 ∨ 70 < c) → c ≠ 79 → μa c = μ c := fun c w1 w2 => by rw [b2 c w2, k1 c w1]
  have k2 : ∀ c, (c < 61 ∨ 70 < c) → c ≠ 53 → c ≠ 54 → c ≠ 79 → μ2 c = μ c := fun c w1 w2 w3 w4 => by rw [c5 c w2 w3, ka c w1 w4]
  refine ⟨μa, μ2, b1, ka, c1, k2, fun ν n1 n2 n3 n4 hGm => ?_⟩
  obtain ⟨μ3, e1, e2, e3, e4, e5, e6, e7, e8⟩ := m_joined (μ := ν) hM hP hT4 hT hGm ⟨⟨fun _ _ _ => rfl, fun _ _ => rfl⟩, n3, n4⟩ a2
  have k3 : ∀ c, c ≠ 89 → (c < 106 ∨ 115 < c) → μ3 c = μ2 c := fun c w1 w2 => by rw [e2.1.1 c w1 (by omega), n1 c w1 (by omega) (by omega)]
  have k3m : ∀ c, 94 ≤ c → c ≤ 99 → μ3 c = μ c := fun c w1 w2 => by rw [k3 c (by omega) (by omega), k2 c (by omega) (by omega) (by omega) (by omega)]
  obtain ⟨μ4, g1, g2, g3, g4, g5, g6, g7⟩ := m_rowF hP hN r1 hs (by rw [k3m 94 (by omega) (by omega)]; exact hL.2.2.1) e8
  have k4 : ∀ c, c ≠ 89 → c ≠ 100 → (c < 105 ∨ 115 < c) → μ4 c = μ2 c := fun c w1 w2 w3 => by rw [g7 c w1 w2 (by omega), k3 c w1 (by omega)]
  have k4m : ∀ c, 94 ≤ c → c ≤ 99 → μ4 c = μ c := fun c w1 w2 => by rw [k4 c (by omega) (by omega) (by omega), k2 c (by omega) (by omega) (by omega) (by omega)]
  have t54 : ∀ i, i < N → μ4 54 i = nI (itr (rF P M p q G f0) i s) := fun i hi => by rw [k4 54 (by omega) (by omega) (by omega), c4 i hi, b3 i hi]
  have k61 : μ4 61 = μ1 61 := by rw [k4 61 (by omega) (by omega) (by omega), c5 61 (by omega) (by omega), b2 61 (by omega)]
  have k115 : μ4 115 = μ3 115 := g7 115 (by omega) (by omega) (by omega)
  have k89 : ∀ j, j ≠ 12 → j ≠ 14 → j ≠ 15 → j ≠ 21 → j ≠ 22 → j ≠ 33 → μ4 89 j = μ 89 j := fun j w1 w2 w3 w4 w5 w6 => by rw [g6 j w1 w2 w3, e2.1.2 j w6, n2 j w4 w5]
  have q33 : μ4 89 33 = 1 := by rw [g6 33 (by decide) (by decide) (by decide)]; exact e3
  have hRI : RI μ4 := by
    unfold RI
    rw [k61, k115, q33, a4]
    refine ⟨Or.inr rfl, rfl, fun _ => ⟨?_, ?_, ?_, ?_⟩⟩
    · rw [a5, e4]
    · rw [a6, e5]
    · rw [a7, e6]
    · rw [a8, e7]
  have h96 : μ4 9 6 = nI N := by rw [k4 9 (by omega) (by omega) (by omega), k2 9 (by omega) (by omega) (by omega) (by omega)]; exact hL.2.1
  refine ⟨μ3, e1, e8, k3m, μ4, g1, hI.fnd (fun c w1 w2 w3 w4 w5 w6 => by rw [k4 c w6 w4 (by omega), k2 c (by omega) (by omega) (by omega) (by omega)]) k89 (BT.mk (N := N) hN ?_ ?_ g3 g4 g5 (fun i hi => by rw [t54 i hi, g2 i hi]) h96 ((PermF.of_inj d1 d2).congr t54)) hRI, k4m⟩
  · rw [k4 53 (by omega) (by omega) (by omega)]; exact c2
  · rw [k4 53 (by omega) (by omega) (by omega)]; exact c3
theorem m_at21 {N : Nat} {x b : Nat → Int32} {μ : Mem} (hN : N ≤ 40) (h5 : ∀ i, i < N → μ 95 i = x i ∧ μ 96 i = b i) : ∀ (d n i : Nat) (ν : Mem), i + d = N → d < n → (∀ c, c ≠ 106 → c ≠ 107 → ν c = μ c) → (∀ j, j < i → ν 106 j = x j ∧ ν 107 j = b j) → ∃ μ' : Mem, fX9_atOnce_21 FF n (nI N) (nI i) ν = wr μ' 106 (nI N) 0 (fun m4 => wr m4 107 (nI N) 0 (fun m5 => cal (fX9_joined FF m5) (fun r7 m6 => rd m6 110 (nI N) (fun v8 => cav (fX9_roundFrom FF v8 m6) (fun m9 => cal (fX9_allBake FF m9) (fun r11 m10 => some ((r11 + r7), m10))))))) ∧ (∀ c, c ≠ 106 → c ≠ 107 → μ' c = μ c) ∧ ∀ j, j < N → μ' 106 j = x j ∧ μ' 107 j = b j := by
  intro d
  induction d with
  | zero =>
    intro n i ν hi hn q1 q2
    obtain ⟨n, rfl⟩ : ∃ n', n = n' + 1 := ⟨n - 1, by omega⟩
    obtain rfl : i = N := by omega
    refine ⟨ν, ?_, q1, q2⟩
    show fX9_atOnce_21_b FF _ _ _ ν = _
    unfold fX9_atOnce_21_b
    rw [if_pos (nI_le (by omega) (by omega))]
  | succ d ih =>
    intro n i ν hi hn q1 q2
    obtain ⟨n, rfl⟩ : ∃ n', n = n' + 1 := ⟨n - 1, by omega⟩
    obtain ⟨m1, f1, a1, b1, g1⟩ := wr_x (μ := ν) (k := 106) (i := i) (x i) (by show i < 41; omega)
    obtain ⟨m2, f2, a2, b2, g2⟩ := wr_x (μ := m1) (k := 107) (i := i) (b i) (by show i < 41; omega)
    have step : fX9_atOnce_21 FF (n + 1) (nI N) (nI i) ν = fX9_atOnce_21 FF n (nI N) (nI (i + 1)) m2 := by
      show fX9_atOnce_21_b FF _ _ _ ν = _
      unfold fX9_atOnce_21_b
      rw [if_neg (nI_ge (by omega) (by omega)), rd_n (by show i < 240; omega), q1 95 (by omega) (by omega), (h5 i (by omega)).1, f1, rd_n (by show i < 240; omega), g1 96 (by omega), q1 96 (by omega) (by omega), (h5 i (by omega)).2, f2, nI_add1]
    rw [step]
    refine ih n (i + 1) m2 (by omega) (by omega) (fun c c1 c2 => by rw [g2 c c2, g1 c c1]; exact q1 c c1 c2) (fun j hj => ?_)
    by_cases e : j = i
    · rw [e, a2, g2 106 (by omega), a1]
      exact ⟨rfl, rfl⟩
    · rw [b2 j e, g2 106 (by omega), b1 j e, g1 107 (by omega)]
      exact q2 j (by omega)
theorem least_rings {N : Nat} {μ : Mem} (hI : Inv wq μ) (hL : RelN wq N (CL μ) (MT μ 0)) : ∃ r μ1 μ2, fX8_leastByRings FF μ = some (r, μ1) ∧ fX9_atOnce FF μ1 = some (r, μ2) ∧ Inv wq μ2 := by
  have h9 : μ 9 6 = nI N := hL.2.1
  have h94 : μ 94 0 = nI N := hL.2.2.1
  have hN := hL.1
  have hld := hL.ld
  -- the points
  obtain ⟨p, hp⟩ : ∃ p : Nat → Nat, p = fun i => if i < N then tn (μ 11 i) else 0 := ⟨_, rfl⟩
  obtain ⟨q, hq⟩ : ∃ q : Nat → Nat, q = fun i => if i < N then tn (μ 10 i) else 0 := ⟨_, rfl⟩
  have pv : ∀ i, i < N → μ 11 i = nI (p i) ∧ p i ≤ 100000 := fun i hi => by
    obtain ⟨-, ⟨y, ly, ey⟩⟩ := hld i hi
    have : p i = y := by rw [hp]; show (if i < N then tn (μ 11 i) else 0) = y; rw [if_pos hi, ey, tn_n (by omega)]
    rw [this]; exact ⟨ey, ly⟩
  have qv : ∀ i, i < N → μ 10 i = nI (q i) ∧ q i ≤ 100000 := fun i hi => by
    obtain ⟨⟨y, ly, ey⟩, -⟩ := hld i hi
    have : q i = y := by rw [hq]; show (if i < N then tn (μ 10 i) else 0) = y; rw [if_pos hi, ey, tn_n (by omega)]
    rw [this]; exact ⟨ey, ly⟩
  have pN : p N = 0 := by rw [hp]; exact if_neg (by omega)
  have qN : q N = 0 := by rw [hq]; exact if_neg (by omega)
  have hT : ∀ i, i < N + 1 → p i ≤ 100000 ∧ q i ≤ 100000 := fun i hi => by
    by_cases c : i < N
    · exact ⟨(pv i c).2, (qv i c).2⟩
    · rw [show i = N by omega, pN, qN]; exact ⟨by omega, by omega⟩
  -- the class's
  obtain ⟨m1, hm1⟩ : ∃ m1, m1 = upM μ 61 (upd (μ 61) 9 (nI (N + 1))) := ⟨_, rfl⟩
  obtain ⟨m2, f2, a2, b2, c2⟩ := cp_x (μ := m1) (a := 10) (b := 62) (n := N) (by show N ≤ 40; omega) (by show N ≤ 41; omega)
  obtain ⟨m3, f3, a3, b3, c3⟩ := cp_x (μ := m2) (a := 11) (b := 63) (n := N) (by show N ≤ 40; omega) (by show N ≤ 41; omega)
  obtain ⟨m4, f4, a4, b4, c4⟩ := wr_x (μ := m3) (k := 62) (i := N) 0 (by show N < 41; omega)
  obtain ⟨m5, f5, a5, b5, c5⟩ := wr_x (μ := m4) (k := 63) (i := N) 0 (by show N < 41; omega)
  have k1 : ∀ c, c ≠ 61 → m1 c = μ c := fun c hc => by rw [hm1, upM_ne hc]
  have k5 : ∀ c, c ≠ 62 → c ≠ 63 → m5 c = m1 c := fun c w1 w2 => by rw [c5 c w2, c4 c w1, c3 c w2, c2 c w1]
  have hc : ∀ c, (c < 61 ∨ 70 < c) → m5 c = μ c := fun c w => by rw [k5 c (by omega) (by omega), k1 c (by omega)]
  have hpq : ∀ i, i < N + 1 → m5 63 i = nI (p i) ∧ m5 62 i = nI (q i) := fun i hi => by
    by_cases e : i = N
    · rw [e, a5, c5 62 (by omega), a4, pN, qN]
      exact ⟨rfl, rfl⟩
    · rw [b5 i e, c4 63 (by omega), a3 i (by omega), c2 11 (by omega), k1 11 (by omega), c5 62 (by omega), b4 i e, c3 62 (by omega), a2 i (by omega), k1 10 (by omega)]
      exact ⟨(pv i (by omega)).1, (qv i (by omega)).1⟩
  have hPR : PR m5 := by
    have h := hI.2.2.2.2.2
    unfold PR at h ⊢
    rw [hc 74 (by omega), hc 75 (by omega), hc 77 (by omega), hc 78 (by omega), hc 101 (by omega), hc 102 (by omega)]
    exact h
  obtain ⟨cost, π, μ1, d1, d2, d3, d4, d5, d6⟩ := rings_both (M := N) (P := N + 1) (T := 100000) (k := 76) (G := G1) (μc := m5) hI hL rfl (by omega) (by omega) hT hc (by rw [k5 61 (by omega) (by omega), hm1, upM_self, upd_s]) hpq (go_wait hPR)
  have sN : π N < N + 1 := d2.1 N (by omega)
  have rr := ring_row d2 (show N < N + 1 by omega) (fun y hy => d3 N y (by omega) hy)
  have sh : ∀ j, itr π (j + 1) N = itr π j (π N) := fun j => itr_add j
  obtain ⟨μa, μ2, e1, e2, e3, e4, e5⟩ := d6 (π N) sN (fun j hj => by
    have a := itr_lt d2 sN j
    have b := rr 0 (j + 1) (by omega) (by omega)
    rw [sh j] at b
    have b : N ≠ itr π j (π N) := b
    omega) (fun i j hij hj => by
    have b := rr (i + 1) (j + 1) (by omega) (by omega)
    rw [sh i, sh j] at b
    exact b)
  -- the reference's
  have h942 : μ2 94 0 = nI N := by rw [e4 94 (by omega) (by omega) (by omega) (by omega)]; exact h94
  obtain ⟨ν0, hν0⟩ : ∃ ν0, ν0 = upM μ2 89 (upd (upd (μ2 89) 21 (nI (N + 1))) 22 0) := ⟨_, rfl⟩
  have n0 : ∀ c, c ≠ 89 → ν0 c = μ2 c := fun c hc' => by rw [hν0, upM_ne hc']
  obtain ⟨ν1, l1, l2, l3⟩ := m_at21 (N := N) (x := fun i => μ 10 i) (b := fun i => μ 11 i) (μ := ν0) hN (fun i hi => by
    rw [n0 95 (by omega), n0 96 (by omega), e4 95 (by omega) (by omega) (by omega) (by omega), e4 96 (by omega) (by omega) (by omega) (by omega)]
    exact ⟨(hL.eqs hi).1.symm, (hL.eqs hi).2.1.symm⟩) N FF 0 ν0 (by omega) (by rw [FF_e]; omega) (fun _ _ _ => rfl) (fun j hj => by omega)
  obtain ⟨ν2, u1, u2, u3, u4⟩ := wr_x (μ := ν1) (k := 106) (i := N) 0 (by show N < 41; omega)
  obtain ⟨ν3, v1, v2, v3, v4⟩ := wr_x (μ := ν2) (k := 107) (i := N) 0 (by show N < 41; omega)
  have n3 : ∀ c, c ≠ 106 → c ≠ 107 → ν3 c = ν0 c := fun c w1 w2 => by rw [v4 c w2, u4 c w1, l2 c w1 w2]
  obtain ⟨μ3, g1, g2, g3, μ4, g4, g5, g6⟩ := e5 ν3 (fun c w1 w2 w3 => by rw [n3 c w2 w3, n0 c w1]) (fun j j1 j2 => by rw [n3 89 (by omega) (by omega), hν0, upM_self, upd_ne j2, upd_ne j1, e4 89 (by omega) (by omega) (by omega) (by omega)]) (by rw [n3 89 (by omega) (by omega), hν0, upM_self, upd_ne (by decide), upd_s]) (fun i hi => by
    by_cases e : i = N
    · rw [e, v2, v4 106 (by omega), u2, pN, qN]
      exact ⟨rfl, rfl⟩
    · rw [v3 i e, u4 107 (by omega), (l3 i (by omega)).2, v4 106 (by omega), u3 i e, (l3 i (by omega)).1]
      exact ⟨(pv i (by omega)).1, (qv i (by omega)).1⟩) (gm_wait (by rw [n3 89 (by omega) (by omega), hν0, upM_self, upd_s]))
  have eb : sumF (μ2 11) N = sumF (μ4 96) N := sumF_congr (fun i hi => by
    rw [e4 11 (by omega) (by omega) (by omega) (by omega), g6 96 (by omega) (by omega)]
    exact (hL.eqs hi).2.1)
  refine ⟨sumF (μ2 11) N + cost, μ2, μ4, ?_, ?_, g5⟩
  · unfold fX8_leastByRings
    rw [h9, nI_add1, st_n, ← hm1, f2, f3, f4, f5, d1, cal_n, rd_n (by show N < 41; omega), d4 N (by omega), e1, cav_n, e3, cav_n, c_sum (N := N) (by rw [e4 9 (by omega) (by omega) (by omega) (by omega)]; exact h9) (by show N ≤ 40; omega), cal_n]
  · unfold fX9_atOnce
    have z : fX9_atOnce_21 FF FF (nI N) (nI 0) ν0 = some (sumF (μ2 11) N + cost, μ4) := by
      rw [l1, u1, v1, g1, cal_n, rd_n (by show N < 41; omega), g2 N (by omega), g4, cav_n, m_bake (N := N) (by rw [g6 94 (by omega) (by omega)]; exact h94) hN, cal_n, eb]
    rw [show (0 : Int32) = nI 0 from rfl, rd_n (by decide), h942, st_n, st_n, upM_upM, upM_self, nI_add1]
    rw [hν0] at z
    exact z
theorem op_least (a b : Int32) : Op wq (fX8_least FF a b) (fX9_least FF a b) := by
  intro μ hI
  unfold fX8_least fX9_least
  rcases law_or a b with ⟨l, m, hl, hm, h2, h3, rfl, rfl, w1, w2⟩ | ⟨w1, w2⟩
  · obtain ⟨N, hL⟩ := hI.2.1
    have h9 : μ 9 6 = nI N := hL.2.1
    have h94 : μ 94 0 = nI N := hL.2.2.1
    have hN := hL.1
    have l3 : l = 0 ∨ l = 1 ∨ l = 2 := by omega
    rcases l3 with rfl | rfl | rfl
    · obtain ⟨r, μ1, μ2, z1, z2, z3⟩ := least_rings hI hL
      refine ⟨r, μ1, μ2, ?_, ?_, z3⟩
      · unfold fX8_least_31
        rw [w1, cal_n, if_neg one_ne, if_neg (show ¬ nI 0 = (2 : Int32) by decide), if_pos (show nI 0 = (0 : Int32) from rfl), z1, cal_n]
      · rw [w2, cal_n, if_neg one_ne, if_pos (show nI 0 = (0 : Int32) from rfl), z2, cal_n]
    · obtain ⟨r, μ1, μ2, z1, z2, z3⟩ := least_shelf hI hL
      have m0 := h3 (by omega)
      subst m0
      refine ⟨r, μ1, μ2, ?_, ?_, z3⟩
      · rw [w1, cal_n, if_neg one_ne, if_neg (show ¬ nI 1 = (2 : Int32) by decide)]
        exact z1
      · rw [w2, cal_n, if_neg one_ne, if_neg (show ¬ nI 1 = (0 : Int32) by decide), if_pos (show nI 1 = (1 : Int32) from rfl)]
        exact z2
    · by_cases h7 : N ≤ 7
      · obtain ⟨r, μ1, μ2, z1, z2, z3⟩ := least_places hI hL h7 hm (h2 rfl)
        have e94 : μ1 94 0 = nI N := by
          by_cases q : μ1 94 0 = nI N
          · exact q
          · exfalso
            obtain ⟨μs, f1, f2, f3, f4⟩ := follow_n (l := 2) (m := m) (μ := μ)
            obtain ⟨μa, a1, a2, a3⟩ := c_all (l := 2) (m := m) (y1 := 0) (μs := μs) hL h7 (by omega) hm (fun _ => h2 rfl) f2 f3 f4
            obtain ⟨μ1', b1, b2, b3, b4, b5⟩ := c_become0 (N := N) (μ := μa) (by omega)
            have : fX8_least_31 FF (nI 2) (nI m) μ = some ((sca N (eN 2 m μ N) (Sk 0 μ N) (μ 79)).1, μ1') := by
              unfold fX8_least_31 fX8_least_91
              rw [if_neg two_ne, f1, cav_n, if_neg (show ¬ nI 2 = 1 by decide), a1, cal_n, show μa 9 6 = nI N from by rw [a3 9 (by omega) (by omega) (by omega) (by omega)]; exact h9, b1, cav_n]
            rw [z1] at this
            injection this with this
            injection this with t1 t2
            rw [t2, b5 94 (by omega) (by omega), a3 94 (by omega) (by omega) (by omega) (by omega)] at q
            exact q h94
        refine ⟨r, μ1, μ2, ?_, ?_, z3⟩
        · rw [w1, cal_n, if_neg one_ne, if_pos (show nI 2 = (2 : Int32) from rfl), h9, if_pos (show nI N ≤ (7 : Int32) from nI_le (b := 7) h7 (by omega))]
          exact z1
        · rw [w2, cal_n, if_neg one_ne, if_neg two_ne, if_neg (show ¬ nI 2 = (1 : Int32) by decide), show (0 : Int32) = nI 0 from rfl, rd_n (by decide), e94, if_pos (show nI N ≤ (7 : Int32) from nI_le (b := 7) h7 (by omega))]
          exact z2
      · refine ⟨-4, μ, μ, ?_, ?_, hI⟩
        · rw [w1, cal_n, if_neg one_ne, if_pos (show nI 2 = (2 : Int32) from rfl), h9, if_neg (show ¬ nI N ≤ (7 : Int32) from nI_ge (a := 7) (by omega) (by omega))]
        · rw [w2, cal_n, if_neg one_ne, if_neg two_ne, if_neg (show ¬ nI 2 = (1 : Int32) by decide), show (0 : Int32) = nI 0 from rfl, rd_n (by decide), h94, if_neg (show ¬ nI N ≤ (7 : Int32) from nI_ge (a := 7) (by omega) (by omega))]
  · exact ⟨-2, μ, μ, by rw [w1, cal_n, if_pos rfl], by rw [w2, cal_n, if_pos rfl], hI⟩
end
section
/-! the round of heats -/
variable {wq : Prop}
theorem lossy_or {μ ν : Mem} (h : PR μ) (e1 : ν 101 = μ 101) (e2 : ν 102 = μ 102) (y : Int32) : (fX4_hasLossyStretch FF μ = some (0, μ) ∧ fX9_round_19 FF FF y 1 0 ν = st ν 89 21 y (fun m2 => st m2 89 22 1 (fun m3 => fX9_round_76 FF FF y 0 m3))) ∨ (fX4_hasLossyStretch FF μ = some (1, μ) ∧ fX9_round_19 FF FF y 1 0 ν = some (-5, ν)) := by
  have m0 : ∀ (d n i : Nat), i + d = 8 → d < n → fX9_round_19 FF n y 0 (nI i) ν = some (-5, ν) := by
    intro d
    induction d with
    | zero =>
      intro n i hi hn
      obtain ⟨n, rfl⟩ : ∃ n', n = n' + 1 := ⟨n - 1, by omega⟩
      show fX9_round_19_b FF _ _ _ _ ν = _
      unfold fX9_round_19_b
      rw [if_pos (show (8 : Int32) ≤ nI i from nI_le (a := 8) (by omega) (by omega)), if_pos rfl]
    | succ d ih =>
      intro n i hi hn
      obtain ⟨n, rfl⟩ : ∃ n', n = n' + 1 := ⟨n - 1, by omega⟩
      show fX9_round_19_b FF _ _ _ _ ν = _
      unfold fX9_round_19_b
      rw [if_neg (show ¬ (8 : Int32) ≤ nI i from nI_ge (b := 8) (by omega) (by omega)), if_pos rfl, nI_add1]
      exact ih n (i + 1) (by omega) (by omega)
  have loop : ∀ (d n k i : Nat), i + d = 8 → d < n → d < k → (fX4_hasLossyStretch_2 FF k (nI i) μ = some (0, μ) ∧ fX9_round_19 FF n y 1 (nI i) ν = st ν 89 21 y (fun m2 => st m2 89 22 1 (fun m3 => fX9_round_76 FF FF y 0 m3))) ∨ (fX4_hasLossyStretch_2 FF k (nI i) μ = some (1, μ) ∧ fX9_round_19 FF n y 1 (nI i) ν = some (-5, ν)) := by
    intro d
    induction d with
    | zero =>
      intro n k i hi hn hk
      obtain ⟨n, rfl⟩ : ∃ n', n = n' + 1 := ⟨n - 1, by omega⟩
      obtain ⟨k, rfl⟩ : ∃ k', k = k' + 1 := ⟨k - 1, by omega⟩
      refine Or.inl ⟨?_, ?_⟩
      · show fX4_hasLossyStretch_2_b FF _ _ μ = _
        unfold fX4_hasLossyStretch_2_b
        rw [if_pos (show (8 : Int32) ≤ nI i from nI_le (a := 8) (by omega) (by omega)), zr_0]
      · show fX9_round_19_b FF _ _ _ _ ν = _
        unfold fX9_round_19_b
        rw [if_pos (show (8 : Int32) ≤ nI i from nI_le (a := 8) (by omega) (by omega)), if_neg one_ne]
    | succ d ih =>
      intro n k i hi hn hk
      obtain ⟨n, rfl⟩ : ∃ n', n = n' + 1 := ⟨n - 1, by omega⟩
      obtain ⟨k, rfl⟩ : ∃ k', k = k' + 1 := ⟨k - 1, by omega⟩
      have i8 : i < 8 := by omega
      obtain ⟨p1, p2, -⟩ := h i i8
      have hc : fX4_hasLossyStretch_2 FF (k + 1) (nI i) μ = if 0 ≤ μ 74 i + μ 75 i then fX4_hasLossyStretch_2 FF k (nI (i + 1)) μ else some (1, μ) := by
        show fX4_hasLossyStretch_2_b FF _ _ μ = _
        unfold fX4_hasLossyStretch_2_b
        rw [if_neg (show ¬ (8 : Int32) ≤ nI i from nI_ge (b := 8) (by omega) (by omega)), rd_n (by exact i8), rd_n (by exact i8), nI_add1, zr_1]
      have hm : fX9_round_19 FF (n + 1) y 1 (nI i) ν = if μ 74 i + μ 75 i < 0 then fX9_round_19 FF n y 0 (nI (i + 1)) ν else fX9_round_19 FF n y 1 (nI (i + 1)) ν := by
        show fX9_round_19_b FF _ _ _ _ ν = _
        unfold fX9_round_19_b
        rw [if_neg (show ¬ (8 : Int32) ≤ nI i from nI_ge (b := 8) (by omega) (by omega)), if_neg one_ne, rd_n (by exact i8), rd_n (by exact i8), e1, e2, ← p1, ← p2, nI_add1]
      rw [hc, hm]
      by_cases c : 0 ≤ μ 74 i + μ 75 i
      · have c2 : ¬ μ 74 i + μ 75 i < 0 := fun q => by
          rw [Int32.lt_iff_toInt_lt] at q
          rw [Int32.le_iff_toInt_le] at c
          omega
        rw [if_pos c, if_neg c2]
        exact ih n k (i + 1) (by omega) (by omega) (by omega)
      · have c2 : μ 74 i + μ 75 i < 0 := by
          rw [Int32.lt_iff_toInt_lt]
          rw [Int32.le_iff_toInt_le] at c
          omega
        rw [if_neg c, if_pos c2]
        exact Or.inr ⟨rfl, m0 d n (i + 1) (by omega) (by omega)⟩
  exact loop 8 FF FF 0 (by omega) (by rw [FF_e]; omega) (by rw [FF_e]; omega)
theorem m_r76 {N : Nat} {x b : Nat → Int32} {μ : Mem} (hN : N ≤ 40) (h5 : ∀ i, i < N → μ 97 i = x i ∧ μ 98 i = b i) : ∀ (d n i : Nat) (ν : Mem), i + d = N → d < n → (∀ c, c ≠ 106 → c ≠ 107 → ν c = μ c) → (∀ j, j < i → ν 106 j = x j ∧ ν 107 j = b j) → ∃ μ' : Mem, fX9_round_76 FF n (nI N) (nI i) ν = cal (fX9_joined FF μ') (fun r7 m6 => cav (fX9_roundFrom FF 0 m6) (fun m8 => some (r7, m8))) ∧ (∀ c, c ≠ 106 → c ≠ 107 → μ' c = μ c) ∧ ∀ j, j < N → μ' 106 j = x j ∧ μ' 107 j = b j := by
  intro d
  induction d with
  | zero =>
    intro n i ν hi hn q1 q2
    obtain ⟨n, rfl⟩ : ∃ n', n = n' + 1 := ⟨n - 1, by omega⟩
    obtain rfl : i = N := by omega
    refine ⟨ν, ?_, q1, q2⟩
    show fX9_round_76_b FF _ _ _ ν = _
    unfold fX9_round_76_b
    rw [if_pos (nI_le (by omega) (by omega))]
  | succ d ih =>
    intro n i ν hi hn q1 q2
    obtain ⟨n, rfl⟩ : ∃ n', n = n' + 1 := ⟨n - 1, by omega⟩
    obtain ⟨m1, f1, a1, b1, g1⟩ := wr_x (μ := ν) (k := 106) (i := i) (x i) (by show i < 41; omega)
    obtain ⟨m2, f2, a2, b2, g2⟩ := wr_x (μ := m1) (k := 107) (i := i) (b i) (by show i < 41; omega)
    have step : fX9_round_76 FF (n + 1) (nI N) (nI i) ν = fX9_round_76 FF n (nI N) (nI (i + 1)) m2 := by
      show fX9_round_76_b FF _ _ _ ν = _
      unfold fX9_round_76_b
      rw [if_neg (nI_ge (by omega) (by omega)), rd_n (by show i < 240; omega), q1 97 (by omega) (by omega), (h5 i (by omega)).1, f1, rd_n (by show i < 240; omega), g1 98 (by omega), q1 98 (by omega) (by omega), (h5 i (by omega)).2, f2, nI_add1]
    rw [step]
    refine ih n (i + 1) m2 (by omega) (by omega) (fun c c1 c2 => by rw [g2 c c2, g1 c c1]; exact q1 c c1 c2) (fun j hj => ?_)
    by_cases e : j = i
    · rw [e, a2, g2 106 (by omega), a1]
      exact ⟨rfl, rfl⟩
    · rw [b2 j e, g2 106 (by omega), b1 j e, g1 107 (by omega)]
      exact q2 j (by omega)
theorem op_round : Op wq (fX8_round FF) (fX9_round FF) := by
  intro μ hI
  obtain ⟨N, hL⟩ := hI.2.1
  have h9 : μ 9 6 = nI N := hL.2.1
  have h94 : μ 94 0 = nI N := hL.2.2.1
  have hN := hL.1
  have hPR := hI.2.2.2.2.2
  unfold fX8_round fX9_round
  by_cases h0 : N = 0
  · subst h0
    refine ⟨-5, μ, μ, by rw [h9, if_pos (show nI 0 = 0 from rfl)], ?_, hI⟩
    rw [show (0 : Int32) = nI 0 from rfl, rd_n (by decide), h94, if_pos (show nI 0 ≤ nI 0 by decide)]
    have m0 : ∀ (d n i : Nat), i + d = 8 → d < n → fX9_round_19 FF n (nI 0) 0 (nI i) μ = some (-5, μ) := by
      intro d
      induction d with
      | zero =>
        intro n i hi hn
        obtain ⟨n, rfl⟩ : ∃ n', n = n' + 1 := ⟨n - 1, by omega⟩
        show fX9_round_19_b FF _ _ _ _ μ = _
        unfold fX9_round_19_b
        rw [if_pos (show (8 : Int32) ≤ nI i from nI_le (a := 8) (by omega) (by omega)), if_pos rfl]
      | succ d ih =>
        intro n i hi hn
        obtain ⟨n, rfl⟩ : ∃ n', n = n' + 1 := ⟨n - 1, by omega⟩
        show fX9_round_19_b FF _ _ _ _ μ = _
        unfold fX9_round_19_b
        rw [if_neg (show ¬ (8 : Int32) ≤ nI i from nI_ge (b := 8) (by omega) (by omega)), if_pos rfl, nI_add1]
        exact ih n (i + 1) (by omega) (by omega)
    exact m0 8 FF 0 (by omega) (by rw [FF_e]; omega)
  have n0 : ¬ nI N = 0 := fun q => h0 (nI_inj (b := 0) (by omega) (by omega) q)
  have nl : ¬ nI N ≤ nI 0 := nI_ge (by omega) (by omega)
  rcases (lossy_or (ν := μ) hPR rfl rfl (nI N)).symm with ⟨z1, z2⟩ | ⟨z1, -⟩
  · refine ⟨-5, μ, μ, ?_, ?_, hI⟩
    · rw [h9, if_neg n0, z1, cal_n, if_neg one_ne]
    · rw [show (0 : Int32) = nI 0 from rfl, rd_n (by decide), h94, if_neg nl]
      exact z2
  -- the points
  have dg := hL.dg
  obtain ⟨p, hp⟩ : ∃ p : Nat → Nat, p = fun i => tn (μ 13 i) := ⟨_, rfl⟩
  obtain ⟨q, hq⟩ : ∃ q : Nat → Nat, q = fun i => tn (μ 12 i) := ⟨_, rfl⟩
  have pv : ∀ i, i < N → μ 13 i = nI (p i) ∧ p i ≤ 399 := fun i hi => by
    rw [hp]
    exact ⟨(dg i hi).2.2, (dg i hi).2.1⟩
  have qv : ∀ i, i < N → μ 12 i = nI (q i) ∧ q i ≤ 399 := fun i hi => by
    rw [hq]
    exact ⟨(dg i hi).1.2, (dg i hi).1.1⟩
  -- the class's
  obtain ⟨m1, hm1⟩ : ∃ m1, m1 = upM μ 61 (upd (μ 61) 9 (nI N)) := ⟨_, rfl⟩
  obtain ⟨m2, f2, a2, b2, c2⟩ := cp_x (μ := m1) (a := 12) (b := 62) (n := N) (by show N ≤ 40; omega) (by show N ≤ 41; omega)
  obtain ⟨m3, f3, a3, b3, c3⟩ := cp_x (μ := m2) (a := 13) (b := 63) (n := N) (by show N ≤ 40; omega) (by show N ≤ 41; omega)
  have k1 : ∀ c, c ≠ 61 → m1 c = μ c := fun c hc => by rw [hm1, upM_ne hc]
  have k3 : ∀ c, c ≠ 62 → c ≠ 63 → m3 c = m1 c := fun c w1 w2 => by rw [c3 c w2, c2 c w1]
  have hc : ∀ c, (c < 61 ∨ 70 < c) → m3 c = μ c := fun c w => by rw [k3 c (by omega) (by omega), k1 c (by omega)]
  have hpq : ∀ i, i < N → m3 63 i = nI (p i) ∧ m3 62 i = nI (q i) := fun i hi => by
    rw [a3 i hi, c2 13 (by omega), k1 13 (by omega), c3 62 (by omega), a2 i hi, k1 12 (by omega)]
    exact ⟨(pv i hi).1, (qv i hi).1⟩
  obtain ⟨M, hM⟩ : ∃ M, M + 1 = N := ⟨N - 1, by omega⟩
  obtain ⟨cost, π, μ1, d1, d2, d3, d4, d5, d6⟩ := rings_both (M := M) (P := N) (T := 399) (k := 73) (G := goC (m3 74) (m3 75)) (μc := m3) hI hL hM (by omega) (by omega) (fun i hi => ⟨(pv i hi).2, (qv i hi).2⟩) hc (by rw [k3 61 (by omega) (by omega), hm1, upM_self, upd_s]) hpq go_heat
  have rr := ring_row d2 (show 0 < N by omega) (fun y hy => d3 0 y (by omega) hy)
  obtain ⟨μa, μ2, e1, e2, e3, e4, e5⟩ := d6 0 (by omega) (fun j hj => itr_lt d2 (by omega) j) rr
  -- the reference's
  have h942 : μ2 94 0 = nI N := by rw [e4 94 (by omega) (by omega) (by omega) (by omega)]; exact h94
  have m2k : ∀ c, 89 ≤ c → μ2 c = μ c := fun c w => e4 c (by omega) (by omega) (by omega) (by omega)
  obtain ⟨ν0, hν0⟩ : ∃ ν0, ν0 = upM μ2 89 (upd (upd (μ2 89) 21 (nI N)) 22 1) := ⟨_, rfl⟩
  have v0 : ∀ c, c ≠ 89 → ν0 c = μ2 c := fun c hc' => by rw [hν0, upM_ne hc']
  obtain ⟨ν1, l1, l2, l3⟩ := m_r76 (N := N) (x := fun i => μ 12 i) (b := fun i => μ 13 i) (μ := ν0) hN (fun i hi => by
    rw [v0 97 (by omega), v0 98 (by omega), m2k 97 (by omega), m2k 98 (by omega)]
    exact ⟨(hL.eqs hi).2.2.1.symm, (hL.eqs hi).2.2.2.1.symm⟩) N FF 0 ν0 (by omega) (by rw [FF_e]; omega) (fun _ _ _ => rfl) (fun j hj => by omega)
  obtain ⟨μ3, g1, g2, g3, μ4, g4, g5, g6⟩ := e5 ν1 (fun c w1 w2 w3 => by rw [l2 c w2 w3, v0 c w1]) (fun j j1 j2 => by rw [l2 89 (by omega) (by omega), hν0, upM_self, upd_ne j2, upd_ne j1, m2k 89 (by omega)]) (by rw [l2 89 (by omega) (by omega), hν0, upM_self, upd_ne (by decide), upd_s]) (fun i hi => by
    rw [(l3 i hi).1, (l3 i hi).2]
    exact ⟨(pv i hi).1, (qv i hi).1⟩) (gm_heat (fun i hi => by
    rw [hc 74 (by omega), hc 75 (by omega), l2 101 (by omega) (by omega), l2 102 (by omega) (by omega), v0 101 (by omega), v0 102 (by omega), m2k 101 (by omega), m2k 102 (by omega)]
    exact ⟨(hPR i hi).1, (hPR i hi).2.1⟩) (by rw [l2 89 (by omega) (by omega), hν0, upM_self, upd_s]; exact one_ne))
  have z2 : fX9_round_19 FF FF (nI N) 1 0 μ2 = st μ2 89 21 (nI N) (fun m2 => st m2 89 22 1 (fun m3 => fX9_round_76 FF FF (nI N) 0 m3)) := by
    rcases lossy_or (ν := μ2) hPR (m2k 101 (by omega)) (m2k 102 (by omega)) (nI N) with ⟨_, w⟩ | ⟨w, _⟩
    · exact w
    · rw [z1] at w
      injection w with w
      injection w with w _
      exact absurd w.symm one_ne
  refine ⟨cost, μ2, μ4, ?_, ?_, g5⟩
  · have z3 : m1 9 6 = nI N := by rw [k1 9 (by omega)]; exact h9
    have z4 : m2 9 6 = nI N := by rw [c2 9 (by omega)]; exact z3
    have z5 : μ1 9 6 = nI N := by rw [d5 9 (by omega)]; exact h9
    have z6 : μa 9 6 = nI N := by rw [e2 9 (by omega) (by omega)]; exact h9
    rw [h9, if_neg n0, z1, cal_n, if_pos rfl, h9, st_n, ← hm1, z3, f2, z4, f3, d1, cal_n, z5, show (0 : Int32) = nI 0 from rfl, e1, cav_n, z6, e3, cav_n]
  · rw [show (0 : Int32) = nI 0 from rfl, rd_n (by decide), h942, if_neg nl]
    refine z2.trans ?_
    rw [st_n, st_n, upM_upM, upM_self, ← hν0]
    refine l1.trans ?_
    rw [g1, cal_n, show (0 : Int32) = nI 0 from rfl, g4, cav_n]
end
section
/-! better: a pass, on both sides -/
variable {wq : Prop}
def pas (E : (Nat → Int32) → Int32) : Nat → Nat → (Nat → Int32) → Int32 → Nat → (Nat → Int32) × Int32 × Nat
  | 0, _, r, e, c => (r, e, c)
  | d + 1, p, r, e, c => if e ≤ E (swp r p (p + 1)) then pas E d (p + 1) r e c else pas E d (p + 1) (swp r p (p + 1)) (E (swp r p (p + 1))) (c + 1)
theorem pas_le {E : (Nat → Int32) → Int32} {d p c : Nat} {r : Nat → Int32} {e : Int32} (h : e ≤ E (swp r p (p + 1))) : pas E (d + 1) p r e c = pas E d (p + 1) r e c := if_pos h
theorem pas_gt {E : (Nat → Int32) → Int32} {d p c : Nat} {r : Nat → Int32} {e : Int32} (h : ¬ e ≤ E (swp r p (p + 1))) : pas E (d + 1) p r e c = pas E d (p + 1) (swp r p (p + 1)) (E (swp r p (p + 1))) (c + 1) := if_neg h
theorem swp_swp {f : Nat → Int32} {i j : Nat} : swp (swp f i j) i j = f := by
  funext k
  rw [swp_e, swp_e]
  congr 1
  by_cases h1 : k = j
  · subst h1
    rw [if_pos rfl]
    by_cases h2 : i = k
    · rw [if_pos h2, h2]
    · rw [if_neg h2, if_pos rfl]
  · rw [if_neg h1]
    by_cases h2 : k = i
    · rw [if_pos h2, if_pos rfl, h2]
    · rw [if_neg h2, if_neg h1, if_neg h2]
theorem pas_congr {E : (Nat → Int32) → Int32} {N : Nat} (hE : ∀ r s, (∀ p, p < N → r p = s p) → E r = E s) : ∀ (d p : Nat) (r s : Nat → Int32) (e : Int32) (c : Nat), p + d + 1 ≤ N → (∀ p, p < N → r p = s p) → (∀ q, q < N → (pas E d p r e c).1 q = (pas E d p s e c).1 q) ∧ (pas E d p r e c).2 = (pas E d p s e c).2
  | 0, _, _, _, _, _, _, h => ⟨h, rfl⟩
  | d + 1, p, r, s, e, c, hd, h => by
    have h2 := swp_congr (i := p) (j := p + 1) h (by omega) (by omega)
    by_cases q : e ≤ E (swp r p (p + 1))
    · rw [pas_le q, pas_le (by rw [← hE _ _ h2]; exact q)]
      exact pas_congr hE d (p + 1) r s e c (by omega) h
    · rw [pas_gt q, pas_gt (by rw [← hE _ _ h2]; exact q), ← hE _ _ h2]
      exact pas_congr hE d (p + 1) _ _ _ (c + 1) (by omega) h2
/-- what holds of a row's END all along -/
theorem pas_inv {E : (Nat → Int32) → Int32} {N : Nat} : ∀ (d p : Nat) (r : Nat → Int32) (e : Int32) (c : Nat), p + d + 1 ≤ N → PermF r N → e = E r → PermF (pas E d p r e c).1 N ∧ (pas E d p r e c).2.1 = E (pas E d p r e c).1 ∧ (pas E d p r e c).2.1.toInt + (pas E d p r e c).2.2 ≤ e.toInt + c ∧ c ≤ (pas E d p r e c).2.2 ∧ ((pas E d p r e c).2.2 = c → (pas E d p r e c).1 = r) ∧ (pas E d p r e c).2.2 ≤ c + d
  | 0, _, _, _, _, _, hP, he => ⟨hP, he, Int.le_refl _, Nat.le_refl _, fun _ => rfl, Nat.le_refl _⟩
  | d + 1, p, r, e, c, hd, hP, he => by
    by_cases q : e ≤ E (swp r p (p + 1))
    · rw [pas_le q]
      obtain ⟨a1, a2, a3, a4, a5, a6⟩ := pas_inv d (p + 1) r e c (by omega) hP he
      exact ⟨a1, a2, a3, a4, a5, by omega⟩
    · rw [pas_gt q]
      obtain ⟨a1, a2, a3, a4, a5, a6⟩ := pas_inv d (p + 1) (swp r p (p + 1)) (E (swp r p (p + 1))) (c + 1) (by omega) (hP.swp (by omega) (by omega)) rfl
      rw [Int32.le_iff_toInt_le] at q
      refine ⟨a1, a2, ?_, by omega, fun h => by omega, by omega⟩
      omega
def psR (E : (Nat → Int32) → Int32) (N : Nat) (r : Nat → Int32) : (Nat → Int32) × Int32 × Nat := pas E (N - 1) 0 r (E r) 0
def itP (E : (Nat → Int32) → Int32) (N : Nat) : Nat → (Nat → Int32) → Nat → Int32
  | 0, r => r
  | k + 1, r => itP E N k (psR E N r).1
def toP (E : (Nat → Int32) → Int32) (N : Nat) : Nat → (Nat → Int32) → Nat
  | 0, _ => 0
  | k + 1, r => (psR E N r).2.2 + toP E N k (psR E N r).1
/-- k passes that exchange, and one that doesn't -/
def StpP (E : (Nat → Int32) → Int32) (N : Nat) : Nat → (Nat → Int32) → Prop
  | 0, r => (psR E N r).2.2 = 0
  | k + 1, r => (psR E N r).2.2 ≠ 0 ∧ StpP E N k (psR E N r).1
/-- k passes that exchange -/
def RunP (E : (Nat → Int32) → Int32) (N : Nat) : Nat → (Nat → Int32) → Prop
  | 0, _ => True
  | k + 1, r => (psR E N r).2.2 ≠ 0 ∧ RunP E N k (psR E N r).1
theorem StpP.run {E : (Nat → Int32) → Int32} {N : Nat} : ∀ {k : Nat} {r : Nat → Int32}, StpP E N k r → RunP E N k r
  | 0, _, _ => trivial
  | _ + 1, _, h => ⟨h.1, h.2.run⟩
theorem psR_congr {E : (Nat → Int32) → Int32} {N : Nat} (h1 : 1 ≤ N) (hE : ∀ r s, (∀ p, p < N → r p = s p) → E r = E s) {r s : Nat → Int32} (h : ∀ p, p < N → r p = s p) : (∀ q, q < N → (psR E N r).1 q = (psR E N s).1 q) ∧ (psR E N r).2 = (psR E N s).2 := by
  unfold psR
  rw [← hE r s h]
  exact pas_congr hE (N - 1) 0 r s (E r) 0 (by omega) h
theorem itP_congr {E : (Nat → Int32) → Int32} {N : Nat} (h1 : 1 ≤ N) (hE : ∀ r s, (∀ p, p < N → r p = s p) → E r = E s) : ∀ (k : Nat) (r s : Nat → Int32), (∀ p, p < N → r p = s p) → (∀ q, q < N → itP E N k r q = itP E N k s q) ∧ toP E N k r = toP E N k s ∧ (StpP E N k r ↔ StpP E N k s)
  | 0, r, s, h => ⟨h, rfl, by
      show (psR E N r).2.2 = 0 ↔ (psR E N s).2.2 = 0
      rw [(psR_congr h1 hE h).2]⟩
  | k + 1, r, s, h => by
    obtain ⟨a, b⟩ := psR_congr h1 hE h
    obtain ⟨c1, c2, c3⟩ := itP_congr h1 hE k _ _ a
    refine ⟨c1, ?_, ?_⟩
    · show (psR E N r).2.2 + toP E N k (psR E N r).1 = (psR E N s).2.2 + toP E N k (psR E N s).1
      rw [c2, b]
    · show ((psR E N r).2.2 ≠ 0 ∧ StpP E N k (psR E N r).1) ↔ ((psR E N s).2.2 ≠ 0 ∧ StpP E N k (psR E N s).1)
      rw [c3, b]
/-- it stops -/
theorem StpP_ex {E : (Nat → Int32) → Int32} {N : Nat} (h1 : 1 ≤ N) (hb : ∀ r, PermF r N → 0 ≤ (E r).toInt) : ∀ (n : Nat) (r : Nat → Int32), PermF r N → (E r).toInt < n → ∃ k, k < n ∧ StpP E N k r
  | 0, r, hP, h => by
    have := hb r hP
    omega
  | n + 1, r, hP, h => by
    by_cases c : (psR E N r).2.2 = 0
    · exact ⟨0, by omega, c⟩
    · obtain ⟨a1, a2, a3, -⟩ := pas_inv (E := E) (N := N) (N - 1) 0 r (E r) 0 (by omega) hP rfl
      have a3' : (psR E N r).2.1.toInt + (psR E N r).2.2 ≤ (E r).toInt + (0 : Nat) := a3
      have a2' : (psR E N r).2.1 = E (psR E N r).1 := a2
      rw [a2'] at a3'
      obtain ⟨k, hk, hs⟩ := StpP_ex h1 hb n (psR E N r).1 a1 (by omega)
      exact ⟨k + 1, by omega, c, hs⟩
theorem c_row14 {N l m i : Nat} {μ0 μ : Mem} {r : Nat → Int32} (hL : RelN wq N (CL μ0) (MT μ0 0)) (hl : l ≤ 2) (hm : m ≤ 5) (h2 : l = 2 → 1 ≤ m) (h5 : μ0 55 5 = nI l) (h6 : μ0 55 6 = nI m) (hP : PermF r N) (hi : i ≤ N) (hk : ∀ k, k ≠ 14 → (k < 56 ∨ 60 < k) → μ k = μ0 k) (h14 : μ 14 = r) (hK : KN l m (fun p => μ0 10 (tn (r p))) (fun p => μ0 11 (tn (r p))) i μ) : ∃ μ', fX1_endOf FF 14 (nI i) μ = some (eN l m μ0 N r, μ') ∧ (∀ k, k < 56 ∨ 60 < k → μ' k = μ k) ∧ KN l m (fun p => μ0 10 (tn (r p))) (fun p => μ0 11 (tn (r p))) N μ' := by
  have hN := hL.1
  obtain ⟨p1, p2⟩ := hP.inj hN
  refine c_end_loop hN (show N ≤ ln 14 from hN) (by omega) hl hm h2 (N - i) FF i μ (by omega) (by rw [FF_e]; omega) ⟨by rw [hk 9 (by omega) (by omega)]; exact hL.2.1, fun p hp => ⟨tn (r p), ?_, ?_, ?_, ?_⟩⟩ ?_ ?_ hK
  · have := p1.1 p hp
    have this : tn (r p) < N := this
    omega
  · rw [h14]; exact p2 p hp
  · rw [hk 10 (by omega) (by omega)]
  · rw [hk 11 (by omega) (by omega)]
  · rw [hk 55 (by omega) (by omega)]; exact h5
  · rw [hk 55 (by omega) (by omega)]; exact h6
theorem c_pass {N l m : Nat} {μ0 : Mem} (hL : RelN wq N (CL μ0) (MT μ0 0)) (h1 : 1 ≤ N) (hl : l ≤ 2) (hm : m ≤ 5) (h2 : l = 2 → 1 ≤ m) (h5 : μ0 55 5 = nI l) (h6 : μ0 55 6 = nI m) : ∀ (d n p c : Nat) (r : Nat → Int32) (e : Int32) (μ : Mem), p + d + 1 = N → d < n → PermF r N → (∀ k, k ≠ 14 → (k < 56 ∨ 60 < k) → μ k = μ0 k) → μ 14 = r → KN l m (fun p => μ0 10 (tn (r p))) (fun p => μ0 11 (tn (r p))) (p - 1) μ →
    ∃ μ', fX8_passOfNeighbours_24 FF n (nI c) e (nI p) μ = some (nI (pas (eN l m μ0 N) d p r e c).2.2, μ') ∧ (∀ k, k ≠ 14 → (k < 56 ∨ 60 < k) → μ' k = μ0 k) ∧ μ' 14 = (pas (eN l m μ0 N) d p r e c).1 := by
  have hN := hL.1
  intro d
  induction d with
  | zero =>
    intro n p c r e μ hp hn hP hk h14 hK
    obtain ⟨n, rfl⟩ : ∃ n', n = n' + 1 := ⟨n - 1, by omega⟩
    refine ⟨μ, ?_, hk, h14⟩
    show fX8_passOfNeighbours_24_b FF _ _ _ _ μ = _
    unfold fX8_passOfNeighbours_24_b
    rw [hk 9 (by omega) (by omega), show μ0 9 6 = nI N from hL.2.1, nI_add1, if_pos (nI_le (by omega) (by omega))]
    rfl
  | succ d ih =>
    intro n p c r e μ hp hn hP hk h14 hK
    obtain ⟨n, rfl⟩ : ∃ n', n = n' + 1 := ⟨n - 1, by omega⟩
    have hP' : PermF (swp r p (p + 1)) N := hP.swp (by omega) (by omega)
    have low : ∀ q, q < p → swp r p (p + 1) q = r q := fun q hq => by rw [swp_e, if_neg (by omega), if_neg (by omega)]
    obtain ⟨μe, g1, g2, g3⟩ := c_row14 (i := p - 1) (μ := upM μ 14 (swp r p (p + 1))) (r := swp r p (p + 1)) hL hl hm h2 h5 h6 hP' (by omega) (fun k q1 q2 => by rw [upM_ne q1]; exact hk k q1 q2) upM_self (fun q hq => by
      have := (hK.congr (X' := fun q => μ0 10 (tn (swp r p (p + 1) q))) (B' := fun q => μ0 11 (tn (swp r p (p + 1) q))) (fun q hq => by
        show μ0 10 (tn (r q)) = μ0 10 (tn (swp r p (p + 1) q)) ∧ μ0 11 (tn (r q)) = μ0 11 (tn (swp r p (p + 1) q))
        rw [low q (by omega)]; exact ⟨rfl, rfl⟩)) q hq
      rw [upM_ne (by omega), upM_ne (by omega), upM_ne (by omega), upM_ne (by omega), upM_ne (by omega)]
      exact this)
    have ke : ∀ k, k ≠ 14 → (k < 56 ∨ 60 < k) → μe k = μ0 k := fun k q1 q2 => by rw [g2 k q2, upM_ne q1]; exact hk k q1 q2
    have e14 : μe 14 = swp r p (p + 1) := by rw [g2 14 (by omega), upM_self]
    have ei : imax 0 (nI p - 1) = nI (p - 1) := by
      have := imax_sub (a := p) (b := 1) (by omega) (by omega)
      exact this
    have head : fX8_passOfNeighbours_24 FF (n + 1) (nI c) e (nI p) μ = if e ≤ eN l m μ0 N (swp r p (p + 1)) then fX8_passOfNeighbours_24 FF n (nI c) e (nI (p + 1)) (upM μe 14 r) else fX8_passOfNeighbours_24 FF n (nI (c + 1)) (eN l m μ0 N (swp r p (p + 1))) (nI (p + 1)) μe := by
      show fX8_passOfNeighbours_24_b FF _ _ _ _ μ = _
      unfold fX8_passOfNeighbours_24_b
      rw [hk 9 (by omega) (by omega), show μ0 9 6 = nI N from hL.2.1, nI_add1, if_neg (nI_ge (by omega) (by omega)), c_exch (by show p < 40; omega) (by show p + 1 < 40; omega), cav_n, h14, ei, g1, cal_n, c_exch (by show p < 40; omega) (by show p + 1 < 40; omega), cav_n, e14, swp_swp, nI_add1]
    rw [head]
    by_cases q : e ≤ eN l m μ0 N (swp r p (p + 1))
    · rw [if_pos q, pas_le q]
      refine ih n (p + 1) c r e _ (by omega) (by omega) hP (fun k q1 q2 => by rw [upM_ne q1]; exact ke k q1 q2) upM_self ?_
      intro z hz
      have := ((g3.mono (show p ≤ N by omega)).congr (X' := fun q => μ0 10 (tn (r q))) (B' := fun q => μ0 11 (tn (r q))) (fun q hq => by
        show μ0 10 (tn (swp r p (p + 1) q)) = μ0 10 (tn (r q)) ∧ μ0 11 (tn (swp r p (p + 1) q)) = μ0 11 (tn (r q))
        rw [low q hq]; exact ⟨rfl, rfl⟩)) z (by omega)
      rw [upM_ne (by omega), upM_ne (by omega), upM_ne (by omega), upM_ne (by omega), upM_ne (by omega)]
      exact this
    · rw [if_neg q, pas_gt q]
      exact ih n (p + 1) (c + 1) _ _ μe (by omega) (by omega) hP' ke e14 (g3.mono (by omega))
theorem c_bet {N l m : Nat} {μ0 : Mem} (hL : RelN wq N (CL μ0) (MT μ0 0)) (h1 : 1 ≤ N) (hl : l ≤ 2) (hm : m ≤ 5) (h2 : l = 2 → 1 ≤ m) (h5 : μ0 55 5 = nI l) (h6 : μ0 55 6 = nI m) : ∀ (K n j y4 : Nat) (y3 : Int32) (r : Nat → Int32) (μ : Mem), j + K ≤ 1000000 → K + 2 < n → 0 < y4 → y4 ≤ 40 → StpP (eN l m μ0 N) N K r → PermF r N → (∀ k, k ≠ 14 → (k < 56 ∨ 60 < k) → μ k = μ0 k) → μ 14 = r →
    ∃ μ', fX8_better_39 FF n y3 (nI y4) (nI j) μ = some (y3 + nI (toP (eN l m μ0 N) N K r), μ') ∧ (∀ k, k ≠ 14 → (k < 56 ∨ 60 < k) → μ' k = μ0 k) ∧ μ' 14 = itP (eN l m μ0 N) N K r := by
  have hN := hL.1
  intro K
  induction K with
  | zero =>
    intro n j y4 y3 r μ hj hn hy hy2 hS hP hk h14
    obtain ⟨n, rfl⟩ : ∃ n', n = n' + 1 + 1 := ⟨n - 2, by omega⟩
    have ny : ¬ nI y4 ≤ (0 : Int32) := nI_ge (a := 0) (by omega) (by omega)
    have y0 : y3 + nI (toP (eN l m μ0 N) N 0 r) = y3 := i_a0 y3
    rw [y0]
    by_cases c : (1000000 : Int32) ≤ nI j
    · refine ⟨μ, ?_, hk, h14⟩
      show fX8_better_39_b FF _ _ _ _ μ = _
      unfold fX8_better_39_b
      rw [if_pos c]
    · obtain ⟨μe, g1, g2, g3⟩ := c_row14 (i := 0) (μ := μ) (r := r) hL hl hm h2 h5 h6 hP (by omega) hk h14 (fun p hp => by omega)
      have ke : ∀ k, k ≠ 14 → (k < 56 ∨ 60 < k) → μe k = μ0 k := fun k q1 q2 => by rw [g2 k q2]; exact hk k q1 q2
      obtain ⟨μ', p1, p2, p3⟩ := c_pass hL h1 hl hm h2 h5 h6 (N - 1) FF 0 0 r (eN l m μ0 N r) μe (by omega) (by rw [FF_e]; omega) hP ke (by rw [g2 14 (by omega)]; exact h14) (fun p hp => by omega)
      have hS' : (pas (eN l m μ0 N) (N - 1) 0 r (eN l m μ0 N r) 0).2.2 = 0 := hS
      have hr : (pas (eN l m μ0 N) (N - 1) 0 r (eN l m μ0 N r) 0).1 = r := (pas_inv (E := eN l m μ0 N) (N := N) (N - 1) 0 r (eN l m μ0 N r) 0 (by omega) hP rfl).2.2.2.2.1 hS'
      rw [hS'] at p1
      rw [hr] at p3
      refine ⟨μ', ?_, p2, p3⟩
      show fX8_better_39_b FF _ _ _ _ μ = _
      unfold fX8_better_39_b fX8_passOfNeighbours
      rw [if_neg c, if_neg ny, show (0 : Int32) = nI 0 from rfl, g1, cal_n, p1, cal_n]
      show fX8_better_39_b FF _ (y3 + nI 0) (nI 0) (nI j + 1) μ' = _
      unfold fX8_better_39_b
      rw [show y3 + nI 0 = y3 from i_a0 y3]
      by_cases c2 : (1000000 : Int32) ≤ nI j + 1
      · rw [if_pos c2]
      · rw [if_neg c2, if_pos (show nI 0 ≤ (0 : Int32) by decide)]
  | succ K ih =>
    intro n j y4 y3 r μ hj hn hy hy2 hS hP hk h14
    obtain ⟨n, rfl⟩ : ∃ n', n = n' + 1 := ⟨n - 1, by omega⟩
    have ny : ¬ nI y4 ≤ (0 : Int32) := nI_ge (a := 0) (by omega) (by omega)
    obtain ⟨μe, g1, g2, g3⟩ := c_row14 (i := 0) (μ := μ) (r := r) hL hl hm h2 h5 h6 hP (by omega) hk h14 (fun p hp => by omega)
    have ke : ∀ k, k ≠ 14 → (k < 56 ∨ 60 < k) → μe k = μ0 k := fun k q1 q2 => by rw [g2 k q2]; exact hk k q1 q2
    obtain ⟨μ', p1, p2, p3⟩ := c_pass hL h1 hl hm h2 h5 h6 (N - 1) FF 0 0 r (eN l m μ0 N r) μe (by omega) (by rw [FF_e]; omega) hP ke (by rw [g2 14 (by omega)]; exact h14) (fun p hp => by omega)
    obtain ⟨s1, s2⟩ := hS
    have inv := pas_inv (E := eN l m μ0 N) (N := N) (N - 1) 0 r (eN l m μ0 N r) 0 (by omega) hP rfl
    have s1' : (pas (eN l m μ0 N) (N - 1) 0 r (eN l m μ0 N r) 0).2.2 ≠ 0 := s1
    obtain ⟨ν, w1, w2, w3⟩ := ih n (j + 1) (psR (eN l m μ0 N) N r).2.2 (y3 + nI (psR (eN l m μ0 N) N r).2.2) (psR (eN l m μ0 N) N r).1 μ' (by omega) (by omega) (by
      show 0 < (pas (eN l m μ0 N) (N - 1) 0 r (eN l m μ0 N r) 0).2.2
      omega) (by
      show (pas (eN l m μ0 N) (N - 1) 0 r (eN l m μ0 N r) 0).2.2 ≤ 40
      omega) s2 inv.1 p2 p3
    refine ⟨ν, ?_, w2, w3⟩
    show fX8_better_39_b FF _ _ _ _ μ = _
    unfold fX8_better_39_b fX8_passOfNeighbours
    rw [show (1000000 : Int32) = nI 1000000 from rfl, if_neg (nI_ge (by omega) (by omega)), if_neg ny, show (0 : Int32) = nI 0 from rfl, g1, cal_n, p1, cal_n, nI_add1]
    refine w1.trans ?_
    show some ((y3 + nI (psR (eN l m μ0 N) N r).2.2) + nI (toP (eN l m μ0 N) N K (psR (eN l m μ0 N) N r).1), ν) = some (y3 + nI ((psR (eN l m μ0 N) N r).2.2 + toP (eN l m μ0 N) N K (psR (eN l m μ0 N) N r).1), ν)
    rw [i_aa, nI_add]
end
section
/-! better: the reference's passes, and the op, if the passes are not too many -/
variable {wq : Prop}
theorem m_row99 {N l m : Nat} {μ0 μ : Mem} {r : Nat → Int32} (hL : RelN wq N (CL μ0) (MT μ0 0)) (hl : l ≤ 2) (hm : m ≤ 5) (h2 : l = 2 → 1 ≤ m) (hP : PermF r N) (h94 : μ 94 0 = nI N) (h5 : ∀ i, i < N → μ 95 i = μ0 10 i ∧ μ 96 i = μ0 11 i) (hr : ∀ p, p < N → μ 99 p = r p) : ∃ μ', fX9_endOf FF 99 (nI l) (nI m) μ = some (eN l m μ0 N r, μ') ∧ ∀ k, k < 103 ∨ 104 < k → μ' k = μ k := by
  obtain ⟨p1, p2⟩ := hP.inj hL.1
  have hN := hL.1
  obtain ⟨μ', a, b, c⟩ := m_day (l := l) (m := m) (k1 := 99) (X := fun p => μ0 10 (tn (r p))) (B := fun p => μ0 11 (tn (r p))) (μ := μ) hN (by show N ≤ 240; omega) (by omega) hl hm h2 ⟨h94, fun p hp => ⟨tn (r p), by
    have := p1.1 p hp
    have this : tn (r p) < N := this
    omega, by rw [hr p hp]; exact p2 p hp, (h5 _ (p1.1 p hp)).1, (h5 _ (p1.1 p hp)).2⟩⟩
  exact ⟨μ', a, b⟩
def fl (c : Nat) : Int32 := if c = 0 then 0 else 1
theorem m_pass {N l m D : Nat} {μ0 ν0 : Mem} (hL : RelN wq N (CL μ0) (MT μ0 0)) (hl : l ≤ 2) (hm : m ≤ 5) (h2 : l = 2 → 1 ≤ m) (h94 : ν0 94 0 = nI N) (h5 : ∀ i, i < N → ν0 95 i = μ0 10 i ∧ ν0 96 i = μ0 11 i) (rec32 : Int32 → Int32 → Int32 → Int32 → Int32 → Mem → Option (Int32 × Mem)) : ∀ (d n p c : Nat) (r : Nat → Int32) (e : Int32) (μ : Mem), p + d + 1 = N → d < n → PermF r N → (∀ k, k ≠ 99 → (k < 103 ∨ 104 < k) → μ k = ν0 k) → μ 99 = r →
    ∃ μ', fX9_better_43 FF rec32 n (nI l) (nI m) (nI (D + c)) e (fl c) (nI p) μ = rec32 (nI l) (nI m) (nI (D + (pas (eN l m μ0 N) d p r e c).2.2)) (pas (eN l m μ0 N) d p r e c).2.1 (fl (pas (eN l m μ0 N) d p r e c).2.2) μ' ∧ (∀ k, k ≠ 99 → (k < 103 ∨ 104 < k) → μ' k = ν0 k) ∧ μ' 99 = (pas (eN l m μ0 N) d p r e c).1 := by
  have hN := hL.1
  intro d
  induction d with
  | zero =>
    intro n p c r e μ hp hn hP hk h99
    obtain ⟨n, rfl⟩ : ∃ n', n = n' + 1 := ⟨n - 1, by omega⟩
    refine ⟨μ, ?_, hk, h99⟩
    show fX9_better_43_b FF rec32 _ _ _ _ _ _ _ μ = _
    unfold fX9_better_43_b
    rw [show (0 : Int32) = nI 0 from rfl, rd_n (by decide), hk 94 (by omega) (by omega), h94, nI_add1, if_pos (nI_le (by omega) (by omega))]
    rfl
  | succ d ih =>
    intro n p c r e μ hp hn hP hk h99
    obtain ⟨n, rfl⟩ : ∃ n', n = n' + 1 := ⟨n - 1, by omega⟩
    have hP' : PermF (swp r p (p + 1)) N := hP.swp (by omega) (by omega)
    have l1 : p < ln 99 := by show p < 240; omega
    have l2 : p + 1 < ln 99 := by show p + 1 < 240; omega
    have k0 : ∀ k, k ≠ 99 → (k < 103 ∨ 104 < k) → upM μ 99 (swp r p (p + 1)) k = ν0 k := fun k q1 q2 => by rw [upM_ne q1]; exact hk k q1 q2
    obtain ⟨μe, g1, g2⟩ := m_row99 (μ0 := μ0) (μ := upM μ 99 (swp r p (p + 1))) hL hl hm h2 hP' (by rw [k0 94 (by omega) (by omega)]; exact h94) (fun i hi => by rw [k0 95 (by omega) (by omega), k0 96 (by omega) (by omega)]; exact h5 i hi) (fun q _ => by rw [upM_self])
    have ke : ∀ k, k ≠ 99 → (k < 103 ∨ 104 < k) → μe k = ν0 k := fun k q1 q2 => by rw [g2 k q2]; exact k0 k q1 q2
    have e99 : μe 99 = swp r p (p + 1) := by rw [g2 99 (by omega), upM_self]
    have back : upd (upd (swp r p (p + 1)) (p + 1) (swp r p (p + 1) p)) p (r p) = r := by
      funext k
      by_cases c1 : k = p
      · rw [c1, upd_s]
      · rw [upd_ne c1]
        by_cases c2 : k = p + 1
        · rw [c2, upd_s, swp_e, if_neg (by omega), if_pos rfl]
        · rw [upd_ne c2, swp_e, if_neg c2, if_neg c1]
    have head : fX9_better_43 FF rec32 (n + 1) (nI l) (nI m) (nI (D + c)) e (fl c) (nI p) μ = if e ≤ eN l m μ0 N (swp r p (p + 1)) then fX9_better_43 FF rec32 n (nI l) (nI m) (nI (D + c)) e (fl c) (nI (p + 1)) (upM μe 99 r) else fX9_better_43 FF rec32 n (nI l) (nI m) (nI (D + (c + 1))) (eN l m μ0 N (swp r p (p + 1))) 1 (nI (p + 1)) μe := by
      show fX9_better_43_b FF rec32 _ _ _ _ _ _ _ μ = _
      unfold fX9_better_43_b
      rw [show (0 : Int32) = nI 0 from rfl, rd_n (by decide), hk 94 (by omega) (by omega), h94, nI_add1, if_neg (nI_ge (by omega) (by omega)), rd_n l1, rd_n l2, h99, wr_n l1, wr_n l2, upM_upM, h99]
      simp only [upM_self]
      rw [show upM μ 99 (upd (upd r p (r (p + 1))) (p + 1) (r p)) = upM μ 99 (swp r p (p + 1)) from rfl, g1, cal_n, rd_n l1, e99, wr_n l2, wr_n l1, upM_upM, upM_self, e99, back, nI_add1]
      rfl
    rw [head]
    by_cases q : e ≤ eN l m μ0 N (swp r p (p + 1))
    · rw [if_pos q, pas_le q]
      exact ih n (p + 1) c r e _ (by omega) (by omega) hP (fun k q1 q2 => by rw [upM_ne q1]; exact ke k q1 q2) upM_self
    · rw [if_neg q, pas_gt q]
      exact ih n (p + 1) (c + 1) _ _ μe (by omega) (by omega) hP' ke e99
theorem m_bet {N l m : Nat} {μ0 ν0 : Mem} (hL : RelN wq N (CL μ0) (MT μ0 0)) (h1 : 1 ≤ N) (hl : l ≤ 2) (hm : m ≤ 5) (h2 : l = 2 → 1 ≤ m) (h94 : ν0 94 0 = nI N) (h5 : ∀ i, i < N → ν0 95 i = μ0 10 i ∧ ν0 96 i = μ0 11 i) : ∀ (K n D : Nat) (y5 : Int32) (r : Nat → Int32) (μ : Mem), K + 1 < n → ¬ y5 = 0 → StpP (eN l m μ0 N) N K r → PermF r N → (∀ k, k ≠ 99 → (k < 103 ∨ 104 < k) → μ k = ν0 k) → μ 99 = r →
    ∃ μ', fX9_better_32 FF n (nI l) (nI m) (nI D) (eN l m μ0 N r) y5 μ = some (nI (D + toP (eN l m μ0 N) N K r), μ') ∧ (∀ k, k ≠ 99 → (k < 103 ∨ 104 < k) → μ' k = ν0 k) ∧ μ' 99 = itP (eN l m μ0 N) N K r := by
  have hN := hL.1
  intro K
  induction K with
  | zero =>
    intro n D y5 r μ hn hy hS hP hk h99
    obtain ⟨n, rfl⟩ : ∃ n', n = n' + 1 + 1 := ⟨n - 2, by omega⟩
    obtain ⟨μ', p1, p2, p3⟩ := m_pass (D := D) (ν0 := ν0) hL hl hm h2 h94 h5 (fX9_better_32 FF (n + 1)) (N - 1) FF 0 0 r (eN l m μ0 N r) μ (by omega) (by rw [FF_e]; omega) hP hk h99
    have hS' : (pas (eN l m μ0 N) (N - 1) 0 r (eN l m μ0 N r) 0).2.2 = 0 := hS
    have hr : (pas (eN l m μ0 N) (N - 1) 0 r (eN l m μ0 N r) 0).1 = r := (pas_inv (E := eN l m μ0 N) (N := N) (N - 1) 0 r (eN l m μ0 N r) 0 (by omega) hP rfl).2.2.2.2.1 hS'
    rw [hS'] at p1
    rw [hr] at p3
    refine ⟨μ', ?_, p2, p3⟩
    show fX9_better_32_b FF _ _ _ _ _ _ μ = _
    unfold fX9_better_32_b
    rw [if_neg hy]
    refine p1.trans ?_
    show fX9_better_32_b FF _ _ _ _ _ (fl 0) μ' = _
    unfold fX9_better_32_b
    rw [if_pos (show fl 0 = 0 from rfl)]
    rfl
  | succ K ih =>
    intro n D y5 r μ hn hy hS hP hk h99
    obtain ⟨n, rfl⟩ : ∃ n', n = n' + 1 := ⟨n - 1, by omega⟩
    obtain ⟨μ', p1, p2, p3⟩ := m_pass (D := D) (ν0 := ν0) hL hl hm h2 h94 h5 (fX9_better_32 FF n) (N - 1) FF 0 0 r (eN l m μ0 N r) μ (by omega) (by rw [FF_e]; omega) hP hk h99
    obtain ⟨s1, s2⟩ := hS
    have inv := pas_inv (E := eN l m μ0 N) (N := N) (N - 1) 0 r (eN l m μ0 N r) 0 (by omega) hP rfl
    obtain ⟨ν, w1, w2, w3⟩ := ih n (D + (psR (eN l m μ0 N) N r).2.2) (fl (psR (eN l m μ0 N) N r).2.2) (psR (eN l m μ0 N) N r).1 μ' (by omega) (by
      unfold fl
      rw [if_neg s1]
      exact one_ne) s2 inv.1 p2 p3
    refine ⟨ν, ?_, w2, w3⟩
    show fX9_better_32_b FF _ _ _ _ _ _ μ = _
    unfold fX9_better_32_b
    rw [if_neg hy]
    refine p1.trans ?_
    have ee : (pas (eN l m μ0 N) (N - 1) 0 r (eN l m μ0 N r) 0).2.1 = eN l m μ0 N (psR (eN l m μ0 N) N r).1 := inv.2.1
    rw [ee]
    refine w1.trans ?_
    show some (nI (D + (psR (eN l m μ0 N) N r).2.2 + toP (eN l m μ0 N) N K (psR (eN l m μ0 N) N r).1), ν) = some (nI (D + ((psR (eN l m μ0 N) N r).2.2 + toP (eN l m μ0 N) N K (psR (eN l m μ0 N) N r).1)), ν)
    rw [Nat.add_assoc]
theorem itP_perm {E : (Nat → Int32) → Int32} {N : Nat} (h1 : 1 ≤ N) : ∀ (k : Nat) (r : Nat → Int32), PermF r N → PermF (itP E N k r) N
  | 0, _, h => h
  | k + 1, r, h => itP_perm h1 k _ (pas_inv (E := E) (N := N) (N - 1) 0 r (E r) 0 (by omega) h rfl).1
theorem itP_out {E : (Nat → Int32) → Int32} {N : Nat} (h1 : 1 ≤ N) : ∀ (k : Nat) (r : Nat → Int32) (q : Nat), N ≤ q → itP E N k r q = r q := by
  have ps : ∀ (d p : Nat) (r : Nat → Int32) (e : Int32) (c : Nat), p + d + 1 = N → ∀ q, N ≤ q → (pas E d p r e c).1 q = r q := by
    intro d
    induction d with
    | zero => intro p r e c _ q _; rfl
    | succ d ih =>
      intro p r e c hp q hq
      by_cases w : e ≤ E (swp r p (p + 1))
      · rw [pas_le w]; exact ih (p + 1) r e c (by omega) q hq
      · rw [pas_gt w, ih (p + 1) _ _ _ (by omega) q hq, swp_e, if_neg (by omega), if_neg (by omega)]
  intro k
  induction k with
  | zero => intro r q _; rfl
  | succ k ih =>
    intro r q hq
    show itP E N k (psR E N r).1 q = r q
    rw [ih _ q hq]
    exact ps (N - 1) 0 r (E r) 0 (by omega) q hq
/-- never more than a million passes that exchange -/
def HBet (wq : Prop) : Prop := ∀ (N l m : Nat) (μ : Mem) (r : Nat → Int32) (K : Nat), RelN wq N (CL μ) (MT μ 0) → 1 ≤ N → l ≤ 2 → m ≤ 5 → (l = 2 → 1 ≤ m) → (l ≠ 2 → m = 0) → PermF r N → StpP (eN l m μ N) N K r → K ≤ 1000000
end
section
/-! better, if the passes are not too many -/
variable {wq : Prop}
/-- the class's passes come to an end, whatever they find -/
theorem c_bet_any {N l m : Nat} {μ0 : Mem} (hL : RelN wq N (CL μ0) (MT μ0 0)) (h1 : 1 ≤ N) (hl : l ≤ 2) (hm : m ≤ 5) (h2 : l = 2 → 1 ≤ m) (h5 : μ0 55 5 = nI l) (h6 : μ0 55 6 = nI m) : ∀ (d n j y4 : Nat) (y3 : Int32) (r : Nat → Int32) (μ : Mem), j + d = 1000000 → d < n → y4 ≤ 40 → PermF r N → (∀ k, k ≠ 14 → (k < 56 ∨ 60 < k) → μ k = μ0 k) → μ 14 = r →
    ∃ (res : Int32) (row : Nat → Int32) (μ' : Mem), fX8_better_39 FF n y3 (nI y4) (nI j) μ = some (res, μ') ∧ (∀ k, k ≠ 14 → (k < 56 ∨ 60 < k) → μ' k = μ0 k) ∧ μ' 14 = row ∧ PermF row N := by
  have hN := hL.1
  intro d
  induction d with
  | zero =>
    intro n j y4 y3 r μ hj hn hy hP hk h14
    obtain ⟨n, rfl⟩ : ∃ n', n = n' + 1 := ⟨n - 1, by omega⟩
    refine ⟨y3, r, μ, ?_, hk, h14, hP⟩
    show fX8_better_39_b FF _ _ _ _ μ = _
    unfold fX8_better_39_b
    rw [show (1000000 : Int32) = nI 1000000 from rfl, if_pos (nI_le (by omega) (by omega))]
  | succ d ih =>
    intro n j y4 y3 r μ hj hn hy hP hk h14
    obtain ⟨n, rfl⟩ : ∃ n', n = n' + 1 := ⟨n - 1, by omega⟩
    by_cases h0 : y4 = 0
    · subst h0
      refine ⟨y3, r, μ, ?_, hk, h14, hP⟩
      show fX8_better_39_b FF _ _ _ _ μ = _
      unfold fX8_better_39_b
      rw [show (1000000 : Int32) = nI 1000000 from rfl, if_neg (nI_ge (by omega) (by omega)), if_pos (show nI 0 ≤ (0 : Int32) by decide)]
    · have ny : ¬ nI y4 ≤ (0 : Int32) := nI_ge (a := 0) (by omega) (by omega)
      obtain ⟨μe, g1, g2, g3⟩ := c_row14 (i := 0) (μ := μ) (r := r) hL hl hm h2 h5 h6 hP (by omega) hk h14 (fun p hp => by omega)
      have ke : ∀ k, k ≠ 14 → (k < 56 ∨ 60 < k) → μe k = μ0 k := fun k q1 q2 => by rw [g2 k q2]; exact hk k q1 q2
      obtain ⟨μ', p1, p2, p3⟩ := c_pass hL h1 hl hm h2 h5 h6 (N - 1) FF 0 0 r (eN l m μ0 N r) μe (by omega) (by rw [FF_e]; omega) hP ke (by rw [g2 14 (by omega)]; exact h14) (fun p hp => by omega)
      have inv := pas_inv (E := eN l m μ0 N) (N := N) (N - 1) 0 r (eN l m μ0 N r) 0 (by omega) hP rfl
      obtain ⟨res, row, ν, w1, w2, w3, w4⟩ := ih n (j + 1) (pas (eN l m μ0 N) (N - 1) 0 r (eN l m μ0 N r) 0).2.2 (y3 + nI (pas (eN l m μ0 N) (N - 1) 0 r (eN l m μ0 N r) 0).2.2) _ μ' (by omega) (by omega) (by omega) inv.1 p2 p3
      refine ⟨res, row, ν, ?_, w2, w3, w4⟩
      show fX8_better_39_b FF _ _ _ _ μ = _
      unfold fX8_better_39_b fX8_passOfNeighbours
      rw [show (1000000 : Int32) = nI 1000000 from rfl, if_neg (nI_ge (by omega) (by omega)), if_neg ny, show (0 : Int32) = nI 0 from rfl, g1, cal_n, p1, cal_n, nI_add1]
      exact w1
theorem better_at (a b : Int32) {μ : Mem} (hI : Inv wq μ) (HB : wq → μ 9 6 = 0 ∨ HBet wq) : ∃ r r' μ1 μ2, fX8_better FF a b μ = some (r, μ1) ∧ fX9_better FF a b μ1 = some (r', μ2) ∧ Inv wq μ2 ∧ (wq → r = r') := by
  unfold fX8_better fX9_better
  rcases (law_or a b).symm with ⟨w1, w2⟩ | ⟨l, m, hl, hm, h2, h3, rfl, rfl, w1, w2⟩
  · exact ⟨-2, -2, μ, μ, by rw [w1, cal_n, if_pos rfl], by rw [w2, cal_n, if_pos rfl], hI, fun _ => rfl⟩
  obtain ⟨N, μc, hL, c1, c2, c3⟩ := keepOp2 hI
  have h9 : μ 9 6 = nI N := hL.2.1
  have hN := hL.1
  obtain ⟨μs, f1, f2, f3, f4⟩ := follow_n (l := l) (m := m) (μ := μc)
  have sk : ∀ k, k ≠ 55 → k ≠ 16 → (k < 18 ∨ 53 ≤ k) → μs k = μ k := fun k q1 q2 q3 => by rw [f2 k q1, c2 k q2 q3]
  have hLs : RelN wq N (CL μs) (MT μs 0) := by
    have e1 : CL μs = CL μ := by
      unfold CL
      rw [sk 9 (by omega) (by omega) (by omega), sk 10 (by omega) (by omega) (by omega), sk 11 (by omega) (by omega) (by omega), sk 12 (by omega) (by omega) (by omega), sk 13 (by omega) (by omega) (by omega), sk 14 (by omega) (by omega) (by omega)]
    have e2 : MT μs 0 = MT μ 0 := by
      unfold MT
      rw [sk 94 (by omega) (by omega) (by omega), sk 95 (by omega) (by omega) (by omega), sk 96 (by omega) (by omega) (by omega), sk 97 (by omega) (by omega) (by omega), sk 98 (by omega) (by omega) (by omega), sk 99 (by omega) (by omega) (by omega)]
    rw [e1, e2]
    exact hL
  have hP : PermF (μ 14) N := hL.oks.2
  have hPs : PermF (μs 14) N := by rw [sk 14 (by omega) (by omega) (by omega)]; exact hP
  -- both come to a row, to the same one if wq
  have core : ∃ (res : Int32) (row : Nat → Int32) (μ1 : Mem), fX8_better_39 FF FF 0 1 0 μs = some (res, μ1) ∧ (∀ k, k ≠ 14 → (k < 56 ∨ 60 < k) → μ1 k = μs k) ∧ μ1 14 = row ∧ PermF row N ∧ ∀ μm : Mem, μm 94 0 = nI N → PermF (μm 99) N → (∀ c, 95 ≤ c → c < 100 → ∀ i, i < 40 → μm c i = μ c i) → ∃ (res' : Int32) (μ2 : Mem), cal (fX9_endOf FF 99 (nI l) (nI m) μm) (fun r5 m4 => fX9_better_32 FF FF (nI l) (nI m) 0 r5 1 m4) = some (res', μ2) ∧ (∀ k, k ≠ 99 → (k < 103 ∨ 104 < k) → μ2 k = μm k) ∧ (wq → res = res' ∧ ∀ p, p < N → row p = μ2 99 p) ∧ PermF (μ2 99) N ∧ ∀ p, 40 ≤ p → μ2 99 p = μm 99 p := by
    by_cases h0 : N = 0
    · subst h0
      obtain ⟨n, hn⟩ : ∃ n, FF = n + 1 + 1 := ⟨9999998, rfl⟩
      obtain ⟨μe, g1, g2, g3⟩ := c_row14 (i := 0) (μ := μs) (r := μs 14) hLs hl hm h2 f3 f4 hPs (by omega) (fun _ _ _ => rfl) rfl (fun p hp => by omega)
      have e9 : μe 9 6 = nI 0 := by rw [g2 9 (by omega)]; exact hLs.2.1
      refine ⟨0, μe 14, μe, ?_, fun k _ q2 => g2 k q2, rfl, by rw [g2 14 (by omega)]; exact hPs, fun μm hm94 hPm hm5 => ?_⟩
      · have e1 : fX8_better_39 FF FF 0 1 0 μs = fX8_better_39 FF (n + 1 + 1) 0 1 0 μs := by rw [← hn]
        rw [e1]
        show fX8_better_39_b FF _ _ _ _ μs = _
        unfold fX8_better_39_b fX8_passOfNeighbours
        rw [if_neg (show ¬ (1000000 : Int32) ≤ 0 by decide), if_neg (show ¬ (1 : Int32) ≤ 0 by decide), show fX1_endOf FF 14 0 μs = some (eN l m μs 0 (μs 14), μe) from g1, cal_n]
        have e2 : fX8_passOfNeighbours_24 FF FF 0 (eN l m μs 0 (μs 14)) 0 μe = some (0, μe) := by
          have : fX8_passOfNeighbours_24 FF FF 0 (eN l m μs 0 (μs 14)) 0 μe = fX8_passOfNeighbours_24 FF (n + 1 + 1) 0 (eN l m μs 0 (μs 14)) 0 μe := by rw [← hn]
          rw [this]
          show fX8_passOfNeighbours_24_b FF _ _ _ _ μe = _
          unfold fX8_passOfNeighbours_24_b
          rw [e9, if_pos (show nI 0 ≤ 0 + 1 by decide)]
        rw [e2, cal_n]
        show fX8_better_39_b FF _ (0 + 0) 0 (0 + 1) μe = _
        unfold fX8_better_39_b
        rw [if_neg (show ¬ (1000000 : Int32) ≤ 0 + 1 by decide), if_pos (show (0 : Int32) ≤ 0 by decide)]
        rfl
      · obtain ⟨μy, y1, y2⟩ := m_row99 (μ0 := μs) (μ := μm) (r := μs 14) hLs hl hm h2 hPs hm94 (fun i hi => by omega) (fun p hp => by omega)
        refine ⟨0, μy, ?_, fun k _ q2 => y2 k q2, fun _ => ⟨rfl, fun p hp => by omega⟩, by rw [y2 99 (by omega)]; exact hPm, fun p _ => by rw [y2 99 (by omega)]⟩
        rw [y1, cal_n]
        have e1 : ∀ e, fX9_better_32 FF FF (nI l) (nI m) 0 e 1 μy = fX9_better_32 FF (n + 1 + 1) (nI l) (nI m) 0 e 1 μy := fun e => by rw [← hn]
        rw [e1]
        show fX9_better_32_b FF _ _ _ _ _ _ μy = _
        unfold fX9_better_32_b
        rw [if_neg one_ne]
        have e2 : ∀ e, fX9_better_43 FF (fX9_better_32 FF (n + 1)) FF (nI l) (nI m) 0 e 0 0 μy = fX9_better_43 FF (fX9_better_32 FF (n + 1)) (n + 1 + 1) (nI l) (nI m) 0 e 0 0 μy := fun e => by rw [← hn]
        rw [e2]
        show fX9_better_43_b FF _ _ _ _ _ _ _ _ μy = _
        unfold fX9_better_43_b
        rw [show rd μy 94 0 = rd μy 94 (nI 0) from rfl, rd_n (by decide), y2 94 (by omega), hm94, if_pos (show nI 0 ≤ 0 + 1 by decide)]
        show fX9_better_32_b FF _ _ _ _ _ 0 μy = _
        unfold fX9_better_32_b
        rw [if_pos rfl]
    · have n1 : 1 ≤ N := by omega
      have hE : ∀ r, PermF r N → ∃ e, e ≤ 8000000 ∧ eN l m μs N r = nI e := fun r h => eN_b hLs h2 h
      have cE : ∀ r s : Nat → Int32, (∀ p, p < N → r p = s p) → eN l m μs N r = eN l m μs N s := fun r s h => eN_congr h
      have exK : ∀ r, PermF r N → ∃ K, K < 8000001 ∧ StpP (eN l m μs N) N K r := fun r hr => by
        obtain ⟨e, le, he⟩ := hE r hr
        exact StpP_ex (E := eN l m μs N) (N := N) n1 (fun r h => by
          obtain ⟨e, le, he⟩ := hE r h
          rw [he, nI_toInt (by omega)]
          omega) 8000001 r hr (by
          rw [he, nI_toInt (by omega)]
          omega)
      -- the reference, from its own row
      have mod : ∀ μm : Mem, μm 94 0 = nI N → PermF (μm 99) N → (∀ c, 95 ≤ c → c < 100 → ∀ i, i < 40 → μm c i = μ c i) → ∀ K, K < 8000001 → StpP (eN l m μs N) N K (μm 99) → ∃ μ2 : Mem, cal (fX9_endOf FF 99 (nI l) (nI m) μm) (fun r5 m4 => fX9_better_32 FF FF (nI l) (nI m) 0 r5 1 m4) = some (nI (toP (eN l m μs N) N K (μm 99)), μ2) ∧ (∀ k, k ≠ 99 → (k < 103 ∨ 104 < k) → μ2 k = μm k) ∧ μ2 99 = itP (eN l m μs N) N K (μm 99) := by
        intro μm hm94 hPm hm5 K hK hS
        have h5' : ∀ i, i < N → μm 95 i = μs 10 i ∧ μm 96 i = μs 11 i := fun i hi => by
          rw [hm5 95 (by omega) (by omega) i (by omega), hm5 96 (by omega) (by omega) i (by omega), sk 10 (by omega) (by omega) (by omega), sk 11 (by omega) (by omega) (by omega)]
          exact ⟨(hL.eqs hi).1.symm, (hL.eqs hi).2.1.symm⟩
        obtain ⟨μy, y1, y2⟩ := m_row99 (μ0 := μs) (μ := μm) (r := μm 99) hLs hl hm h2 hPm hm94 h5' (fun _ _ => rfl)
        obtain ⟨μ2, x1, x2, x3⟩ := m_bet (μ0 := μs) (ν0 := μm) hLs n1 hl hm h2 hm94 h5' K FF 0 1 (μm 99) μy (by rw [FF_e]; omega) one_ne hS hPm (fun k _ q2 => y2 k q2) (y2 99 (by omega))
        refine ⟨μ2, ?_, x2, x3⟩
        rw [y1, cal_n]
        refine Eq.trans x1 ?_
        rw [Nat.zero_add]
      by_cases hq : wq
      · obtain ⟨K, hK, hS⟩ := exK (μs 14) hPs
        have hB : HBet wq := (HB hq).resolve_left (fun q => h0 (nI_inj (b := 0) (by omega) (by omega) (h9.symm.trans q)))
        have hKb := hB N l m μs (μs 14) K hLs n1 hl hm h2 h3 hPs hS
        obtain ⟨μ1, z1, z2, z3⟩ := c_bet hLs n1 hl hm h2 f3 f4 K FF 0 1 0 (μs 14) μs (by omega) (by rw [FF_e]; omega) (by omega) (by omega) hS hPs (fun _ _ _ => rfl) rfl
        refine ⟨0 + nI (toP (eN l m μs N) N K (μs 14)), itP (eN l m μs N) N K (μs 14), μ1, z1, z2, z3, itP_perm n1 K _ hPs, fun μm hm94 hPm hm5 => ?_⟩
        have hr : ∀ p, p < N → μs 14 p = μm 99 p := fun p hp => by
          rw [sk 14 (by omega) (by omega) (by omega), hm5 99 (by omega) (by omega) p (by omega)]
          exact (hL.eqs hp).2.2.2.2 hq
        obtain ⟨t1, t2, t3⟩ := itP_congr n1 cE K (μs 14) (μm 99) hr
        obtain ⟨μ2, x1, x2, x3⟩ := mod μm hm94 hPm hm5 K hK (t3.mp hS)
        exact ⟨_, μ2, x1, x2, fun _ => ⟨by rw [t2, i_0a], fun p hp => by rw [x3]; exact t1 p hp⟩, by rw [x3]; exact itP_perm n1 K _ hPm, fun p hp => by rw [x3]; exact itP_out n1 K _ p (by omega)⟩
      · obtain ⟨res, row, μ1, z1, z2, z3, z4⟩ := c_bet_any hLs n1 hl hm h2 f3 f4 1000000 FF 0 1 0 (μs 14) μs (by omega) (by rw [FF_e]; omega) (by omega) hPs (fun _ _ _ => rfl) rfl
        refine ⟨res, row, μ1, z1, z2, z3, z4, fun μm hm94 hPm hm5 => ?_⟩
        obtain ⟨K, hK, hS⟩ := exK (μm 99) hPm
        obtain ⟨μ2, x1, x2, x3⟩ := mod μm hm94 hPm hm5 K hK hS
        exact ⟨_, μ2, x1, x2, fun h => absurd h hq, by rw [x3]; exact itP_perm n1 K _ hPm, fun p hp => by rw [x3]; exact itP_out n1 K _ p (by omega)⟩
  obtain ⟨res, row, μ1, z1, z2, z3, z4, z5⟩ := core
  have k1 : ∀ k, k ≠ 14 → k ≠ 16 → (k < 18 ∨ 53 ≤ k) → (k < 55 ∨ 60 < k) → μ1 k = μ k := fun k q1 q2 q3 q4 => by rw [z2 k q1 (by omega), sk k (by omega) q2 q3]
  obtain ⟨μm, m1, m2, m3, m4, m5, m6⟩ := c3 μ1 (fun k hk => k1 k (by omega) (by omega) (by omega) (by omega)) (fun k hk => by rw [z2 k (by omega) (by omega), f2 k (by omega)])
  obtain ⟨res', μ2, x1, x2, x3, x5, x4⟩ := z5 μm m4 (hL.oko.congr (fun k hk => m5 99 (by omega) (by omega) k (by omega))) m5
  have fr : ∀ k, k ≠ 14 → k ≠ 16 → (k < 18 ∨ 53 ≤ k) → (k < 55 ∨ 60 < k) → (k < 94 ∨ 100 ≤ k) → k ≠ 89 → (k < 103 ∨ 104 < k) → μ2 k = μ k := fun k q1 q2 q3 q4 q5 q6 q7 => by rw [x2 k (by omega) q7, m2 k q6 q5, k1 k q1 q2 q3 q4]
  have f89 : ∀ j, j ≠ 11 → μ2 89 j = μ 89 j := fun j hj => by rw [x2 89 (by omega) (by omega), m3 j hj]
  have s14 : μ2 14 = row := by rw [x2 14 (by omega) (by omega), m2 14 (by omega) (by omega), z3]
  refine ⟨res, res', μ1, μ2, ?_, ?_, Inv.alt2 (N := N) hI (fun k q1 q2 q3 q4 q5 => fr k (by omega) (by omega) (by omega) (by omega) q2 q3 (by omega)) (fun j q1 q2 => f89 j q1) ?_ ?_ ?_, fun q => (x3 q).1⟩
  · rw [w1, cal_n, if_neg one_ne, c1, cav_n, f1, cav_n]
    exact z1
  · rw [w2, cal_n, if_neg one_ne, m1, cav_n]
    exact x1
  · refine RelN.mk hN (by rw [fr 9 (by omega) (by omega) (by omega) (by omega) (by omega) (by omega) (by omega)]; exact h9) (by rw [x2 94 (by omega) (by omega)]; exact m4) (fun k hk => ?_) x5 ⟨fun k hk => ?_, ?_⟩
    · rw [s14, fr 10 (by omega) (by omega) (by omega) (by omega) (by omega) (by omega) (by omega), fr 11 (by omega) (by omega) (by omega) (by omega) (by omega) (by omega) (by omega), fr 12 (by omega) (by omega) (by omega) (by omega) (by omega) (by omega) (by omega), fr 13 (by omega) (by omega) (by omega) (by omega) (by omega) (by omega) (by omega)]
      obtain ⟨y1, y2, y3, y4, y5⟩ := hL.eqs hk
      have q : ∀ c, 95 ≤ c → c < 99 → μ2 c k = μ c k := fun c h1 h2 => by rw [x2 c (by omega) (by omega)]; exact m5 c h1 (by omega) k (by omega)
      exact ⟨y1.trans (q 95 (by omega) (by omega)).symm, y2.trans (q 96 (by omega) (by omega)).symm, y3.trans (q 97 (by omega) (by omega)).symm, y4.trans (q 98 (by omega) (by omega)).symm, fun hq => (x3 hq).2 k hk⟩
    · rw [fr 10 (by omega) (by omega) (by omega) (by omega) (by omega) (by omega) (by omega), fr 11 (by omega) (by omega) (by omega) (by omega) (by omega) (by omega) (by omega), fr 12 (by omega) (by omega) (by omega) (by omega) (by omega) (by omega) (by omega), fr 13 (by omega) (by omega) (by omega) (by omega) (by omega) (by omega) (by omega)]
      exact hL.oks.1 k hk
    · rw [s14]; exact z4
  · refine m6 _ (fun k hk => by rw [x2 k (by omega) (by omega)]) (by rw [x2 89 (by omega) (by omega)]) (by rw [x2 94 (by omega) (by omega)]) (fun c h1 h2 k hk => ?_)
    by_cases h99 : c = 99
    · subst h99
      exact x4 k hk
    · rw [x2 c h99 (by omega)]
  · exact hI.2.2.2.1.same (fr 54 (by omega) (by omega) (by omega) (by omega) (by omega) (by omega) (by omega)) (fr 100 (by omega) (by omega) (by omega) (by omega) (by omega) (by omega) (by omega)) (fr 53 (by omega) (by omega) (by omega) (by omega) (by omega) (by omega) (by omega)) (f89 12 (by decide)) (f89 14 (by decide)) (f89 15 (by decide)) (by rw [fr 9 (by omega) (by omega) (by omega) (by omega) (by omega) (by omega) (by omega)])
theorem op_better_of (HB : wq → HBet wq) (a b : Int32) : OpW wq (fX8_better FF a b) (fX9_better FF a b) := fun _ hI => better_at a b hI (fun q => Or.inr (HB q))
end
