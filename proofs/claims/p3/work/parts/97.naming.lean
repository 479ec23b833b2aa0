/-! rings are named -/
def walk (π : Nat → Nat) (nm : Int32) : Nat → Nat → (Nat → Int32) → Nat → Int32
  | 0, _, f => f
  | d + 1, p, f => if f p = -1 then walk π nm d (π p) (upd f p nm) else f
noncomputable def cvr (Q : Nat → Prop) (nm : Int32) (f : Nat → Int32) : Nat → Int32 := fun a => @ite _ (Q a) (Classical.propDecidable _) nm (f a)
theorem cvr_y {Q : Nat → Prop} {nm : Int32} {f : Nat → Int32} {a : Nat} (h : Q a) : cvr Q nm f a = nm := if_pos h
theorem cvr_n {Q : Nat → Prop} {nm : Int32} {f : Nat → Int32} {a : Nat} (h : ¬ Q a) : cvr Q nm f a = f a := if_neg h
theorem walk_orbit {P D i : Nat} {π : Nat → Nat} {nm : Int32} {f : Nat → Int32} (hp : PB P π) (hi : i < P) (hD : P ≤ D) (hn : ¬ nm = -1) (hf : ∀ a, Rch π i a → f a = -1) : walk π nm D i f = cvr (Rch π i) nm f := by
  obtain ⟨m0, q1, q2, q3⟩ := itr_per hp hi
  obtain ⟨m, mp, mP, me, mm⟩ : ∃ m, 0 < m ∧ m ≤ P ∧ itr π m i = i ∧ ∀ k, 0 < k → k < m → itr π k i ≠ i := by
    have e : itr π (m0 - 1) (π i) = i := by
      have : itr π (m0 - 1 + 1) i = itr π (m0 - 1) (itr π 1 i) := itr_add (m0 - 1)
      rw [show m0 - 1 + 1 = m0 by omega, q3] at this
      exact this.symm
    obtain ⟨k, k1, k2, k3⟩ := first (m0 - 1 + 1) (m0 - 1) (by omega) e
    have sh : ∀ k, itr π (k + 1) i = itr π k (π i) := fun k => itr_add k
    refine ⟨k + 1, by omega, by omega, by rw [sh]; exact k2, fun j j1 j2 e2 => ?_⟩
    have := sh (j - 1)
    rw [show j - 1 + 1 = j by omega, e2] at this
    exact k3 (j - 1) (by omega) this.symm
  have cov : ∀ a, Rch π i a ↔ ∃ t, t < m ∧ itr π t i = a := fun a => by
    constructor
    · rintro ⟨n, e⟩
      refine ⟨n % m, Nat.mod_lt _ mp, ?_⟩
      rw [← e]
      have : n = n % m + m * (n / m) := (Nat.mod_add_div n m).symm
      rw [show itr π n i = itr π (n % m + m * (n / m)) i from by rw [← this], itr_add, itr_mul me]
    · rintro ⟨t, _, e⟩
      exact ⟨t, e⟩
  have loop : ∀ (d j e : Nat), j + d = m → walk π nm (d + e) (itr π j i) (cvr (fun a => ∃ t, t < j ∧ itr π t i = a) nm f) = cvr (Rch π i) nm f := by
    intro d
    induction d with
    | zero =>
      intro j e hj
      obtain rfl : j = m := by omega
      have eq : cvr (fun a => ∃ t, t < j ∧ itr π t i = a) nm f = cvr (Rch π i) nm f := by
        funext a
        by_cases c : Rch π i a
        · rw [cvr_y c, cvr_y ((cov a).mp c)]
        · rw [cvr_n c, cvr_n (fun q => c ((cov a).mpr q))]
      rw [eq, Nat.zero_add]
      cases e with
      | zero => rfl
      | succ e =>
        show (if cvr (Rch π i) nm f (itr π j i) = -1 then _ else _) = _
        rw [if_neg]
        rw [cvr_y (show Rch π i (itr π j i) from ⟨j, rfl⟩)]
        exact hn
    | succ d ih =>
      intro j e hj
      have nin : ¬ ∃ t, t < j ∧ itr π t i = itr π j i := by
        rintro ⟨t, ht, e2⟩
        have e3 : itr π t (itr π (j - t) i) = itr π t i := by rw [← itr_add, show t + (j - t) = j by omega, e2]
        exact mm (j - t) (by omega) (by omega) (itr_cancel hp (itr_lt hp hi _) hi t e3)
      have e4 : upd (cvr (fun a => ∃ t, t < j ∧ itr π t i = a) nm f) (itr π j i) nm = cvr (fun a => ∃ t, t < j + 1 ∧ itr π t i = a) nm f := by
        funext a
        by_cases c : a = itr π j i
        · rw [c, upd_s, cvr_y (Q := fun a => ∃ t, t < j + 1 ∧ itr π t i = a) ⟨j, by omega, rfl⟩]
        · rw [upd_ne c]
          by_cases c2 : ∃ t, t < j ∧ itr π t i = a
          · obtain ⟨t, t1, t2⟩ := c2
            rw [cvr_y (Q := fun a => ∃ t, t < j ∧ itr π t i = a) ⟨t, t1, t2⟩, cvr_y (Q := fun a => ∃ t, t < j + 1 ∧ itr π t i = a) ⟨t, by omega, t2⟩]
          · rw [cvr_n c2, cvr_n]
            rintro ⟨t, t1, t2⟩
            by_cases c3 : t = j
            · rw [c3] at t2; exact c t2.symm
            · exact c2 ⟨t, by omega, t2⟩
      rw [show d + 1 + e = (d + e) + 1 by omega]
      show (if cvr (fun a => ∃ t, t < j ∧ itr π t i = a) nm f (itr π j i) = -1 then walk π nm (d + e) (π (itr π j i)) (upd (cvr (fun a => ∃ t, t < j ∧ itr π t i = a) nm f) (itr π j i) nm) else _) = _
      rw [if_pos (by rw [cvr_n nin]; exact hf _ ⟨j, rfl⟩), e4]
      exact ih (j + 1) e (by omega)
  have l := loop m 0 (D - m) (by omega)
  rw [show m + (D - m) = D by omega] at l
  have e0 : cvr (fun a => ∃ t, t < 0 ∧ itr π t i = a) nm f = f := funext fun a => cvr_n (fun ⟨t, h, _⟩ => by omega)
  rw [e0] at l
  exact l
/-- where a ring begins -/
def Sta (π : Nat → Nat) (s : Nat) : Prop := ∀ a, a < s → ¬ Rch π a s
noncomputable def Kn (π : Nat → Nat) (i : Nat) : Nat := cnQ (Sta π) i
/-- ahead of point i: all that is reached from less is named -/
def Nmd (P : Nat) (π nf : Nat → Nat) (i : Nat) (f : Nat → Int32) : Prop := ∀ a, a < P → (f a = -1 ∧ ∀ s, s < i → ¬ Rch π s a) ∨ ∃ s, s < i ∧ Sta π s ∧ Rch π s a ∧ f a = nI (nf s)
theorem Nmd.st {P i : Nat} {π nf : Nat → Nat} {f : Nat → Int32} (hp : PB P π) (hi : i < P) (hn : ∀ s, s < P → nf s ≤ 41) (h : Nmd P π nf i f) : (f i = -1 ∧ Sta π i ∧ (∀ a, Rch π i a → f a = -1) ∧ Nmd P π nf (i + 1) (cvr (Rch π i) (nI (nf i)) f)) ∨ (¬ f i = -1 ∧ ¬ Sta π i ∧ Nmd P π nf (i + 1) f) := by
  rcases h i hi with ⟨e, q⟩ | ⟨s, s1, s2, s3, s4⟩
  · have un : ∀ a, Rch π i a → f a = -1 := fun a r => by
      have ha := r.lt hp hi
      rcases h a ha with ⟨e2, _⟩ | ⟨s, t1, t2, t3, t4⟩
      · exact e2
      · exact absurd (t3.tr (r.sy hp hi)) (q s t1)
    refine Or.inl ⟨e, q, un, fun a ha => ?_⟩
    by_cases c : Rch π i a
    · exact Or.inr ⟨i, by omega, q, c, cvr_y c⟩
    · rw [cvr_n c]
      rcases h a ha with ⟨e2, q2⟩ | ⟨s, t1, t2, t3, t4⟩
      · refine Or.inl ⟨e2, fun s hs => ?_⟩
        by_cases c2 : s = i
        · rw [c2]; exact c
        · exact q2 s (by omega)
      · exact Or.inr ⟨s, by omega, t2, t3, t4⟩
  · have ns := hn s (by omega)
    refine Or.inr ⟨fun e => ?_, fun w => w s s1 s3, fun a ha => ?_⟩
    · rw [s4] at e
      exact absurd e (fun e => by
        have : (nI (nf s)).toInt = (nf s : Int) := nI_toInt (by omega)
        rw [e] at this
        have e1 : (-1 : Int32).toInt = -1 := rfl
        omega)
    · rcases h a ha with ⟨e2, q2⟩ | ⟨s', t1, t2, t3, t4⟩
      · refine Or.inl ⟨e2, fun s' hs => ?_⟩
        by_cases c2 : s' = i
        · rw [c2]
          exact fun r => q2 s s1 (s3.tr r)
        · exact q2 s' (by omega)
      · exact Or.inr ⟨s', by omega, t2, t3, t4⟩
theorem Kn_s {π : Nat → Nat} {i : Nat} (h : Sta π i) : Kn π (i + 1) = Kn π i + 1 := cnQ_y h
theorem Kn_n {π : Nat → Nat} {i : Nat} (h : ¬ Sta π i) : Kn π (i + 1) = Kn π i := cnQ_n h
theorem Kn_le {π : Nat → Nat} : ∀ i, Kn π i ≤ i
  | 0 => Nat.le_refl _
  | i + 1 => by
    have ih := Kn_le (π := π) i
    by_cases c : Sta π i
    · rw [Kn_s c]; omega
    · rw [Kn_n c]; omega
theorem Kn_mono {π : Nat → Nat} {a : Nat} : ∀ d, Kn π a ≤ Kn π (a + d)
  | 0 => Nat.le_refl _
  | d + 1 => by
    have ih := Kn_mono (π := π) (a := a) d
    by_cases c : Sta π (a + d)
    · rw [← Nat.add_assoc, Kn_s c]; omega
    · rw [← Nat.add_assoc, Kn_n c]; exact ih
theorem Kn_inj {π : Nat → Nat} {a b : Nat} (ha : Sta π a) (hb : Sta π b) (e : Kn π a = Kn π b) : a = b := by
  by_cases c : a < b
  · have := Kn_mono (π := π) (a := a + 1) (b - (a + 1))
    rw [show a + 1 + (b - (a + 1)) = b by omega, Kn_s ha] at this
    omega
  · by_cases c2 : b < a
    · have := Kn_mono (π := π) (a := b + 1) (a - (b + 1))
      rw [show b + 1 + (a - (b + 1)) = a by omega, Kn_s hb] at this
      omega
    · omega
/-- all are named: who has the same name -/
theorem Nmd.fin {P : Nat} {π nf : Nat → Nat} {f : Nat → Int32} (hp : PB P π) (hn : ∀ s, s < P → nf s ≤ 41) (hi : ∀ a b, Sta π a → Sta π b → nf a = nf b → a = b) (h : Nmd P π nf P f) : ∀ x, x < P → (f x = nI (tn (f x)) ∧ tn (f x) < 42) ∧ tn (f (π x)) = tn (f x) ∧ ∀ y, y < P → (f x = f y ↔ Rch π x y) ∧ (tn (f x) = tn (f y) ↔ Rch π x y) := by
  have nm : ∀ x, x < P → ∃ s, s < P ∧ Sta π s ∧ Rch π s x ∧ f x = nI (nf s) ∧ nf s ≤ 41 := fun x hx => by
    rcases h x hx with ⟨_, q⟩ | ⟨s, s1, s2, s3, s4⟩
    · exact absurd Rch.rf (q x hx)
    · exact ⟨s, s1, s2, s3, s4, hn s s1⟩
  have uniq : ∀ s t x, s < P → t < P → Sta π s → Sta π t → Rch π s x → Rch π t x → s = t := fun s t x hs ht a b r1 r2 => by
    have st : Rch π s t := r1.tr (r2.sy hp ht)
    have ts : Rch π t s := r2.tr (r1.sy hp hs)
    by_cases c : s < t
    · exact absurd st (b s c)
    · by_cases c2 : t < s
      · exact absurd ts (a t c2)
      · omega
  intro x hx
  obtain ⟨s, s1, s2, s3, s4, s5⟩ := nm x hx
  have ex : tn (f x) = nf s := by rw [s4, tn_n (by omega)]
  have both : ∀ y, y < P → (f x = f y ↔ Rch π x y) ∧ (tn (f x) = tn (f y) ↔ Rch π x y) := fun y hy => by
    obtain ⟨t, t1, t2, t3, t4, t5⟩ := nm y hy
    have ey : tn (f y) = nf t := by rw [t4, tn_n (by omega)]
    have k : nf s = nf t ↔ Rch π x y := by
      constructor
      · intro e
        have := hi s t s2 t2 e
        subst this
        exact (s3.sy hp s1).tr t3
      · intro r
        rw [uniq s t y s1 t1 s2 t2 (s3.tr r) t3]
    refine ⟨?_, by rw [ex, ey]; exact k⟩
    rw [s4, t4]
    constructor
    · intro e
      exact k.mp (nI_inj (by omega) (by omega) e)
    · intro r
      rw [k.mpr r]
  refine ⟨⟨by rw [ex]; exact s4, by omega⟩, ?_, both⟩
  exact ((both (π x) (hp.1 x hx)).2.mpr Rch.one).symm
