/-! rings as what is reached -/
def itr (π : Nat → Nat) : Nat → Nat → Nat
  | 0, x => x
  | j + 1, x => π (itr π j x)
theorem itr_add {π : Nat → Nat} {b x : Nat} : ∀ a, itr π (a + b) x = itr π a (itr π b x)
  | 0 => by rw [Nat.zero_add]; rfl
  | a + 1 => by
    rw [show a + 1 + b = (a + b) + 1 by omega]
    show π (itr π (a + b) x) = π (itr π a (itr π b x))
    rw [itr_add a]
def Rch (π : Nat → Nat) (x y : Nat) : Prop := ∃ j, itr π j x = y
theorem Rch.rf {π : Nat → Nat} {x : Nat} : Rch π x x := ⟨0, rfl⟩
theorem Rch.tr {π : Nat → Nat} {x y z : Nat} (h1 : Rch π x y) (h2 : Rch π y z) : Rch π x z := by
  obtain ⟨a, rfl⟩ := h1
  obtain ⟨b, rfl⟩ := h2
  exact ⟨b + a, itr_add b⟩
theorem Rch.one {π : Nat → Nat} {x : Nat} : Rch π x (π x) := ⟨1, rfl⟩
def PB (P : Nat) (π : Nat → Nat) : Prop := (∀ x, x < P → π x < P) ∧ ∀ x y, x < P → y < P → π x = π y → x = y
theorem itr_lt {P : Nat} {π : Nat → Nat} (h : PB P π) {x : Nat} (hx : x < P) : ∀ j, itr π j x < P
  | 0 => hx
  | j + 1 => h.1 _ (itr_lt h hx j)
theorem itr_cancel {P : Nat} {π : Nat → Nat} (h : PB P π) {x y : Nat} (hx : x < P) (hy : y < P) : ∀ j, itr π j x = itr π j y → x = y
  | 0, e => e
  | j + 1, e => itr_cancel h hx hy j (h.2 _ _ (itr_lt h hx j) (itr_lt h hy j) e)
/-- so many different numbers below P are at most P -/
theorem pig {P : Nat} {ρ : Nat → Nat} : ∀ k, (∀ i, i < k → ρ i < P) → (∀ i j, i < j → j < k → ρ i ≠ ρ j) → nin ρ k P + k = P
  | 0, _, _ => nin_0 P
  | k + 1, h1, h2 => by
    have ih := pig k (fun i hi => h1 i (by omega)) (fun i j hi hj => h2 i j hi (by omega))
    have s := nin_s (ρ := ρ) (k := k) (fun j hj => h2 j k hj (by omega)) P
    rw [if_pos (h1 k (by omega))] at s
    omega
theorem itr_per {P : Nat} {π : Nat → Nat} (h : PB P π) {x : Nat} (hx : x < P) : ∃ m, 0 < m ∧ m ≤ P ∧ itr π m x = x := by
  by_cases c : ∃ i j, i < j ∧ j < P + 1 ∧ itr π i x = itr π j x
  · obtain ⟨i, j, h1, h2, e⟩ := c
    refine ⟨j - i, by omega, by omega, ?_⟩
    have e2 : itr π i (itr π (j - i) x) = itr π i x := by
      rw [← itr_add, show i + (j - i) = j by omega, e]
    exact itr_cancel h (itr_lt h hx _) hx i e2
  · have := pig (P := P) (ρ := fun i => itr π i x) (P + 1) (fun i _ => itr_lt h hx i) (fun i j h1 h2 e => c ⟨i, j, h1, h2, e⟩)
    omega
theorem itr_mul {π : Nat → Nat} {x m : Nat} (h : itr π m x = x) : ∀ k, itr π (m * k) x = x
  | 0 => rfl
  | k + 1 => by rw [Nat.mul_succ, itr_add, h, itr_mul h k]
theorem Rch.sy {P : Nat} {π : Nat → Nat} (h : PB P π) {x y : Nat} (hx : x < P) (r : Rch π x y) : Rch π y x := by
  obtain ⟨k, rfl⟩ := r
  obtain ⟨m, m0, -, e⟩ := itr_per h hx
  have le : k ≤ m * k := Nat.le_mul_of_pos_left k m0
  refine ⟨m * k - k, ?_⟩
  rw [← itr_add, show m * k - k + k = m * k by omega]
  exact itr_mul e k
theorem Rch.lt {P : Nat} {π : Nat → Nat} (h : PB P π) {x y : Nat} (hx : x < P) (r : Rch π x y) : y < P := by
  obtain ⟨k, rfl⟩ := r
  exact itr_lt h hx k
/-- the first time that something is reached -/
theorem first {π : Nat → Nat} {x y : Nat} : ∀ n j, j < n → itr π j x = y → ∃ k, k ≤ j ∧ itr π k x = y ∧ ∀ i, i < k → itr π i x ≠ y
  | 0, j, h, _ => by omega
  | n + 1, j, h, e => by
    by_cases c : ∃ i, i < j ∧ itr π i x = y
    · obtain ⟨i, hi, ei⟩ := c
      obtain ⟨k, k1, k2, k3⟩ := first n i (by omega) ei
      exact ⟨k, by omega, k2, k3⟩
    · exact ⟨j, Nat.le_refl _, e, fun i hi ei => c ⟨i, hi, ei⟩⟩
/-- along the same way, as long as nothing is met that has changed -/
theorem itr_same {π π' : Nat → Nat} {x : Nat} : ∀ k, (∀ i, i < k → π' (itr π i x) = π (itr π i x)) → itr π' k x = itr π k x
  | 0, _ => rfl
  | k + 1, h => by
    show π' (itr π' k x) = π (itr π k x)
    rw [itr_same k (fun i hi => h i (by omega)), h k (by omega)]
/-- two rings become one -/
theorem merge {P a b : Nat} {π π' h h' : Nat → Nat} (hp : PB P π) (ha : a < P) (hb : b < P) (hab : h a ≠ h b) (e1 : π' a = π b) (e2 : π' b = π a) (e3 : ∀ x, x ≠ a → x ≠ b → π' x = π x) (i1 : ∀ x, x < P → h (π x) = h x) (i2 : ∀ x y, x < P → y < P → h x = h y → Rch π x y) (hh : ∀ x, x < P → h' x = if h x = h b then h a else h x) :
    (∀ x, x < P → h' (π' x) = h' x) ∧ ∀ x y, x < P → y < P → h' x = h' y → Rch π' x y := by
  have nab : a ≠ b := fun q => hab (by rw [q])
  have lab : ∀ x, x < P → ∀ j, h (itr π j x) = h x := fun x hx j => by
    induction j with
    | zero => rfl
    | succ j ih => exact (i1 _ (itr_lt hp hx j)).trans ih
  -- from x to c, whose label it has, on the new way
  have toC : ∀ x c d, x < P → c < P → h x = h c → h c ≠ h d → (∀ z, z ≠ c → z ≠ d → π' z = π z) → Rch π' x c := fun x c d hx hc e ne hz => by
    obtain ⟨j, ej⟩ := i2 x c hx hc e
    obtain ⟨k, -, k2, k3⟩ := first (j + 1) j (by omega) ej
    refine ⟨k, ?_⟩
    rw [itr_same k (fun i hi => hz _ (k3 i hi) (fun q => ne (by rw [← q, lab x hx i, e])))]
    exact k2
  -- from what stands behind d to y, which has d's label
  have fromD : ∀ y c d, y < P → d < P → h y = h d → h c ≠ h d → (∀ z, z ≠ c → z ≠ d → π' z = π z) → Rch π' (π d) y := fun y c d hy hd e ne hz => by
    have hpd := hp.1 d hd
    obtain ⟨j, ej⟩ := i2 (π d) y hpd hy (by rw [i1 d hd, e])
    obtain ⟨k, -, k2, k3⟩ := first (j + 1) j (by omega) ej
    refine ⟨k, ?_⟩
    rw [itr_same k (fun i hi => hz _ (fun q => ne (by rw [← q, lab (π d) hpd i, i1 d hd])) (fun q => ?_))]
    · exact k2
    · have e4 : itr π (i + 1) (π d) = π d := by
        show π (itr π i (π d)) = π d
        rw [q]
      have e5 : itr π (k - (i + 1)) (π d) = y := by
        rw [← k2]
        rw [show itr π k (π d) = itr π (k - (i + 1)) (itr π (i + 1) (π d)) from by rw [← itr_add, show k - (i + 1) + (i + 1) = k by omega], e4]
      exact k3 _ (by omega) e5
  have e3' : ∀ z, z ≠ b → z ≠ a → π' z = π z := fun z q1 q2 => e3 z q2 q1
  have AB : ∀ y, y < P → h y = h b → Rch π' a y := fun y hy e => (Rch.one (π := π') (x := a)).tr (by rw [e1]; exact fromD y a b hy hb e hab e3)
  have BA : ∀ y, y < P → h y = h a → Rch π' b y := fun y hy e => (Rch.one (π := π') (x := b)).tr (by rw [e2]; exact fromD y b a hy ha e (Ne.symm hab) e3')
  have aAll : ∀ y, y < P → (h y = h a ∨ h y = h b) → Rch π' a y := fun y hy e => by
    rcases e with e | e
    · exact (AB b hb rfl).tr (BA y hy e)
    · exact AB y hy e
  have bAll : ∀ y, y < P → (h y = h a ∨ h y = h b) → Rch π' b y := fun y hy e => by
    rcases e with e | e
    · exact BA y hy e
    · exact (BA a ha rfl).tr (AB y hy e)
  refine ⟨fun x hx => ?_, fun x y hx hy e => ?_⟩
  · have hl : π' x < P := by
      by_cases ca : x = a
      · rw [ca, e1]; exact hp.1 b hb
      · by_cases cb : x = b
        · rw [cb, e2]; exact hp.1 a ha
        · rw [e3 x ca cb]; exact hp.1 x hx
    rw [hh _ hl, hh x hx]
    by_cases ca : x = a
    · rw [ca, e1, i1 b hb, if_pos rfl, if_neg hab]
    · by_cases cb : x = b
      · rw [cb, e2, i1 a ha, if_neg hab, if_pos rfl]
      · rw [e3 x ca cb, i1 x hx]
  · rw [hh x hx, hh y hy] at e
    have xo : h x = h a ∨ h x = h b ∨ (h x ≠ h a ∧ h x ≠ h b) := by
      by_cases c1 : h x = h a
      · exact Or.inl c1
      · by_cases c2 : h x = h b
        · exact Or.inr (Or.inl c2)
        · exact Or.inr (Or.inr ⟨c1, c2⟩)
    have yo : (h x = h a ∨ h x = h b) → (h y = h a ∨ h y = h b) := fun q => by
      have e6 : (if h x = h b then h a else h x) = h a := by
        rcases q with q | q
        · rw [q]
          by_cases w : h a = h b
          · rw [if_pos w]
          · rw [if_neg w]
        · rw [if_pos q]
      rw [e6] at e
      by_cases w : h y = h b
      · exact Or.inr w
      · rw [if_neg w] at e
        exact Or.inl e.symm
    rcases xo with q | q | ⟨q1, q2⟩
    · exact (toC x a b hx ha q hab e3).tr (aAll y hy (yo (Or.inl q)))
    · exact (toC x b a hx hb q (Ne.symm hab) e3').tr (bAll y hy (yo (Or.inr q)))
    · rw [if_neg q2] at e
      have q3 : h x = h y := by
        by_cases w : h y = h b
        · rw [if_pos w] at e
          exact absurd e q1
        · rw [if_neg w] at e
          exact e
      obtain ⟨j, ej⟩ := i2 x y hx hy q3
      refine ⟨j, ?_⟩
      rw [itr_same j (fun i hi => e3 _ (fun w => q1 (by rw [← w, lab x hx i])) (fun w => q2 (by rw [← w, lab x hx i])))]
      exact ej
/-- one ring: from each point on all are met, once -/
theorem ring_row {P s : Nat} {π : Nat → Nat} (hp : PB P π) (hs : s < P) (all : ∀ y, y < P → Rch π s y) : ∀ i j, i < j → j < P → itr π i s ≠ itr π j s := by
  intro i j hij hj e
  have e2 : itr π (j - i) s = s := by
    have : itr π i (itr π (j - i) s) = itr π i s := by rw [← itr_add, show i + (j - i) = j by omega, e]
    exact itr_cancel hp (itr_lt hp hs _) hs i this
  have m0 : 0 < j - i := by omega
  -- all are met within the first j - i
  have cov : ∀ y, y < P → ∃ k, k < j - i ∧ itr π k s = y := fun y hy => by
    obtain ⟨t, ht⟩ := all y hy
    obtain ⟨k, k1, k2, k3⟩ := first (t + 1) t (by omega) ht
    by_cases c : k < j - i
    · exact ⟨k, c, k2⟩
    · exfalso
      have : itr π (k - (j - i)) s = y := by
        rw [← k2]
        rw [show itr π k s = itr π (k - (j - i)) (itr π (j - i) s) from by rw [← itr_add, show k - (j - i) + (j - i) = k by omega], e2]
      exact k3 _ (by omega) this
  -- too few for all
  have few : ∀ m, m < P → ∃ v, v < P ∧ ∀ k, k < m → itr π k s ≠ v := fun m hm => by
    by_cases c : ∃ v, v < P ∧ ∀ k, k < m → itr π k s ≠ v
    · exact c
    · exfalso
      have all2 : ∀ v, v < P → ∃ k, k < m ∧ itr π k s = v := fun v hv => by
        by_cases d : ∃ k, k < m ∧ itr π k s = v
        · exact d
        · exact absurd ⟨v, hv, fun k hk q => d ⟨k, hk, q⟩⟩ c
      have ρ : ∃ ρ : Nat → Nat, ∀ v, v < P → ρ v < m ∧ itr π (ρ v) s = v := by
        refine ⟨fun v => if hv : v < P then Classical.choose (all2 v hv) else 0, fun v hv => ?_⟩
        have := Classical.choose_spec (all2 v hv)
        simp only [dif_pos hv]
        exact this
      obtain ⟨ρ, hρ⟩ := ρ
      have := pig (P := m) (ρ := ρ) P (fun i hi => (hρ i hi).1) (fun i j h1 h2 e => by
        have a := (hρ i (by omega)).2
        rw [e, (hρ j h2).2] at a
        omega)
      omega
  obtain ⟨v, hv, hv2⟩ := few (j - i) (by omega)
  obtain ⟨k, hk, hk2⟩ := cov v hv
  exact hv2 k hk hk2
