/-! one ring is left -/
def Ldn (s : Nat → Bool) : Nat → List Nat
  | 0 => []
  | n + 1 => if s n = true then n :: Ldn s n else Ldn s n
def Lup (s : Nat → Bool) : Nat → Nat → List Nat
  | 0, _ => []
  | d + 1, i => if s i = true then i :: Lup s d (i + 1) else Lup s d (i + 1)
theorem Ldn_mem {s : Nat → Bool} {k : Nat} : ∀ {n : Nat}, k ∈ Ldn s n ↔ k < n ∧ s k = true
  | 0 => ⟨fun h => absurd h (List.not_mem_nil), fun h => by omega⟩
  | n + 1 => by
    unfold Ldn
    by_cases c : s n = true
    · rw [if_pos c, List.mem_cons, Ldn_mem]
      constructor
      · rintro (h | ⟨h1, h2⟩)
        · rw [h]; exact ⟨by omega, c⟩
        · exact ⟨by omega, h2⟩
      · rintro ⟨h1, h2⟩
        by_cases e : k = n
        · exact Or.inl e
        · exact Or.inr ⟨by omega, h2⟩
    · rw [if_neg c, Ldn_mem]
      constructor
      · rintro ⟨h1, h2⟩
        exact ⟨by omega, h2⟩
      · rintro ⟨h1, h2⟩
        refine ⟨?_, h2⟩
        by_cases e : k = n
        · rw [e] at h2; exact absurd h2 c
        · omega
theorem Lup_mem {s : Nat → Bool} {k : Nat} : ∀ {d i : Nat}, k ∈ Lup s d i ↔ (i ≤ k ∧ k < i + d) ∧ s k = true
  | 0, i => ⟨fun h => absurd h (List.not_mem_nil), fun h => by omega⟩
  | d + 1, i => by
    unfold Lup
    by_cases c : s i = true
    · rw [if_pos c, List.mem_cons, Lup_mem]
      constructor
      · rintro (h | ⟨h1, h2⟩)
        · rw [h]; exact ⟨by omega, c⟩
        · exact ⟨by omega, h2⟩
      · rintro ⟨h1, h2⟩
        by_cases e : k = i
        · exact Or.inl e
        · exact Or.inr ⟨by omega, h2⟩
    · rw [if_neg c, Lup_mem]
      constructor
      · rintro ⟨h1, h2⟩
        exact ⟨by omega, h2⟩
      · rintro ⟨h1, h2⟩
        refine ⟨?_, h2⟩
        by_cases e : k = i
        · rw [e] at h2; exact absurd h2 c
        · omega
theorem smN_front {f : Nat → Nat} : ∀ n, smN f (n + 1) = f 0 + smN (fun k => f (k + 1)) n
  | 0 => by
    show 0 + f 0 = f 0 + 0
    omega
  | n + 1 => by
    have ih := smN_front (f := f) n
    show smN f (n + 1) + f (n + 1) = f 0 + (smN (fun k => f (k + 1)) n + f (n + 1))
    omega
theorem Ldn_len {s : Nat → Bool} : ∀ n, (Ldn s n).length = smN (fun k => if s k = true then 1 else 0) n
  | 0 => rfl
  | n + 1 => by
    have ih := Ldn_len (s := s) n
    show (Ldn s (n + 1)).length = smN (fun k => if s k = true then 1 else 0) n + (if s n = true then 1 else 0)
    unfold Ldn
    by_cases c : s n = true
    · rw [if_pos c, if_pos c, List.length_cons, ih]
    · rw [if_neg c, if_neg c, ih, Nat.add_zero]
theorem Lup_len {s : Nat → Bool} : ∀ d i, (Lup s d i).length = smN (fun k => if s (i + k) = true then 1 else 0) d
  | 0, _ => rfl
  | d + 1, i => by
    have ih := Lup_len (s := s) d (i + 1)
    rw [smN_front]
    have e : smN (fun k => if s (i + (k + 1)) = true then 1 else 0) d = smN (fun k => if s (i + 1 + k) = true then 1 else 0) d := smN_congr d (fun k _ => by rw [show i + (k + 1) = i + 1 + k by omega])
    show (Lup s (d + 1) i).length = (if s (i + 0) = true then 1 else 0) + smN (fun k => if s (i + (k + 1)) = true then 1 else 0) d
    rw [e, ← ih, show i + 0 = i from rfl, show Lup s (d + 1) i = if s i = true then i :: Lup s d (i + 1) else Lup s d (i + 1) from rfl]
    by_cases c : s i = true
    · rw [if_pos c, if_pos c, List.length_cons]; omega
    · rw [if_neg c, if_neg c]; omega
theorem smN_add {f g : Nat → Nat} : ∀ n, smN f n + smN g n = smN (fun k => f k + g k) n
  | 0 => rfl
  | n + 1 => by
    have ih := smN_add (f := f) (g := g) n
    show smN f n + f n + (smN g n + g n) = smN (fun k => f k + g k) n + (f n + g n)
    omega
def sD (tk : Nat → Nat) (ea : Nat → Bool) (k : Nat) : Bool := decide (tk k = 1) && !ea k
def sU (tk : Nat → Nat) (ea : Nat → Bool) (k : Nat) : Bool := decide (tk k = 1) && ea k
def jL (tk : Nat → Nat) (ea : Nat → Bool) (M : Nat) : List Nat := Ldn (sD tk ea) M ++ Lup (sU tk ea) M 0
theorem jL_mem {tk : Nat → Nat} {ea : Nat → Bool} {M k : Nat} : k ∈ jL tk ea M ↔ k < M ∧ tk k = 1 := by
  unfold jL
  rw [List.mem_append, Ldn_mem, Lup_mem]
  unfold sD sU
  rw [Bool.and_eq_true, Bool.and_eq_true, decide_eq_true_iff]
  constructor
  · rintro (⟨h1, h2, h3⟩ | ⟨⟨h1, h2⟩, h3, h4⟩)
    · exact ⟨h1, h2⟩
    · exact ⟨by omega, h3⟩
  · rintro ⟨h1, h2⟩
    cases e : ea k with
    | false => exact Or.inl ⟨h1, h2, rfl⟩
    | true => exact Or.inr ⟨⟨by omega, by omega⟩, h2, rfl⟩
theorem jL_len {tk : Nat → Nat} {ea : Nat → Bool} {M : Nat} (h : ∀ k, tk k ≤ 1) : (jL tk ea M).length = smN tk M := by
  unfold jL
  rw [List.length_append, Ldn_len, Lup_len, smN_add]
  refine smN_congr M (fun k _ => ?_)
  have := h k
  rw [show 0 + k = k by omega]
  unfold sD sU
  have t : tk k = 0 ∨ tk k = 1 := by omega
  rcases t with t | t <;> cases e : ea k <;> rw [t] <;> rfl
theorem cnQ_1 {P L : Nat} {h : Nat → Nat} (hP : 1 ≤ P) (hL : ∀ x, x < P → h x < L) (hc : ∀ x, x < P → h x = h 0) : cnQ (prs P h) L = 1 := by
  have := cnQ_drop (Q := prs P h) (Q' := fun _ => False) (B := h 0) ⟨0, by omega, rfl⟩ (fun q => q) (fun v hv => ⟨fun q => q.elim, fun ⟨x, hx, e⟩ => hv (e.symm.trans (hc x hx))⟩) L (hL 0 (by omega))
  rw [cnQ_0 L (fun v _ q => q)] at this
  omega
theorem one_ring {P M L : Nat} {u b f0 π : Nat → Nat} {w : Nat → Int32} {ea : Nat → Bool} (hM : M + 1 = P) (hu : ∀ i, i < P → u i < P) (hus : ∀ x, x < P → ∃ i, i < P ∧ u i = x) (hb : ∀ t, t < M → b t < M) (hbi : ∀ s t, s < t → t < M → b s ≠ b t) (hbs : ∀ k, k < M → ∃ t, t < M ∧ b t = k) (hL : ∀ x, x < P → f0 x < L) (hp : PB P π) (i1 : ∀ x, x < P → f0 (π x) = f0 x) (i2 : ∀ x y, x < P → y < P → f0 x = f0 y → Rch π x y) :
    PB P (exL u (jL (kr u w b f0 M).2.1 ea M) π) ∧ ∀ x y, x < P → y < P → Rch (exL u (jL (kr u w b f0 M).2.1 ea M) π) x y := by
  obtain ⟨a1, a2, a3, a4, a5, a6, a7, a8⟩ := kr_inv (w := w) hM hu hb hbi hL M (Nat.le_refl _)
  obtain ⟨l, hl⟩ : ∃ l, l = jL (kr u w b f0 M).2.1 ea M := ⟨_, rfl⟩
  rw [← hl]
  have mem : ∀ k, k ∈ l ↔ k < M ∧ (kr u w b f0 M).2.1 k = 1 := fun k => by rw [hl]; exact jL_mem
  have len : l.length = (kr u w b f0 M).2.2.1 := by rw [hl, jL_len a5, a3]
  -- all have one label
  have step : ∀ k, k < M → (kr u w b f0 M).1 (u k) = (kr u w b f0 M).1 (u (k + 1)) := fun k hk => by
    obtain ⟨t, ht, e⟩ := hbs k hk
    rw [← e]
    exact a6 t ht
  have chain : ∀ i, i < P → (kr u w b f0 M).1 (u i) = (kr u w b f0 M).1 (u 0) := fun i => by
    induction i with
    | zero => intro _; rfl
    | succ i ih => intro hi; rw [← step i (by omega)]; exact ih (by omega)
  have one : ∀ x, x < P → (kr u w b f0 M).1 x = (kr u w b f0 M).1 (u 0) := fun x hx => by
    obtain ⟨i, hi, e⟩ := hus x hx
    rw [← e]
    exact chain i hi
  have c1 := cnQ_1 (by omega) a1 (fun x hx => (one x hx).trans (one 0 (by omega)).symm)
  have same : ∀ x y, x < P → y < P → lbL u l f0 x = lbL u l f0 y := fun x y hx hy => a7 (lbL u l f0) (fun x y _ _ e => lbL_resp l f0 x y e) (fun k hk e => lbL_edge l f0 k ((mem k).mpr ⟨hk, e⟩)) x y hx hy ((one x hx).trans (one y hy).symm)
  have hlk : ∀ k, k ∈ l → k + 1 < P := fun k hk => by have := (mem k).mp hk; omega
  have lt : ∀ (l : List Nat) (h : Nat → Nat), (∀ k, k ∈ l → k + 1 < P) → (∀ x, x < P → h x < L) → ∀ x, x < P → lbL u l h x < L := fun l => by
    induction l with
    | nil => intro h _ q; exact q
    | cons k ks ih =>
      intro h q1 q2
      exact ih _ (fun j hj => q1 j (List.mem_cons_of_mem _ hj)) (rn_lt (hu k (by have := q1 k List.mem_cons_self; omega)) q2)
  have c2 := cnQ_1 (by omega) (lt l f0 hlk hL) (fun x hx => same x 0 hx (by omega))
  obtain ⟨r1, r2⟩ := forest hu l π f0 hlk hL hp i1 i2 (by omega)
  exact ⟨r1, fun x y hx hy => r2 x y hx hy (same x y hx hy)⟩
