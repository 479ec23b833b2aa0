/-! joins that are taken leave one ring, in whatever order they are done -/
noncomputable def cnQ (Q : Nat → Prop) : Nat → Nat
  | 0 => 0
  | n + 1 => cnQ Q n + @ite _ (Q n) (Classical.propDecidable _) 1 0
theorem cnQ_y {Q : Nat → Prop} {n : Nat} (h : Q n) : cnQ Q (n + 1) = cnQ Q n + 1 := by
  show cnQ Q n + @ite _ (Q n) (Classical.propDecidable _) 1 0 = _
  rw [if_pos h]
theorem cnQ_n {Q : Nat → Prop} {n : Nat} (h : ¬ Q n) : cnQ Q (n + 1) = cnQ Q n := by
  show cnQ Q n + @ite _ (Q n) (Classical.propDecidable _) 1 0 = _
  rw [if_neg h, Nat.add_zero]
theorem cnQ_congr {Q Q' : Nat → Prop} : ∀ n, (∀ v, v < n → (Q v ↔ Q' v)) → cnQ Q n = cnQ Q' n
  | 0, _ => rfl
  | n + 1, h => by
    have ih := cnQ_congr n (fun v hv => h v (by omega))
    by_cases c : Q n
    · rw [cnQ_y c, cnQ_y ((h n (by omega)).mp c), ih]
    · rw [cnQ_n c, cnQ_n (fun q => c ((h n (by omega)).mpr q)), ih]
theorem cnQ_drop {Q Q' : Nat → Prop} {B : Nat} (h1 : Q B) (h2 : ¬ Q' B) (h3 : ∀ v, v ≠ B → (Q' v ↔ Q v)) : ∀ n, B < n → cnQ Q' n + 1 = cnQ Q n
  | 0, h => by omega
  | n + 1, h => by
    by_cases e : B = n
    · subst e
      rw [cnQ_n h2, cnQ_y h1, cnQ_congr B (fun v hv => h3 v (by omega))]
    · have ih := cnQ_drop h1 h2 h3 n (by omega)
      by_cases c : Q n
      · rw [cnQ_y c, cnQ_y ((h3 n (Ne.symm e)).mpr c), ← ih]
      · rw [cnQ_n c, cnQ_n (fun q => c ((h3 n (Ne.symm e)).mp q)), ih]
theorem cnQ_0 {Q : Nat → Prop} : ∀ n, (∀ v, v < n → ¬ Q v) → cnQ Q n = 0
  | 0, _ => rfl
  | n + 1, h => by rw [cnQ_n (h n (by omega)), cnQ_0 n (fun v hv => h v (by omega))]
/-- the labels that there are -/
def prs (P : Nat) (h : Nat → Nat) (v : Nat) : Prop := ∃ x, x < P ∧ h x = v
def swN (π : Nat → Nat) (a b : Nat) : Nat → Nat := fun x => if x = a then π b else if x = b then π a else π x
def rn (h : Nat → Nat) (a b : Nat) : Nat → Nat := fun x => if h x = h b then h a else h x
theorem rn_same {h : Nat → Nat} {a b : Nat} (e : h a = h b) : rn h a b = h := by
  funext x
  unfold rn
  by_cases c : h x = h b
  · rw [if_pos c, c, e]
  · rw [if_neg c]
theorem rn_drop {P L a b : Nat} {h : Nat → Nat} (ha : a < P) (hb : b < P) (hL : ∀ x, x < P → h x < L) (ne : h a ≠ h b) : cnQ (prs P (rn h a b)) L + 1 = cnQ (prs P h) L := by
  refine cnQ_drop (B := h b) ⟨b, hb, rfl⟩ ?_ ?_ L (hL b hb)
  · rintro ⟨x, hx, e⟩
    unfold rn at e
    by_cases c : h x = h b
    · rw [if_pos c] at e; exact ne e
    · rw [if_neg c] at e; exact c e
  · intro v hv
    constructor
    · rintro ⟨x, hx, e⟩
      unfold rn at e
      by_cases c : h x = h b
      · rw [if_pos c] at e; exact ⟨a, ha, e⟩
      · rw [if_neg c] at e; exact ⟨x, hx, e⟩
    · rintro ⟨x, hx, e⟩
      refine ⟨x, hx, ?_⟩
      unfold rn
      rw [if_neg (fun q => hv (e.symm.trans q)), e]
theorem rn_lt {P L a b : Nat} {h : Nat → Nat} (ha : a < P) (hL : ∀ x, x < P → h x < L) : ∀ x, x < P → rn h a b x < L := fun x hx => by
  unfold rn
  by_cases c : h x = h b
  · rw [if_pos c]; exact hL a ha
  · rw [if_neg c]; exact hL x hx
theorem rn_resp {h : Nat → Nat} {a b x y : Nat} (e : h x = h y) : rn h a b x = rn h a b y := by
  unfold rn
  rw [e]
theorem rn_ab {h : Nat → Nat} {a b : Nat} : rn h a b a = rn h a b b := by
  unfold rn
  rw [if_pos (show h b = h b from rfl)]
  by_cases c : h a = h b
  · rw [if_pos c]
  · rw [if_neg c]
theorem swN_pb {P a b : Nat} {π : Nat → Nat} (h : PB P π) (ha : a < P) (hb : b < P) : PB P (swN π a b) := by
  have key : ∀ x, x < P → ∃ y, y < P ∧ swN π a b x = π y ∧ ((x = a ∧ y = b) ∨ (x ≠ a ∧ x = b ∧ y = a) ∨ (x ≠ a ∧ x ≠ b ∧ y = x)) := fun x hx => by
    unfold swN
    by_cases c1 : x = a
    · exact ⟨b, hb, if_pos c1, Or.inl ⟨c1, rfl⟩⟩
    · by_cases c2 : x = b
      · exact ⟨a, ha, by rw [if_neg c1, if_pos c2], Or.inr (Or.inl ⟨c1, c2, rfl⟩)⟩
      · exact ⟨x, hx, by rw [if_neg c1, if_neg c2], Or.inr (Or.inr ⟨c1, c2, rfl⟩)⟩
  refine ⟨fun x hx => ?_, fun x y hx hy e => ?_⟩
  · obtain ⟨z, hz, e, -⟩ := key x hx
    rw [e]
    exact h.1 z hz
  · obtain ⟨z, hz, ez, cz⟩ := key x hx
    obtain ⟨t, ht, et, ct⟩ := key y hy
    rw [ez, et] at e
    have := h.2 z t hz ht e
    omega
def exL (u : Nat → Nat) : List Nat → (Nat → Nat) → Nat → Nat
  | [], π => π
  | k :: ks, π => exL u ks (swN π (u k) (u (k + 1)))
def lbL (u : Nat → Nat) : List Nat → (Nat → Nat) → Nat → Nat
  | [], h => h
  | k :: ks, h => lbL u ks (rn h (u k) (u (k + 1)))
theorem exL_app {u : Nat → Nat} : ∀ (l l' : List Nat) (π : Nat → Nat), exL u (l ++ l') π = exL u l' (exL u l π)
  | [], _, _ => rfl
  | _ :: ks, l', _ => exL_app ks l' _
theorem lbL_resp {u : Nat → Nat} : ∀ (l : List Nat) (h : Nat → Nat) (x y : Nat), h x = h y → lbL u l h x = lbL u l h y
  | [], _, _, _, e => e
  | k :: ks, h, x, y, e => lbL_resp ks _ x y (rn_resp e)
theorem lbL_edge {u : Nat → Nat} : ∀ (l : List Nat) (h : Nat → Nat) (k : Nat), k ∈ l → lbL u l h (u k) = lbL u l h (u (k + 1))
  | [], _, _, e => absurd e (List.not_mem_nil)
  | j :: ks, h, k, e => by
    rcases List.mem_cons.mp e with e | e
    · subst e
      exact lbL_resp ks _ _ _ rn_ab
    · exact lbL_edge ks _ k e
theorem lbL_ge {P L : Nat} {u : Nat → Nat} (hu : ∀ i, i < P → u i < P) : ∀ (l : List Nat) (h : Nat → Nat), (∀ k, k ∈ l → k + 1 < P) → (∀ x, x < P → h x < L) → cnQ (prs P h) L ≤ cnQ (prs P (lbL u l h)) L + l.length
  | [], _, _, _ => Nat.le_refl _
  | k :: ks, h, hk, hL => by
    have k1 := hk k List.mem_cons_self
    have ih := lbL_ge hu ks (rn h (u k) (u (k + 1))) (fun j hj => hk j (List.mem_cons_of_mem _ hj)) (rn_lt (hu k (by omega)) hL)
    show _ ≤ cnQ (prs P (lbL u ks (rn h (u k) (u (k + 1))))) L + (ks.length + 1)
    by_cases c : h (u k) = h (u (k + 1))
    · rw [rn_same c] at ih ⊢
      omega
    · have := rn_drop (hu k (by omega)) (hu (k + 1) k1) hL c
      omega
/-- done in any order, if each is needed -/
theorem forest {P L : Nat} {u : Nat → Nat} (hu : ∀ i, i < P → u i < P) : ∀ (l : List Nat) (π h : Nat → Nat), (∀ k, k ∈ l → k + 1 < P) → (∀ x, x < P → h x < L) → PB P π → (∀ x, x < P → h (π x) = h x) → (∀ x y, x < P → y < P → h x = h y → Rch π x y) → cnQ (prs P h) L = cnQ (prs P (lbL u l h)) L + l.length → PB P (exL u l π) ∧ ∀ x y, x < P → y < P → lbL u l h x = lbL u l h y → Rch (exL u l π) x y
  | [], π, h, _, _, hp, i1, i2, _ => ⟨hp, i2⟩
  | k :: ks, π, h, hk, hL, hp, i1, i2, hc => by
    have k1 := hk k List.mem_cons_self
    have ha := hu k (by omega)
    have hb := hu (k + 1) k1
    have hk' : ∀ j, j ∈ ks → j + 1 < P := fun j hj => hk j (List.mem_cons_of_mem _ hj)
    have hL' := rn_lt (b := u (k + 1)) ha hL
    have ge := lbL_ge hu ks (rn h (u k) (u (k + 1))) hk' hL'
    have hc' : cnQ (prs P h) L = cnQ (prs P (lbL u ks (rn h (u k) (u (k + 1))))) L + (ks.length + 1) := hc
    have ne : h (u k) ≠ h (u (k + 1)) := fun c => by
      rw [rn_same c] at ge hc'
      omega
    have dr := rn_drop ha hb hL ne
    have nab : u k ≠ u (k + 1) := fun q => ne (by rw [q])
    obtain ⟨j1, j2⟩ := merge (π' := swN π (u k) (u (k + 1))) (h' := rn h (u k) (u (k + 1))) hp ha hb ne (if_pos rfl) (by
      unfold swN
      rw [if_neg (Ne.symm nab), if_pos rfl]) (fun x q1 q2 => by
      unfold swN
      rw [if_neg q1, if_neg q2]) i1 i2 (fun x _ => rfl)
    exact forest hu ks _ _ hk' hL' (swN_pb hp ha hb) j1 j2 (by omega)
/-- which joins are taken -/
def kr (u : Nat → Nat) (w : Nat → Int32) (b : Nat → Nat) (f0 : Nat → Nat) : Nat → (Nat → Nat) × (Nat → Nat) × Nat × Int32
  | 0 => (f0, fun _ => 0, 0, 0)
  | t + 1 => if (kr u w b f0 t).1 (u (b t)) = (kr u w b f0 t).1 (u (b t + 1)) then kr u w b f0 t else (rn (kr u w b f0 t).1 (u (b t)) (u (b t + 1)), fun k => if k = b t then 1 else (kr u w b f0 t).2.1 k, (kr u w b f0 t).2.2.1 + 1, (kr u w b f0 t).2.2.2 + w (b t))
theorem kr_n {u b f0 : Nat → Nat} {w : Nat → Int32} {t : Nat} (h : (kr u w b f0 t).1 (u (b t)) = (kr u w b f0 t).1 (u (b t + 1))) : kr u w b f0 (t + 1) = kr u w b f0 t := if_pos h
theorem kr_y {u b f0 : Nat → Nat} {w : Nat → Int32} {t : Nat} (h : ¬ (kr u w b f0 t).1 (u (b t)) = (kr u w b f0 t).1 (u (b t + 1))) : kr u w b f0 (t + 1) = (rn (kr u w b f0 t).1 (u (b t)) (u (b t + 1)), fun k => if k = b t then 1 else (kr u w b f0 t).2.1 k, (kr u w b f0 t).2.2.1 + 1, (kr u w b f0 t).2.2.2 + w (b t)) := if_neg h
def smN (f : Nat → Nat) : Nat → Nat
  | 0 => 0
  | n + 1 => smN f n + f n
theorem smN_congr {f g : Nat → Nat} : ∀ n, (∀ i, i < n → f i = g i) → smN f n = smN g n
  | 0, _ => rfl
  | n + 1, h => by
    show smN f n + f n = smN g n + g n
    rw [smN_congr n (fun i hi => h i (by omega)), h n (by omega)]
theorem smN_up {f : Nat → Nat} {j : Nat} (hj : f j = 0) : ∀ n, j < n → smN (fun k => if k = j then 1 else f k) n = smN f n + 1
  | 0, h => by omega
  | n + 1, h => by
    show smN (fun k => if k = j then 1 else f k) n + (if n = j then 1 else f n) = smN f n + f n + 1
    by_cases e : n = j
    · subst e
      rw [if_pos rfl, hj, smN_congr n (fun i hi => by show (if i = n then 1 else f i) = f i; rw [if_neg (by omega)])]
    · rw [if_neg e, smN_up hj n (by omega)]
      omega
theorem kr_inv {P M L : Nat} {u b f0 : Nat → Nat} {w : Nat → Int32} (hM : M + 1 = P) (hu : ∀ i, i < P → u i < P) (hb : ∀ t, t < M → b t < M) (hbi : ∀ s t, s < t → t < M → b s ≠ b t) (hL : ∀ x, x < P → f0 x < L) : ∀ t, t ≤ M →
    (∀ x, x < P → (kr u w b f0 t).1 x < L) ∧ cnQ (prs P (kr u w b f0 t).1) L + (kr u w b f0 t).2.2.1 = cnQ (prs P f0) L ∧ smN (kr u w b f0 t).2.1 M = (kr u w b f0 t).2.2.1 ∧ (∀ k, k < M → (∀ s, s < t → b s ≠ k) → (kr u w b f0 t).2.1 k = 0) ∧ (∀ k, (kr u w b f0 t).2.1 k ≤ 1) ∧ (∀ s, s < t → (kr u w b f0 t).1 (u (b s)) = (kr u w b f0 t).1 (u (b s + 1))) ∧
    (∀ h : Nat → Nat, (∀ x y, x < P → y < P → f0 x = f0 y → h x = h y) → (∀ k, k < M → (kr u w b f0 t).2.1 k = 1 → h (u k) = h (u (k + 1))) → ∀ x y, x < P → y < P → (kr u w b f0 t).1 x = (kr u w b f0 t).1 y → h x = h y) ∧ (kr u w b f0 t).2.2.1 ≤ t
  | 0, _ => ⟨hL, Nat.add_zero _, by
      show smN (fun _ => 0) M = 0
      have : ∀ n, smN (fun _ => 0) n = 0 := fun n => by
        induction n with
        | zero => rfl
        | succ n ih => exact ih
      exact this M, fun _ _ _ => rfl, fun _ => by show 0 ≤ 1; omega, fun s hs => by omega, fun h h1 _ x y hx hy e => h1 x y hx hy e, Nat.le_refl _⟩
  | t + 1, ht => by
    obtain ⟨a1, a2, a3, a4, a5, a6, a7, a8⟩ := kr_inv (w := w) hM hu hb hbi hL t (by omega)
    have bt := hb t (by omega)
    have ua := hu (b t) (by omega)
    have ub := hu (b t + 1) (by omega)
    by_cases c : (kr u w b f0 t).1 (u (b t)) = (kr u w b f0 t).1 (u (b t + 1))
    · rw [kr_n c]
      refine ⟨a1, a2, a3, fun k hk hs => a4 k hk (fun s q => hs s (by omega)), a5, fun s hs => ?_, a7, by omega⟩
      by_cases e : s = t
      · rw [e]; exact c
      · exact a6 s (by omega)
    · rw [kr_y c]
      have z : (kr u w b f0 t).2.1 (b t) = 0 := a4 (b t) bt (fun s hs => hbi s t hs (by omega))
      have dr := rn_drop ua ub a1 c
      refine ⟨rn_lt ua a1, ?_, ?_, fun k hk hs => ?_, fun k => ?_, fun s hs => ?_, fun h h1 h2 x y hx hy e => ?_, ?_⟩
      · show cnQ (prs P (rn (kr u w b f0 t).1 (u (b t)) (u (b t + 1)))) L + ((kr u w b f0 t).2.2.1 + 1) = _
        omega
      · show smN (fun k => if k = b t then 1 else (kr u w b f0 t).2.1 k) M = (kr u w b f0 t).2.2.1 + 1
        rw [smN_up z M bt, a3]
      · show (if k = b t then 1 else (kr u w b f0 t).2.1 k) = 0
        rw [if_neg (fun q => hs t (by omega) q.symm)]
        exact a4 k hk (fun s q => hs s (by omega))
      · show (if k = b t then 1 else (kr u w b f0 t).2.1 k) ≤ 1
        by_cases q : k = b t
        · rw [if_pos q]; exact Nat.le_refl _
        · rw [if_neg q]; exact a5 k
      · show rn (kr u w b f0 t).1 (u (b t)) (u (b t + 1)) (u (b s)) = rn (kr u w b f0 t).1 (u (b t)) (u (b t + 1)) (u (b s + 1))
        by_cases q : s = t
        · rw [q]; exact rn_ab
        · exact rn_resp (a6 s (by omega))
      · have h2' : ∀ k, k < M → (kr u w b f0 t).2.1 k = 1 → h (u k) = h (u (k + 1)) := fun k hk q => h2 k hk (by
          show (if k = b t then 1 else (kr u w b f0 t).2.1 k) = 1
          by_cases w' : k = b t
          · rw [if_pos w']
          · rw [if_neg w']; exact q)
        have hab : h (u (b t)) = h (u (b t + 1)) := h2 (b t) bt (if_pos rfl)
        have old := a7 h h1 h2'
        have e' : rn (kr u w b f0 t).1 (u (b t)) (u (b t + 1)) x = rn (kr u w b f0 t).1 (u (b t)) (u (b t + 1)) y := e
        unfold rn at e'
        by_cases cx : (kr u w b f0 t).1 x = (kr u w b f0 t).1 (u (b t + 1))
        · have hx2 := old x _ hx ub cx
          rw [if_pos cx] at e'
          by_cases cy : (kr u w b f0 t).1 y = (kr u w b f0 t).1 (u (b t + 1))
          · exact hx2.trans (old y _ hy ub cy).symm
          · rw [if_neg cy] at e'
            exact hx2.trans (hab.symm.trans (old _ y ua hy e'))
        · rw [if_neg cx] at e'
          by_cases cy : (kr u w b f0 t).1 y = (kr u w b f0 t).1 (u (b t + 1))
          · rw [if_pos cy] at e'
            exact (old x _ hx ua e').trans (hab.trans (old y _ hy ub cy).symm)
          · rw [if_neg cy] at e'
            exact old x y hx hy e'
      · show (kr u w b f0 t).2.2.1 + 1 ≤ t + 1
        omega
