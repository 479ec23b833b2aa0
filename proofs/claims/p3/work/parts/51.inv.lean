/-! what the class's cells and the reference's have to do with each other between two calls -/
variable {wq : Prop}
/-- all cells but those of the list are as they were, of the reference's own numbers all but those of the second list -/
def Ag (l js : List Nat) (μ μ' : Mem) : Prop := (∀ k, k ≠ 89 → k ∉ l → μ' k = μ k) ∧ ∀ j, j ∉ js → μ' 89 j = μ 89 j
theorem Ag.rf {l js : List Nat} {μ : Mem} : Ag l js μ μ := ⟨fun _ _ _ => rfl, fun _ _ => rfl⟩
theorem Ag.tr {l js : List Nat} {a b c : Mem} (h1 : Ag l js a b) (h2 : Ag l js b c) : Ag l js a c := ⟨fun k h h' => (h2.1 k h h').trans (h1.1 k h h'), fun j h => (h2.2 j h).trans (h1.2 j h)⟩
theorem Ag.mono {l l' js js' : List Nat} {a b : Mem} (h : Ag l js a b) (h1 : ∀ k ∈ l, k ∈ l') (h2 : ∀ k ∈ js, k ∈ js') : Ag l' js' a b := ⟨fun k h9 h' => h.1 k h9 (fun q => h' (h1 k q)), fun j h' => h.2 j (fun q => h' (h2 j q))⟩
theorem Ag.up {l js : List Nat} {μ : Mem} {k : Nat} {g : Nat → Int32} (hk : k ∈ l) (h9 : k ≠ 89) : Ag l js μ (upM μ k g) := ⟨fun a _ h' => upM_ne (fun q => h' (q ▸ hk)), fun j _ => by rw [upM_ne (Ne.symm h9)]⟩
theorem Ag.fl {l js : List Nat} {μ : Mem} {j : Nat} {v : Int32} (hj : j ∈ js) : Ag l js μ (upM μ 89 (upd (μ 89) j v)) := ⟨fun a h _ => upM_ne h, fun i h => by rw [upM_self, upd_ne (fun q => h (by rw [q]; exact hj))]⟩
theorem Ag.at {l js : List Nat} {μ μ' : Mem} (h : Ag l js μ μ') (k : Nat) (hk : k ≠ 89 ∧ k ∉ l := by decide) : μ' k = μ k := h.1 k hk.1 hk.2
theorem Ag.fi {l js : List Nat} {μ μ' : Mem} (h : Ag l js μ μ') (j : Nat) (hj : j ∉ js := by decide) : μ' 89 j = μ 89 j := h.2 j hj
/-- a row of all numbers below N -/
def PermF (f : Nat → Int32) (N : Nat) : Prop := ∃ σ τ : Nat → Nat, (∀ i, i < N → σ i < N ∧ f i = nI (σ i) ∧ τ (σ i) = i) ∧ ∀ i, i < N → τ i < N ∧ σ (τ i) = i
theorem PermF.congr {f g : Nat → Int32} {N : Nat} (h : PermF f N) (e : ∀ i, i < N → g i = f i) : PermF g N := by
  obtain ⟨σ, τ, h1, h2⟩ := h
  exact ⟨σ, τ, fun i hi => ⟨(h1 i hi).1, (e i hi).trans (h1 i hi).2.1, (h1 i hi).2.2⟩, h2⟩
abbrev LT : Type := Int32 × (Nat → Int32) × (Nat → Int32) × (Nat → Int32) × (Nat → Int32) × (Nat → Int32)
def CL (μ : Mem) : LT := (μ 9 6, μ 10, μ 11, μ 12, μ 13, μ 14)
def CS (μ : Mem) (j : Nat) : LT := (μ (18 + 7 * j) 6, μ (19 + 7 * j), μ (20 + 7 * j), μ (21 + 7 * j), μ (22 + 7 * j), μ (23 + 7 * j))
def MT (μ : Mem) (k : Nat) : LT := (μ 94 k, fun i => μ 95 (40 * k + i), fun i => μ 96 (40 * k + i), fun i => μ 97 (40 * k + i), fun i => μ 98 (40 * k + i), fun i => μ 99 (40 * k + i))
def Eq5 (N : Nat) (a b : LT) : Prop := ∀ i, i < N → a.2.1 i = b.2.1 i ∧ a.2.2.1 i = b.2.2.1 i ∧ a.2.2.2.1 i = b.2.2.2.1 i ∧ a.2.2.2.2.1 i = b.2.2.2.2.1 i ∧ a.2.2.2.2.2 i = b.2.2.2.2.2 i
def Ok5 (N : Nat) (a : LT) : Prop := (∀ i, i < N → (∃ x, x ≤ 100000 ∧ a.2.1 i = nI x) ∧ (∃ x, x ≤ 100000 ∧ a.2.2.1 i = nI x) ∧ (∃ x, x ≤ 399 ∧ a.2.2.2.1 i = nI x) ∧ ∃ x, x ≤ 399 ∧ a.2.2.2.2.1 i = nI x) ∧ PermF a.2.2.2.2.2 N
/-- as Eq5, but THE ORDER is alike only if wq is; it is a row of all numbers on both sides -/
def EqW (wq : Prop) (N : Nat) (a b : LT) : Prop := ∀ i, i < N → a.2.1 i = b.2.1 i ∧ a.2.2.1 i = b.2.2.1 i ∧ a.2.2.2.1 i = b.2.2.2.1 i ∧ a.2.2.2.2.1 i = b.2.2.2.2.1 i ∧ (wq → a.2.2.2.2.2 i = b.2.2.2.2.2 i) ∧ PermF b.2.2.2.2.2 N
def RelN (wq : Prop) (N : Nat) (a b : LT) : Prop := N ≤ 40 ∧ a.1 = nI N ∧ b.1 = nI N ∧ EqW wq N a b ∧ Ok5 N a
def Rel (wq : Prop) (a b : LT) : Prop := ∃ N, RelN wq N a b
theorem Eq5.tr {N : Nat} {a b c : LT} (h1 : Eq5 N a b) (h2 : Eq5 N b c) : Eq5 N a c := fun i hi => by
  obtain ⟨a1, a2, a3, a4, a5⟩ := h1 i hi
  obtain ⟨b1, b2, b3, b4, b5⟩ := h2 i hi
  exact ⟨a1.trans b1, a2.trans b2, a3.trans b3, a4.trans b4, a5.trans b5⟩
theorem Eq5.sy {N : Nat} {a b : LT} (h1 : Eq5 N a b) : Eq5 N b a := fun i hi => by
  obtain ⟨a1, a2, a3, a4, a5⟩ := h1 i hi
  exact ⟨a1.symm, a2.symm, a3.symm, a4.symm, a5.symm⟩
theorem Ok5.congr {N : Nat} {a b : LT} (h : Ok5 N a) (e : Eq5 N b a) : Ok5 N b := by
  refine ⟨fun i hi => ?_, h.2.congr (fun i hi => (e i hi).2.2.2.2)⟩
  obtain ⟨⟨x1, l1, q1⟩, ⟨x2, l2, q2⟩, ⟨x3, l3, q3⟩, x4, l4, q4⟩ := h.1 i hi
  obtain ⟨e1, e2, e3, e4, e5⟩ := e i hi
  exact ⟨⟨x1, l1, e1.trans q1⟩, ⟨x2, l2, e2.trans q2⟩, ⟨x3, l3, e3.trans q3⟩, x4, l4, e4.trans q4⟩
theorem EqW.congr {N : Nat} {a b a' b' : LT} (h : EqW wq N a b) (ea : Eq5 N a' a) (eb : Eq5 N b' b) : EqW wq N a' b' := fun i hi => by
  obtain ⟨a1, a2, a3, a4, a5, a6⟩ := h i hi
  obtain ⟨b1, b2, b3, b4, b5⟩ := ea i hi
  obtain ⟨c1, c2, c3, c4, c5⟩ := eb i hi
  exact ⟨(b1.trans a1).trans c1.symm, (b2.trans a2).trans c2.symm, (b3.trans a3).trans c3.symm, (b4.trans a4).trans c4.symm, fun q => (b5.trans (a5 q)).trans c5.symm, a6.congr (fun j hj => (eb j hj).2.2.2.2)⟩
theorem RelN.congr {N : Nat} {a b a' b' : LT} (h : RelN wq N a b) (ha : a'.1 = a.1) (hb : b'.1 = b.1) (ea : Eq5 N a' a) (eb : Eq5 N b' b) : RelN wq N a' b' :=
  ⟨h.1, ha.trans h.2.1, hb.trans h.2.2.1, h.2.2.2.1.congr ea eb, h.2.2.2.2.congr ea⟩
/-- the reference's order is a row of all numbers too -/
theorem RelN.okb {N : Nat} {a b : LT} (h : RelN wq N a b) : PermF b.2.2.2.2.2 N := by
  by_cases h0 : N = 0
  · subst h0
    exact ⟨fun i => i, fun i => i, fun i hi => absurd hi (Nat.not_lt_zero i), fun i hi => absurd hi (Nat.not_lt_zero i)⟩
  · exact (h.2.2.2.1 0 (by omega)).2.2.2.2.2
/-- the sheets -/
def rowS (μ : Mem) (s : Nat) : Nat → Int32 := μ (5 + s)
def SH (μ : Mem) : Prop := μ 1 3 = μ 89 0 ∧ ∀ s, s < 4 → μ 2 s = μ 90 s ∧ μ 3 s = μ 91 s ∧ (μ 2 s = -1 ∨ ∃ f, f ≤ 2 ∧ μ 2 s = nI f) ∧ ∃ z, z ≤ 40 ∧ μ 3 s = nI z ∧ ∀ i, i < z → rowS μ s i = μ 92 (40 * s + i)
def LV (wq : Prop) (μ : Mem) : Prop := Rel wq (CL μ) (MT μ 0)
/-- what can be given back: the j-th latest -/
def HI (wq : Prop) (μ : Mem) : Prop := ∃ nx K, nx < 5 ∧ K ≤ 5 ∧ μ 16 1 = nI nx ∧ μ 16 2 = nI K ∧ μ 89 11 = nI K ∧ ∀ j, j < K → Rel wq (CS μ ((nx + 4 - j) % 5)) (MT μ (K - j))
def BT (μ : Mem) : Prop := ∃ B, B ≤ 40 ∧ μ 53 1 = nI B ∧ μ 89 12 = nI B ∧ (∀ i, i < B → μ 54 i = μ 100 i) ∧ (μ 89 14 = 0 ∨ μ 89 14 = 1) ∧ (μ 89 15 = 0 ∨ μ 89 15 = 1) ∧ (μ 89 14 = 0 → B = 0) ∧ (μ 53 2 = if μ 89 14 = 0 then 0 else μ 89 15) ∧ (μ 53 2 = 1 → μ 9 6 = nI B ∧ PermF (μ 54) B)
def RI (μ : Mem) : Prop := (μ 61 10 = 0 ∨ μ 61 10 = 1) ∧ μ 61 10 = μ 89 33 ∧ (μ 61 10 = 1 → μ 61 11 = μ 115 0 ∧ μ 61 12 = μ 115 1 ∧ μ 61 13 = μ 115 2 ∧ μ 61 14 = μ 115 3)
def PR (μ : Mem) : Prop := ∀ i, i < 8 → μ 74 i = μ 101 i ∧ μ 75 i = μ 102 i ∧ (-100 ≤ μ 74 i ∧ μ 74 i ≤ 100) ∧ (-100 ≤ μ 75 i ∧ μ 75 i ≤ 100) ∧ μ 77 i = 1 ∧ μ 78 i = 0
def Inv (wq : Prop) (μ : Mem) : Prop := SH μ ∧ LV wq μ ∧ HI wq μ ∧ BT μ ∧ RI μ ∧ PR μ
theorem SH.ag2 {l js : List Nat} {μ μ' : Mem} (h : SH μ) (g : Ag l js μ μ') (hfo : μ' 1 3 = μ' 89 0) (hl : ∀ k ∈ [2, 3, 5, 6, 7, 8, 90, 91, 92], k ∉ l := by decide) : SH μ' := by
  have e2 := g.1 2 (by decide) (hl 2 (by decide))
  have e3 := g.1 3 (by decide) (hl 3 (by decide))
  have e4 := g.1 90 (by decide) (hl 90 (by decide))
  have e5 := g.1 91 (by decide) (hl 91 (by decide))
  have e6 := g.1 92 (by decide) (hl 92 (by decide))
  have e7 : ∀ s, s < 4 → rowS μ' s = rowS μ s := fun s hs => by
    have h4 : s = 0 ∨ s = 1 ∨ s = 2 ∨ s = 3 := by omega
    rcases h4 with rfl | rfl | rfl | rfl
    · exact g.1 5 (by decide) (hl 5 (by decide))
    · exact g.1 6 (by decide) (hl 6 (by decide))
    · exact g.1 7 (by decide) (hl 7 (by decide))
    · exact g.1 8 (by decide) (hl 8 (by decide))
  unfold SH
  rw [e2, e3, e4, e5, e6]
  refine ⟨hfo, fun s hs => ?_⟩
  rw [e7 s hs]
  exact h.2 s hs
theorem SH.ag {l js : List Nat} {μ μ' : Mem} (h : SH μ) (g : Ag l js μ μ') (hl : ∀ k ∈ [1, 2, 3, 5, 6, 7, 8, 90, 91, 92], k ∉ l := by decide) (hj : 0 ∉ js := by decide) : SH μ' :=
  h.ag2 g (by rw [g.1 1 (by decide) (hl 1 (by decide)), g.2 0 hj]; exact h.1) (fun k hk => hl k (List.mem_cons_of_mem _ hk))
theorem CL.ag {l js : List Nat} {μ μ' : Mem} (g : Ag l js μ μ') (hl : ∀ k ∈ [9, 10, 11, 12, 13, 14], k ∉ l := by decide) : CL μ' = CL μ := by
  unfold CL
  rw [g.1 9 (by decide) (hl 9 (by decide)), g.1 10 (by decide) (hl 10 (by decide)), g.1 11 (by decide) (hl 11 (by decide)), g.1 12 (by decide) (hl 12 (by decide)), g.1 13 (by decide) (hl 13 (by decide)), g.1 14 (by decide) (hl 14 (by decide))]
theorem MT.ag {l js : List Nat} {μ μ' : Mem} (k : Nat) (g : Ag l js μ μ') (hl : ∀ k ∈ [94, 95, 96, 97, 98, 99], k ∉ l := by decide) : MT μ' k = MT μ k := by
  unfold MT
  rw [g.1 94 (by decide) (hl 94 (by decide)), g.1 95 (by decide) (hl 95 (by decide)), g.1 96 (by decide) (hl 96 (by decide)), g.1 97 (by decide) (hl 97 (by decide)), g.1 98 (by decide) (hl 98 (by decide)), g.1 99 (by decide) (hl 99 (by decide))]
theorem CS.ag {l js : List Nat} {μ μ' : Mem} {j : Nat} (hj : j < 5) (g : Ag l js μ μ') (hl : ∀ k, k < 53 → 18 ≤ k → k ∉ l) : CS μ' j = CS μ j := by
  unfold CS
  rw [g.1 _ (by omega) (hl _ (by omega) (by omega)), g.1 _ (by omega) (hl (19 + 7 * j) (by omega) (by omega)), g.1 _ (by omega) (hl (20 + 7 * j) (by omega) (by omega)), g.1 _ (by omega) (hl (21 + 7 * j) (by omega) (by omega)), g.1 _ (by omega) (hl (22 + 7 * j) (by omega) (by omega)), g.1 _ (by omega) (hl (23 + 7 * j) (by omega) (by omega))]
theorem LV.ag {l js : List Nat} {μ μ' : Mem} (h : LV wq μ) (g : Ag l js μ μ') (hl : ∀ k ∈ [9, 10, 11, 12, 13, 14], k ∉ l := by decide) (hm : ∀ k ∈ [94, 95, 96, 97, 98, 99], k ∉ l := by decide) : LV wq μ' := by
  unfold LV
  rw [CL.ag g hl, MT.ag 0 g hm]
  exact h
theorem HI.ag {l js : List Nat} {μ μ' : Mem} (h : HI wq μ) (g : Ag l js μ μ') (hl : (∀ k, k < 53 → 18 ≤ k → k ∉ l) ∧ 16 ∉ l := by decide) (hm : ∀ k ∈ [94, 95, 96, 97, 98, 99], k ∉ l := by decide) (hj : 11 ∉ js := by decide) : HI wq μ' := by
  obtain ⟨nx, K, h1, h2, h3, h4, h5, h6⟩ := h
  refine ⟨nx, K, h1, h2, ?_, ?_, ?_, fun j hj => ?_⟩
  · rw [g.1 16 (by decide) hl.2]; exact h3
  · rw [g.1 16 (by decide) hl.2]; exact h4
  · rw [g.2 11 hj]; exact h5
  · rw [CS.ag (Nat.mod_lt _ (by decide)) g hl.1, MT.ag _ g hm]
    exact h6 j hj
theorem BT.ag {l js : List Nat} {μ μ' : Mem} (h : BT μ) (g : Ag l js μ μ') (h9 : μ' 9 6 = μ 9 6) (hl : ∀ k ∈ [53, 54, 100], k ∉ l := by decide) (hj : ∀ j ∈ [12, 14, 15], j ∉ js := by decide) : BT μ' := by
  unfold BT
  rw [g.1 53 (by decide) (hl 53 (by decide)), g.1 54 (by decide) (hl 54 (by decide)), g.1 100 (by decide) (hl 100 (by decide)), g.2 12 (hj 12 (by decide)), g.2 14 (hj 14 (by decide)), g.2 15 (hj 15 (by decide)), h9]
  exact h
theorem RI.ag {l js : List Nat} {μ μ' : Mem} (h : RI μ) (g : Ag l js μ μ') (hl : ∀ k ∈ [61, 115], k ∉ l := by decide) (hj : 33 ∉ js := by decide) : RI μ' := by
  unfold RI
  rw [g.1 61 (by decide) (hl 61 (by decide)), g.1 115 (by decide) (hl 115 (by decide)), g.2 33 hj]
  exact h
theorem PR.ag {l js : List Nat} {μ μ' : Mem} (h : PR μ) (g : Ag l js μ μ') (hl : ∀ k ∈ [74, 75, 77, 78, 101, 102], k ∉ l := by decide) : PR μ' := by
  unfold PR
  rw [g.1 74 (by decide) (hl 74 (by decide)), g.1 75 (by decide) (hl 75 (by decide)), g.1 77 (by decide) (hl 77 (by decide)), g.1 78 (by decide) (hl 78 (by decide)), g.1 101 (by decide) (hl 101 (by decide)), g.1 102 (by decide) (hl 102 (by decide))]
  exact h
/-- an op of both: the same answer, and all is as it should be again -/
def Op (wq : Prop) (f g : Mem → Option (Int32 × Mem)) : Prop := ∀ μ, Inv wq μ → ∃ r μ1 μ2, f μ = some (r, μ1) ∧ g μ1 = some (r, μ2) ∧ Inv wq μ2
/-- an op of both that comes back on both sides; the answers are alike only if wq is -/
def OpW (wq : Prop) (f g : Mem → Option (Int32 × Mem)) : Prop := ∀ μ, Inv wq μ → ∃ r r' μ1 μ2, f μ = some (r, μ1) ∧ g μ1 = some (r', μ2) ∧ Inv wq μ2 ∧ (wq → r = r')
theorem Op.w {f g : Mem → Option (Int32 × Mem)} (h : Op wq f g) : OpW wq f g := fun μ hI => by
  obtain ⟨r, μ1, μ2, h1, h2, h3⟩ := h μ hI
  exact ⟨r, r, μ1, μ2, h1, h2, h3, fun _ => rfl⟩
theorem OpW.op {f g : Mem → Option (Int32 × Mem)} (h : OpW wq f g) (q : wq) : Op wq f g := fun μ hI => by
  obtain ⟨r, r', μ1, μ2, h1, h2, h3, h4⟩ := h μ hI
  exact ⟨r, μ1, μ2, h1, by rw [h4 q]; exact h2, h3⟩
/-- the start -/
theorem inv0 : Inv wq mem0 := by
  refine ⟨⟨rfl, fun s hs => ?_⟩, ⟨0, by omega, rfl, rfl, fun i hi => by omega, fun i hi => by omega, fun i => i, fun i => i, fun i hi => by omega, fun i hi => by omega⟩, ⟨0, 0, by omega, by omega, rfl, rfl, rfl, fun j hj => by omega⟩, ⟨0, by omega, rfl, rfl, fun i hi => by omega, Or.inl rfl, Or.inl rfl, fun _ => rfl, rfl, fun h => absurd h (by decide)⟩, ⟨Or.inl rfl, rfl, fun h => absurd h (by decide)⟩, fun i hi => ?_⟩
  · have h4 : s = 0 ∨ s = 1 ∨ s = 2 ∨ s = 3 := by omega
    rcases h4 with rfl | rfl | rfl | rfl <;> exact ⟨rfl, rfl, Or.inl rfl, 0, by omega, rfl, fun i hi => by omega⟩
  · have h8 : i = 0 ∨ i = 1 ∨ i = 2 ∨ i = 3 ∨ i = 4 ∨ i = 5 ∨ i = 6 ∨ i = 7 := by omega
    rcases h8 with rfl | rfl | rfl | rfl | rfl | rfl | rfl | rfl <;> exact ⟨rfl, rfl, ⟨by decide, by decide⟩, ⟨by decide, by decide⟩, rfl, rfl⟩
