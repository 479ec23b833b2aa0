/-! the cells of the class and of the reference behind their constructors, by number: kinds, lengths, what they point to -/
abbrev Mem : Type := Nat → Nat → Int32
abbrev Gv : Type := (Nat → Nat) × (Nat → Nat) × va_G
def kdL : List Nat := [8, 7, 10, 10, 13, 10, 10, 10, 10, 3, 10, 10, 10, 10, 10, 10, 2, 12, 3, 10, 10, 10, 10, 10, 10, 3, 10, 10, 10, 10, 10, 10, 3, 10, 10, 10, 10, 10, 10, 3, 10, 10, 10, 10, 10, 10, 3, 10, 10, 10, 10, 10, 10, 0, 10, 1, 10, 10, 10, 10, 10, 5, 10, 10, 10, 10, 10, 10, 10, 10, 11, 6, 10, 4, 10, 10, 4, 10, 10, 10, 13, 10, 10, 10, 10, 10, 10, 10, 10, 9, 10, 10, 10, 10, 10, 10, 10, 10, 10, 10, 10, 10, 10, 10, 10, 10, 10, 10, 10, 10, 10, 10, 10, 11, 11, 10, 10]
def lnL : List Nat := [0, 0, 4, 4, 4, 40, 40, 40, 40, 0, 40, 40, 40, 40, 40, 40, 0, 5, 0, 40, 40, 40, 40, 40, 40, 0, 40, 40, 40, 40, 40, 40, 0, 40, 40, 40, 40, 40, 40, 0, 40, 40, 40, 40, 40, 40, 0, 40, 40, 40, 40, 40, 40, 0, 40, 0, 40, 40, 40, 40, 40, 0, 41, 41, 41, 41, 41, 41, 40, 40, 40, 0, 8, 0, 8, 8, 0, 8, 8, 40, 8, 8, 8, 8, 8, 8, 8, 8, 8, 0, 4, 4, 160, 40, 6, 240, 240, 240, 240, 240, 40, 8, 8, 40, 40, 40, 41, 41, 41, 41, 41, 41, 41, 41, 41, 4, 40]
def gtL : List (List Nat) := [[1, 9, 16, 53, 55, 61, 71, 73, 76, 79, 80], [2, 3, 4, 0], [], [], [5, 6, 7, 8], [], [], [], [], [10, 11, 12, 13, 14, 15, 0], [], [], [], [], [], [], [17, 0, 0], [18, 25, 32, 39, 46], [19, 20, 21, 22, 23, 24, 0], [], [], [], [], [], [], [26, 27, 28, 29, 30, 31, 0], [], [], [], [], [], [], [33, 34, 35, 36, 37, 38, 0], [], [], [], [], [], [], [40, 41, 42, 43, 44, 45, 0], [], [], [], [], [], [], [47, 48, 49, 50, 51, 52, 0], [], [], [], [], [], [], [54, 0, 0], [], [56, 57, 58, 59, 60, 0, 0], [], [], [], [], [], [62, 63, 64, 65, 66, 67, 68, 69, 70, 0, 0, 0, 0, 0, 0], [], [], [], [], [], [], [], [], [], [72, 0], [], [74, 75], [], [], [77, 78], [], [], [], [81, 82, 83, 84, 85, 86, 87, 88], [], [], [], [], [], [], [], [], [0, 90, 91, 92, 93, 94, 95, 96, 97, 98, 99, 0, 0, 100, 0, 0, 101, 102, 103, 104, 105, 0, 0, 106, 107, 108, 109, 110, 111, 112, 113, 114, 115, 0, 116], [], [], [], [], [], [], [], [], [], [], [], [], [], [], [], [], [], [], [], [], [], [], [], [], [], [], []]
def frL : List (List Bool) := [[true, false, false], [true, true, true, true, true, false, false], [true, false, false], [true, true, true, true, true, true, false], [true, true], [true, true, true, true, true, true, true, true, true, false, false, false, false, false, false], [true, false], [true, true, true, false], [true, true, true, true, true, true, true, true, true, true, true], [false, true, true, true, true, true, true, true, true, true, true, false, false, true, false, false, true, true, true, true, true, false, false, true, true, true, true, true, true, true, true, true, true, false, true]]
def NC : Nat := 117
def kd (k : Nat) : Nat := kdL.getD k 99
def ln (k : Nat) : Nat := lnL.getD k 0
def gt (k j : Nat) : Nat := (gtL.getD k []).getD j 0
def nf (c : Nat) : Nat := (frL.getD c []).length
def fr (c j : Nat) : Bool := (frL.getD c []).getD j false
def upM (μ : Mem) (k : Nat) (g : Nat → Int32) : Mem := fun a => if a = k then g else μ a
def fld (E : Gv) (μ : Mem) (k j : Nat) : Value := if fr (kd k) j = true then .ref (E.1 (gt k j)) else .int (μ k j)
def flds (E : Gv) (μ : Mem) (k : Nat) : List Value := (List.range (nf (kd k))).map (fld E μ k)
def ent (E : Gv) (μ : Mem) (k : Nat) : va_E :=
  if kd k < 10 then .inr (kd k, flds E μ k)
  else if kd k < 12 then .inl (E.2.1 (kd k), ln k, .inl (μ k))
  else .inl (E.2.1 (kd k), ln k, .inr (.inr (.inr (.inr (fun j => if j < ln k then some (E.1 (gt k j)) else none)))))
def wsf (E : Gv) (μ : Mem) : va_W := (List.range NC).map (fun k => (E.1 k, ent E μ k))
abbrev tysf (E : Gv) : List (ClassId × FieldType) := [(E.2.1 10, .int), (E.2.1 11, .boolean), (E.2.1 12, .object "OvenHouse$Loaves"), (E.2.1 13, .array .int)]
def Wo (E : Gv) (μ : Mem) (H : Heap) : Prop := va_P E.2.2 vwCl (wsf E μ) H
def Ko (E : Gv) (s : State) : Prop := va_K E.2.2 vwCl (tysf E) s ∧ ∀ q ∈ nestL, va_Nw (.methodLinkNest q.1 q.2.1 q.2.2.1 q.2.2.2) s
theorem Ko.warm {E : Gv} {s U : State} (hw : s.WarmedH U.vm) (h : Ko E s) : Ko E U := ⟨va_K.moved hw.alike h.1, fun q hq => va_Nw.warmM hw (h.2 q hq)⟩
def AE (E : Gv) : Nat → Prop := fun q => ∃ k, k < NC ∧ q = E.1 k
def Do (E : Gv) : Prop := ∀ i j, i < NC → j < NC → E.1 i = E.1 j → i = j
theorem wsf_at {E : Gv} {μ : Mem} {k : Nat} (hk : k < NC) : (wsf E μ)[k]? = some (E.1 k, ent E μ k) := by
  unfold wsf
  rw [List.getElem?_map, List.getElem?_range hk]
  rfl
theorem wsf_lt {E : Gv} {μ : Mem} {k : Nat} {q : Nat × va_E} (h : (wsf E μ)[k]? = some q) : k < NC ∧ q = (E.1 k, ent E μ k) := by
  have hl := (List.getElem?_eq_some_iff.mp h).1
  have hk : k < NC := by simpa [wsf] using hl
  rw [wsf_at hk] at h
  exact ⟨hk, (Option.some.inj h).symm⟩
theorem wsf_set {E : Gv} {μ μ' : Mem} {k : Nat} {e : va_E} (hk : k < NC) (he : ent E μ' k = e) (ho : ∀ j, j ≠ k → ent E μ' j = ent E μ j) : (wsf E μ).set k (E.1 k, e) = wsf E μ' := by
  apply List.ext_getElem?
  intro i
  by_cases hi : i < NC
  · rw [wsf_at (μ := μ') hi]
    by_cases hik : i = k
    · subst hik
      rw [List.getElem?_set_self (by simpa [wsf] using hi), he]
    · rw [List.getElem?_set_ne (Ne.symm hik), wsf_at hi, ho i hik]
  · rw [List.getElem?_eq_none (by simp [wsf]; omega), List.getElem?_eq_none (by simp [wsf]; omega)]
theorem upM_ne {μ : Mem} {k j : Nat} {g : Nat → Int32} (h : j ≠ k) : upM μ k g j = μ j := if_neg h
theorem upM_self {μ : Mem} {k : Nat} {g : Nat → Int32} : upM μ k g k = g := if_pos rfl
theorem ent_ne {E : Gv} {μ : Mem} {k j : Nat} {g : Nat → Int32} (h : j ≠ k) : ent E (upM μ k g) j = ent E μ j := by
  unfold ent flds
  have e : (fld E (upM μ k g) j) = fld E μ j := by
    funext i
    unfold fld
    rw [upM_ne h]
  rw [e, upM_ne h]
theorem ent_obj {E : Gv} {μ : Mem} {k : Nat} (h : kd k < 10) : ent E μ k = .inr (kd k, flds E μ k) := if_pos h
theorem ent_int {E : Gv} {μ : Mem} {k : Nat} (h : kd k = 10) : ent E μ k = .inl (E.2.1 10, ln k, .inl (μ k)) := by
  unfold ent
  rw [h]
  rfl
theorem ent_boo {E : Gv} {μ : Mem} {k : Nat} (h : kd k = 11) : ent E μ k = .inl (E.2.1 11, ln k, .inl (μ k)) := by
  unfold ent
  rw [h]
  rfl
theorem ent_arr {E : Gv} {μ : Mem} {k c : Nat} (hc : 12 ≤ c) (h : kd k = c) : ent E μ k = .inl (E.2.1 c, ln k, .inr (.inr (.inr (.inr (fun j => if j < ln k then some (E.1 (gt k j)) else none))))) := by
  unfold ent
  rw [h, if_neg (by omega), if_neg (by omega)]
theorem flds_get {E : Gv} {μ : Mem} {k j : Nat} (hj : j < nf (kd k)) : (flds E μ k)[j]? = some (fld E μ k j) := by
  unfold flds
  rw [List.getElem?_map, List.getElem?_range hj]
  rfl
theorem flds_len {E : Gv} {μ : Mem} {k : Nat} : (flds E μ k).length = nf (kd k) := by simp [flds]
theorem flds_set {E : Gv} {μ : Mem} {k j : Nat} {v : Int32} (hj : j < nf (kd k)) (hf : fr (kd k) j = false) : (flds E μ k).set j (.int v) = flds E (upM μ k (upd (μ k) j v)) k := by
  apply List.ext_getElem?
  intro i
  by_cases hi : i < nf (kd k)
  · rw [flds_get hi]
    by_cases hij : i = j
    · subst hij
      rw [List.getElem?_set_self (by rw [flds_len]; exact hi)]
      simp [fld, hf, upM_self, upd]
    · rw [List.getElem?_set_ne (Ne.symm hij), flds_get hi]
      simp [fld, upM_self, upd, hij]
  · rw [List.getElem?_eq_none (by simp [flds_len]; omega), List.getElem?_eq_none (by rw [flds_len]; omega)]
theorem Do.va {E : Gv} (h : Do E) {A : Nat → Prop} (hA : ∀ k, k < NC → A (E.1 k)) (μ : Mem) : va_D A (wsf E μ) := by
  refine ⟨fun i j p q hi hj e => ?_, fun k q hk => ?_⟩
  · obtain ⟨h1, rfl⟩ := wsf_lt hi
    obtain ⟨h2, rfl⟩ := wsf_lt hj
    exact h i j h1 h2 e
  · obtain ⟨h1, rfl⟩ := wsf_lt hk
    exact hA k h1
theorem Do.ae {E : Gv} (h : Do E) (μ : Mem) : va_D (AE E) (wsf E μ) := h.va (fun k hk => ⟨k, hk, rfl⟩) μ
/-! the words in which a method's work is told: reads and writes that may fail, calls -/
def rd {α : Type} (μ : Mem) (k : Nat) (i : Int32) (f : Int32 → Option α) : Option α := if i < 0 ∨ ln k ≤ i.toNatClampNeg then none else f (μ k i.toNatClampNeg)
def wr {α : Type} (μ : Mem) (k : Nat) (i v : Int32) (f : Mem → Option α) : Option α := if i < 0 ∨ ln k ≤ i.toNatClampNeg then none else f (upM μ k (upd (μ k) i.toNatClampNeg v))
def rr {α : Type} (k : Nat) (i : Int32) (f : Nat → Option α) : Option α := if i < 0 ∨ ln k ≤ i.toNatClampNeg then none else f (gt k i.toNatClampNeg)
def st {α : Type} (μ : Mem) (k j : Nat) (v : Int32) (f : Mem → Option α) : Option α := f (upM μ k (upd (μ k) j v))
def cal {α β : Type} (o : Option (β × Mem)) (f : β → Mem → Option α) : Option α := match o with
  | none => none
  | some q => f q.1 q.2
def cav {α : Type} (o : Option Mem) (f : Mem → Option α) : Option α := match o with
  | none => none
  | some q => f q
def imax (x y : Int32) : Int32 := if x < y then y else x
def imin (x y : Int32) : Int32 := if y < x then y else x
def cpy {α : Type} (μ : Mem) (a : Nat) (i : Int32) (b : Nat) (j n : Int32) (f : Mem → Option α) : Option α :=
  if (i < 0 ∨ j < 0) ∨ n < 0 ∨ ln a < i.toNatClampNeg + n.toNatClampNeg ∨ ln b < j.toNatClampNeg + n.toNatClampNeg then none else f (upM μ b (va_cpy (μ a) (μ b) i.toNatClampNeg j.toNatClampNeg n.toNatClampNeg))
/-- an answer that is to be true or false -/
def zr (v : Int32) (μ : Mem) : Option (Int32 × Mem) := if v = 0 ∨ v = 1 then some (v, μ) else none
/-! contracts -/
def PcE (E : Gv) (As : List Value) (μ : Mem) : Array Value → State → Prop := va_Pc As (fun U => Wo E μ U.heap ∧ Ko E U)
def BE (E : Gv) : Mem → State → Prop := fun v t => Wo E v t.heap ∧ Ko E t
def QcI (E : Gv) (r : Int32) (u : Mem) : Array Value → State → Outcome → State → Prop := va_Qi (fun x v => x = r ∧ v = u) (BE E) (AE E)
def QcL (E : Gv) (r : Int64) (u : Mem) : Array Value → State → Outcome → State → Prop := va_Ql (fun x v => x = r ∧ v = u) (BE E) (AE E)
def QcN (E : Gv) (u : Mem) : Array Value → State → Outcome → State → Prop := va_Qv (fun v => v = u) (BE E) (AE E)
def CtI (l : Launch) (y : MethodName) (ws : List Cond) (rm : Room) (E : Gv) (As : List Value) (μ : Mem) (res : Option (Int32 × Mem)) : Prop := ∀ r u, res = some (r, u) → Met l y ws rm (PcE E As μ) (QcI E r u) 0 0 (AE E)
def CtL (l : Launch) (y : MethodName) (ws : List Cond) (rm : Room) (E : Gv) (As : List Value) (μ : Mem) (res : Option (Int64 × Mem)) : Prop := ∀ r u, res = some (r, u) → Met l y ws rm (PcE E As μ) (QcL E r u) 0 0 (AE E)
def CtV (l : Launch) (y : MethodName) (ws : List Cond) (rm : Room) (E : Gv) (As : List Value) (μ : Mem) (res : Option Mem) : Prop := ∀ u, res = some u → Met l y ws rm (PcE E As μ) (QcN E u) 0 0 (AE E)
theorem PcE.blind {E : Gv} {As : List Value} {μ : Mem} : FrameBlind (PcE E As μ) := fun a U g mk q => ⟨q.1, q.2.1, ⟨va_K.moved (u := U) (U := U.calling g mk a) (Vm.Alike.refl U.vm) q.2.2.1, fun w hw => va_Nw.same rfl rfl (q.2.2.2 w hw)⟩⟩
abbrev Fx (p : Program) (m : MethodId) (c : Code) (cc : ByteArray) (nL : Nat) (s : State) (args : Array Value) (w0 : Cond) (own : String) (meth : Method) (rt : Option FieldType) (E : Gv) : Prop :=
  CallFix p m c cc nL s args (w0 :: GG) own ∧ meth.sig.returnType = rt ∧ meth.locks = false ∧ Ko E s ∧ Do E
abbrev W0 (p : Program) (l : Launch) (e : Env) (R : Room) (s : State) (m : MethodId) (args : Array Value) (below : List Frame) (meth : Method) (c : Code) (H : Heap) (locs : List Loc) (Qc : Array Value → State → Outcome → State → Prop) (E : Gv) (g : JFrame) : Prop :=
  W p l e R s m args below meth c H locs 0 0 (MQ below Qc args s 0 0 (AE E)) g
section OWN
variable {p : Program} {l : Launch} {e : Env} {R : Room} {s : State} {m : MethodId} {args : Array Value} {below : List Frame} {meth : Method} {c : Code} {H : Heap} {locs : List Loc} {cells slots : Nat} {Q : State → Prop}
variable {cc : ByteArray} {nL pc : Nat} {ls : Array Slot} {rest : List Value} {E : Gv} {w0 : Cond} {own : String} {rt : Option FieldType} {μ : Mem} {H0 : Heap}
theorem of_entry {y : MethodName} {ws : List Cond} {rm : Room} {maxL : Nat} {ret : Option FieldType} {Qc : Array Value → State → Outcome → State → Prop} (hy : plainName y.cls = true) (hw : ws = Cond.code y cc maxL ret :: GG) (hD : Do E) {As : List Value} (hA : (lg_sl As).length ≤ maxL)
    (body : ∀ p e s m args below meth c, Fx p m c cc maxL s args (Cond.code y cc maxL ret) y.cls meth ret E → ∀ H locs, Wo E μ H → va_S (AE E) s.heap H locs → ∀ ls, lv_has ls maxL (lv_args 0 As) → W0 p l e rm s m args below meth c H locs Qc E (F0 m 0 ls [])) : Met l y ws rm (PcE E As μ) Qc 0 0 (AE E) := by
  subst hw
  refine Met.ofW (cc := cc) (maxL := maxL) (ret := ret) hy rfl ?_
  intro p e s m args below meth c s₁ B hml hv
  obtain ⟨rfl, hW, hK⟩ := hv
  have hl := lv_entry As (n := maxL) hA
  rw [lg_entry_eq]
  exact body p e s m _ below meth c ⟨⟨B.exec, B.bytes, hml, findClass_of_methodNamed B.named, atoms_spec (ws := Cond.code y cc maxL ret :: GG) B.pre⟩, B.returns, B.notSynchronized, hK, hD⟩ _ _ hW va_S.rf _ hl
theorem e_iret (X : Fx p m c cc nL s args w0 own meth (some .int) E) (hW : Wo E μ H) (hS : va_S (AE E) s.heap H locs) {v r : Int32} {u : Mem} (hf : some (v, μ) = some (r, u)) (hdg : decode cc pc = .ok (.ireturn, 1)) : W0 p l e R s m args below meth c H locs (QcI E r u) E (F0 m pc ls [.int v]) := by
  cases hf
  exact W.iret X.1.1 X.1.2.1 X.2.1 (fun t ht hw => ⟨⟨v, μ, rfl, ⟨rfl, rfl⟩, by rw [ht]; exact hW, X.2.2.2.1.warm hw⟩, hS.F ht⟩) hS.2.2 hdg X.2.2.1
theorem e_zret (X : Fx p m c cc nL s args w0 own meth (some .boolean) E) (hW : Wo E μ H) (hS : va_S (AE E) s.heap H locs) {v r : Int32} {u : Mem} (hf : zr v μ = some (r, u)) (hdg : decode cc pc = .ok (.ireturn, 1)) : W0 p l e R s m args below meth c H locs (QcI E r u) E (F0 m pc ls [.int v]) := by
  unfold zr at hf
  by_cases h : v = 0 ∨ v = 1
  · rw [if_pos h] at hf
    cases hf
    exact W.zret X.1.1 X.1.2.1 X.2.1 (by rcases h with rfl | rfl <;> rfl) (fun t ht hw => ⟨⟨v, μ, rfl, ⟨rfl, rfl⟩, by rw [ht]; exact hW, X.2.2.2.1.warm hw⟩, hS.F ht⟩) hS.2.2 hdg X.2.2.1
  · rw [if_neg h] at hf
    cases hf
theorem e_lret (X : Fx p m c cc nL s args w0 own meth (some .long) E) (hW : Wo E μ H) (hS : va_S (AE E) s.heap H locs) {v r : Int64} {u : Mem} (hf : some (v, μ) = some (r, u)) (hdg : decode cc pc = .ok (.lreturn, 1)) : W0 p l e R s m args below meth c H locs (QcL E r u) E (F0 m pc ls [.long v]) := by
  cases hf
  exact W.lret X.1.1 X.1.2.1 X.2.1 (fun t ht hw => ⟨⟨v, μ, rfl, ⟨rfl, rfl⟩, by rw [ht]; exact hW, X.2.2.2.1.warm hw⟩, hS.F ht⟩) hS.2.2 hdg X.2.2.1
theorem e_vret (X : Fx p m c cc nL s args w0 own meth none E) (hW : Wo E μ H) (hS : va_S (AE E) s.heap H locs) {u : Mem} (hf : some μ = some u) (hdg : decode cc pc = .ok (.return_, 1)) : W0 p l e R s m args below meth c H locs (QcN E u) E (F0 m pc ls []) := by
  cases hf
  exact W.vret X.1.1 X.1.2.1 X.2.1 (fun t ht hw => ⟨⟨μ, rfl, rfl, by rw [ht]; exact hW, X.2.2.2.1.warm hw⟩, hS.F ht⟩) hS.2.2 hdg X.2.2.1
theorem vw_lt {k : Nat} {q : vw_C} (h : vwCl[kd k]? = some q) : kd k < 10 := (List.getElem?_eq_some_iff.mp h).1
theorem e_geti (X : Fx p m c cc nL s args w0 own meth rt E) (hW : Wo E μ H) {C ref : String} {T : u_T} {N k j index : Nat} (hc : vwCl[kd k]? = some (C, T, N)) (hk : k < NC) (hin : ∀ w ∈ u_ws C T N, w ∈ GG) (hj : j < N) (hn : j < nf (kd k)) (hfr : fr (kd k) j = false) (href : (T j).1 = ref) (hlink : Cond.fieldLink own index ref (T j).2.1 (T j).2.2.1 ∈ GG) (hdg : decode cc pc = .ok (.getfield index, 3))
    (kk : W p l e R s m args below meth c H locs cells slots Q (F0 m (pc + 3) ls (.int (μ k j) :: rest))) : W p l e R s m args below meth c H locs cells slots Q (F0 m pc ls (.ref (E.1 k) :: rest)) := by
  subst href
  exact va_get (ci := kd k) (v := .int (μ k j)) X.1.1 X.1.2.1 X.1.2.2.2.2 (fun w h => List.mem_cons_of_mem _ (hin w h)) X.1.2.2.2.1 X.2.2.2.1.1 hW k ((wsf_at hk).trans (by rw [ent_obj (vw_lt hc)])) hc j hj (X.1.2.2.2.2 _ (List.mem_cons_of_mem _ hlink)) (fun _ h => h) ((flds_get hn).trans (by simp [fld, hfr])) hdg kk
theorem e_getr (X : Fx p m c cc nL s args w0 own meth rt E) (hW : Wo E μ H) {C ref : String} {T : u_T} {N k j index t : Nat} (hc : vwCl[kd k]? = some (C, T, N)) (hk : k < NC) (hin : ∀ w ∈ u_ws C T N, w ∈ GG) (hj : j < N) (hn : j < nf (kd k)) (hfr : fr (kd k) j = true) (ht : gt k j = t) (href : (T j).1 = ref) (hlink : Cond.fieldLink own index ref (T j).2.1 (T j).2.2.1 ∈ GG) (hdg : decode cc pc = .ok (.getfield index, 3))
    (kk : W p l e R s m args below meth c H locs cells slots Q (F0 m (pc + 3) ls (.ref (E.1 t) :: rest))) : W p l e R s m args below meth c H locs cells slots Q (F0 m pc ls (.ref (E.1 k) :: rest)) := by
  subst href
  subst ht
  exact va_get (ci := kd k) (v := .ref (E.1 (gt k j))) X.1.1 X.1.2.1 X.1.2.2.2.2 (fun w h => List.mem_cons_of_mem _ (hin w h)) X.1.2.2.2.1 X.2.2.2.1.1 hW k ((wsf_at hk).trans (by rw [ent_obj (vw_lt hc)])) hc j hj (X.1.2.2.2.2 _ (List.mem_cons_of_mem _ hlink)) (fun _ h => h) ((flds_get hn).trans (by simp [fld, hfr])) hdg kk
theorem e_put (X : Fx p m c cc nL s args w0 own meth rt E) (hW : Wo E μ H) (hS : va_S (AE E) H0 H locs) {C ref : String} {T : u_T} {N k j index : Nat} {tyF : Nat → FieldType} (hc : vwCl[kd k]? = some (C, T, N)) (hk : k < NC) (hin : ∀ w ∈ u_ws C T N, w ∈ GG) (hty : ∀ k, k < N → parseFieldDescriptor (T k).2.2.1 = some (tyF k)) (hnm : ∀ a, a < N → ∀ b, b < N → a ≠ b → (T a).2.1 ≠ (T b).2.1) (hj : j < N) (hn : j < nf (kd k)) (hfr : fr (kd k) j = false) (href : (T j).1 = ref) (hlink : Cond.fieldLink own index ref (T j).2.1 (T j).2.2.1 ∈ GG) (hfin : (T j).2.2.2 = false) {v : Int32} (hna : narrow (tyF j) (.int v) = .int v) (hfit : fits (tyF j) (.int v) = true) (hdg : decode cc pc = .ok (.putfield index, 3))
    {α : Type} {f : Mem → Option α} {out : Option α} (hf : st μ k j v f = out) (kk : ∀ (u : Mem) (H1 : Heap) (locs1 : List Loc), f u = out → Wo E u H1 → va_S (AE E) H0 H1 locs1 → W p l e R s m args below meth c H1 locs1 cells slots Q (F0 m (pc + 3) ls rest)) : W p l e R s m args below meth c H locs cells slots Q (F0 m pc ls (.int v :: .ref (E.1 k) :: rest)) := by
  subst href
  refine va_put (ci := kd k) (v := .int v) (ty := tyF j) X.1.1 X.1.2.1 X.1.2.2.2.2 (fun w h => List.mem_cons_of_mem _ (hin w h)) tyF hty hnm X.1.2.2.2.1 X.2.2.2.1.1 hW (X.2.2.2.2.ae μ) hS k ((wsf_at hk).trans (by rw [ent_obj (vw_lt hc)])) hc j hj (X.1.2.2.2.2 _ (List.mem_cons_of_mem _ hlink)) (fun _ h => h) hfin (hty j hj) hna hfit (by rw [flds_len]; exact hn) hdg (fun H1 locs1 hP hD hS1 => ?_)
  refine kk _ H1 locs1 hf ?_ hS1
  rw [flds_set hn hfr] at hP
  rw [wsf_set (μ' := upM μ k (upd (μ k) j v)) hk (ent_obj (vw_lt hc)) (fun i hi => ent_ne hi)] at hP
  exact hP
theorem vp_in_of_not {i : Int32} {n : Nat} (h : ¬ (i < 0 ∨ n ≤ i.toNatClampNeg)) : vp_in i n := h
theorem e_ild (X : Fx p m c cc nL s args w0 own meth rt E) (hW : Wo E μ H) {k : Nat} (hk : k < NC) (hkd : kd k = 10) {i : Int32} (hdg : decode cc pc = .ok (.iaload, 1)) {α : Type} {f : Int32 → Option α} {o : α} (hf : rd μ k i f = some o)
    (kk : ∀ v : Int32, f v = some o → W p l e R s m args below meth c H locs cells slots Q (F0 m (pc + 1) ls (.int v :: rest))) : W p l e R s m args below meth c H locs cells slots Q (F0 m pc ls (.int i :: .ref (E.1 k) :: rest)) := by
  unfold rd at hf
  by_cases h : i < 0 ∨ ln k ≤ i.toNatClampNeg
  · rw [if_pos h] at hf
    cases hf
  · rw [if_neg h] at hf
    exact va_iald (n := ln k) (f := μ k) (cA := E.2.1 10) X.1.1 X.1.2.1 X.2.2.2.1.1 hW k 0 ((wsf_at hk).trans (by rw [ent_int hkd])) rfl h hdg (kk _ hf)
theorem e_zld (X : Fx p m c cc nL s args w0 own meth rt E) (hW : Wo E μ H) {k : Nat} (hk : k < NC) (hkd : kd k = 11) {i : Int32} (hdg : decode cc pc = .ok (.baload, 1)) {α : Type} {f : Int32 → Option α} {o : α} (hf : rd μ k i f = some o)
    (kk : ∀ v : Int32, f v = some o → W p l e R s m args below meth c H locs cells slots Q (F0 m (pc + 1) ls (.int v :: rest))) : W p l e R s m args below meth c H locs cells slots Q (F0 m pc ls (.int i :: .ref (E.1 k) :: rest)) := by
  unfold rd at hf
  by_cases h : i < 0 ∨ ln k ≤ i.toNatClampNeg
  · rw [if_pos h] at hf
    cases hf
  · rw [if_neg h] at hf
    exact va_zald (n := ln k) (f := μ k) (cA := E.2.1 11) X.1.1 X.1.2.1 X.2.2.2.1.1 hW k 1 ((wsf_at hk).trans (by rw [ent_boo hkd])) rfl h hdg (kk _ hf)
theorem e_ist (X : Fx p m c cc nL s args w0 own meth rt E) (hW : Wo E μ H) (hS : va_S (AE E) H0 H locs) {k : Nat} (hk : k < NC) (hkd : kd k = 10) {i v : Int32} (hdg : decode cc pc = .ok (.iastore, 1)) {α : Type} {f : Mem → Option α} {o : α} (hf : wr μ k i v f = some o)
    (kk : ∀ (u : Mem) (H1 : Heap) (locs1 : List Loc), f u = some o → Wo E u H1 → va_S (AE E) H0 H1 locs1 → W p l e R s m args below meth c H1 locs1 cells slots Q (F0 m (pc + 1) ls rest)) : W p l e R s m args below meth c H locs cells slots Q (F0 m pc ls (.int v :: .int i :: .ref (E.1 k) :: rest)) := by
  unfold wr at hf
  by_cases h : i < 0 ∨ ln k ≤ i.toNatClampNeg
  · rw [if_pos h] at hf
    cases hf
  · rw [if_neg h] at hf
    refine va_iast (n := ln k) (f := μ k) (cA := E.2.1 10) X.1.1 X.1.2.1 X.2.2.2.1.1 hW (X.2.2.2.2.ae μ) hS k 0 ((wsf_at hk).trans (by rw [ent_int hkd])) rfl h hdg (fun H1 locs1 hP hD hS1 => ?_)
    refine kk _ H1 locs1 hf ?_ hS1
    rw [wsf_set (μ' := upM μ k (upd (μ k) i.toNatClampNeg v)) hk (by rw [ent_int hkd, upM_self]) (fun j hj => ent_ne hj)] at hP
    exact hP
theorem nar_z {v : Int32} (h : v = 0 ∨ v = 1) : vp_nar .boolean v = v := by rcases h with rfl | rfl <;> rfl
/-- a store of true or false -/
def wz {α : Type} (μ : Mem) (k : Nat) (i v : Int32) (f : Mem → Option α) : Option α := if v = 0 ∨ v = 1 then wr μ k i v f else none
theorem e_zst (X : Fx p m c cc nL s args w0 own meth rt E) (hW : Wo E μ H) (hS : va_S (AE E) H0 H locs) {k : Nat} (hk : k < NC) (hkd : kd k = 11) {i v : Int32} (hdg : decode cc pc = .ok (.bastore, 1)) {α : Type} {f : Mem → Option α} {o : α} (hf : wz μ k i v f = some o)
    (kk : ∀ (u : Mem) (H1 : Heap) (locs1 : List Loc), f u = some o → Wo E u H1 → va_S (AE E) H0 H1 locs1 → W p l e R s m args below meth c H1 locs1 cells slots Q (F0 m (pc + 1) ls rest)) : W p l e R s m args below meth c H locs cells slots Q (F0 m pc ls (.int v :: .int i :: .ref (E.1 k) :: rest)) := by
  unfold wz at hf
  by_cases hz : v = 0 ∨ v = 1
  · rw [if_pos hz] at hf
    unfold wr at hf
    by_cases h : i < 0 ∨ ln k ≤ i.toNatClampNeg
    · rw [if_pos h] at hf
      cases hf
    · rw [if_neg h] at hf
      refine va_zast (n := ln k) (f := μ k) (cA := E.2.1 11) X.1.1 X.1.2.1 X.2.2.2.1.1 hW (X.2.2.2.2.ae μ) hS k 1 ((wsf_at hk).trans (by rw [ent_boo hkd])) rfl h hdg (fun H1 locs1 hP hD hS1 => ?_)
      refine kk _ H1 locs1 hf ?_ hS1
      rw [nar_z hz] at hP
      rw [wsf_set (μ' := upM μ k (upd (μ k) i.toNatClampNeg v)) hk (by rw [ent_boo hkd, upM_self]) (fun j hj => ent_ne hj)] at hP
      exact hP
  · rw [if_neg hz] at hf
    cases hf
theorem e_rld (X : Fx p m c cc nL s args w0 own meth rt E) (hW : Wo E μ H) {k t0 c9 : Nat} {ty : FieldType} (hk : k < NC) (h12 : 12 ≤ c9) (hkd : kd k = c9) (ht : (tysf E)[t0]? = some (E.2.1 c9, ty)) (hre : ty.isReference = true) {i : Int32} (hdg : decode cc pc = .ok (.aaload, 1)) {α : Type} {f : Nat → Option α} {o : α} (hf : rr k i f = some o)
    (kk : ∀ t : Nat, (∃ j, j < ln k ∧ t = gt k j) → f t = some o → W p l e R s m args below meth c H locs cells slots Q (F0 m (pc + 1) ls (.ref (E.1 t) :: rest))) : W p l e R s m args below meth c H locs cells slots Q (F0 m pc ls (.int i :: .ref (E.1 k) :: rest)) := by
  unfold rr at hf
  by_cases h : i < 0 ∨ ln k ≤ i.toNatClampNeg
  · rw [if_pos h] at hf
    cases hf
  · rw [if_neg h] at hf
    have hlt : i.toNatClampNeg < ln k := Nat.not_le.mp fun q => h (Or.inr q)
    have ha : (wsf E μ)[k]? = some (E.1 k, .inl (E.2.1 c9, ln k, .inr (.inr (.inr (.inr (fun j => if j < ln k then some (E.1 (gt k j)) else none)))))) := (wsf_at hk).trans (by rw [ent_arr h12 hkd])
    refine W.aald (v := .ref (E.1 (gt k i.toNatClampNeg))) (ty := ty) X.1.1 X.1.2.1 (hW k _ ha) ((X.2.2.2.1.1.2 t0 _ ht).1 (ln k) (fun j => va_rf (if j < ln k then some (E.1 (gt k j)) else none))) hre (fun q => by cases q) (by show ¬ (i < 0 ∨ (arrV _ _ _).slots.size ≤ _); rw [arrV_size]; exact h) (by show (arrV _ _ _).slots[_]? = _; rw [arrV_read _ _ hlt]; exact congrArg (fun z => some (va_rf z)) (if_pos hlt)) rfl rfl hdg (kk _ ⟨_, hlt, rfl⟩ hf)
theorem e_alen (X : Fx p m c cc nL s args w0 own meth rt E) (hW : Wo E μ H) {k : Nat} (hk : k < NC) (hkd : kd k = 10) (hdg : decode cc pc = .ok (.arraylength, 1))
    (kk : W p l e R s m args below meth c H locs cells slots Q (F0 m (pc + 1) ls (.int (Int32.ofNat (ln k)) :: rest))) : W p l e R s m args below meth c H locs cells slots Q (F0 m pc ls (.ref (E.1 k) :: rest)) :=
  va_alen (cA := E.2.1 10) (x := (ln k, .inl (μ k))) X.1.1 X.1.2.1 X.2.2.2.1.1 hW k 0 ((wsf_at hk).trans (by rw [ent_int hkd])) (ty := .int) rfl rfl hdg kk
theorem e_max (X : Fx p m c cc nL s args w0 own meth rt E) (hl : ls.size = nL) {index : Nat} (h1 : Cond.methodLink own index Lib.Math.max.name ∈ GG) (h2 : Cond.static Lib.Math.max.name ∈ GG) (h3 : Cond.initialized "java/lang/Math" ∈ GG) (h4 : Cond.code Lib.Math.max.name Lib.Math.max.code 2 (some .int) ∈ GG) (hR : 1 ≤ R.frames ∧ (rest.map fun v => v.category).sum + 13 ≤ R.locals) (hc : cells ≤ R.cells ∧ slots ≤ R.slots) {x y : Int32} (hdg : decode cc pc = .ok (.invokestatic index, 3))
    (kk : W p l e R s m args below meth c H locs cells slots Q (F0 m (pc + 3) ls (.int (imax x y) :: rest))) : W p l e R s m args below meth c H locs cells slots Q (F0 m pc ls (.int y :: .int x :: rest)) :=
  va_mmax X.1.1 X.1.2.1 (X.1.2.2.1.trans hl.symm) X.1.2.2.2.1 (X.1.2.2.2.2 _ (List.mem_cons_of_mem _ h1)) (X.1.2.2.2.2 _ (List.mem_cons_of_mem _ h2)) (X.1.2.2.2.2 _ (List.mem_cons_of_mem _ h3)) (X.1.2.2.2.2 _ (List.mem_cons_of_mem _ h4)) hR.1 hR.2 hc.1 hc.2 hdg kk
theorem e_min (X : Fx p m c cc nL s args w0 own meth rt E) (hl : ls.size = nL) {index : Nat} (h1 : Cond.methodLink own index Lib.Math.min.name ∈ GG) (h2 : Cond.static Lib.Math.min.name ∈ GG) (h3 : Cond.initialized "java/lang/Math" ∈ GG) (h4 : Cond.code Lib.Math.min.name Lib.Math.min.code 2 (some .int) ∈ GG) (hR : 1 ≤ R.frames ∧ (rest.map fun v => v.category).sum + 13 ≤ R.locals) (hc : cells ≤ R.cells ∧ slots ≤ R.slots) {x y : Int32} (hdg : decode cc pc = .ok (.invokestatic index, 3))
    (kk : W p l e R s m args below meth c H locs cells slots Q (F0 m (pc + 3) ls (.int (imin x y) :: rest))) : W p l e R s m args below meth c H locs cells slots Q (F0 m pc ls (.int y :: .int x :: rest)) :=
  va_mmin X.1.1 X.1.2.1 (X.1.2.2.1.trans hl.symm) X.1.2.2.2.1 (X.1.2.2.2.2 _ (List.mem_cons_of_mem _ h1)) (X.1.2.2.2.2 _ (List.mem_cons_of_mem _ h2)) (X.1.2.2.2.2 _ (List.mem_cons_of_mem _ h3)) (X.1.2.2.2.2 _ (List.mem_cons_of_mem _ h4)) hR.1 hR.2 hc.1 hc.2 hdg kk
theorem e_cpy (X : Fx p m c cc nL s args w0 own meth rt E) (hl : ls.size = nL) (hW : Wo E μ H) (hS : va_S (AE E) H0 H locs) {index a b : Nat} (h1 : Cond.methodLink own index arraycopyName ∈ GG) (h2 : Cond.native arraycopyName ∈ GG) (h3 : Cond.static arraycopyName ∈ GG) (h4 : Cond.initialized "java/lang/System" ∈ GG) (ha : a < NC) (hb : b < NC) (hka : kd a = 10) (hkb : kd b = 10) (hR : 1 ≤ R.frames ∧ (rest.map fun v => v.category).sum + 18 ≤ R.locals) {i j n : Int32} (hdg : decode cc pc = .ok (.invokestatic index, 3)) {α : Type} {f : Mem → Option α} {o : α} (hf : cpy μ a i b j n f = some o)
    (kk : ∀ (u : Mem) (H1 : Heap) (locs1 : List Loc), f u = some o → Wo E u H1 → va_S (AE E) H0 H1 locs1 → W p l e R s m args below meth c H1 locs1 cells slots Q (F0 m (pc + 3) ls rest)) : W p l e R s m args below meth c H locs cells slots Q (F0 m pc ls (.int n :: .int j :: .ref (E.1 b) :: .int i :: .ref (E.1 a) :: rest)) := by
  unfold cpy at hf
  by_cases h : (i < 0 ∨ j < 0) ∨ n < 0 ∨ ln a < i.toNatClampNeg + n.toNatClampNeg ∨ ln b < j.toNatClampNeg + n.toNatClampNeg
  · rw [if_pos h] at hf
    cases hf
  · rw [if_neg h] at hf
    have hnw : nativeFrameWords "java/lang/System" "arraycopy" 5 = 7 := by decide +kernel
    refine va_copyi (c0 := E.2.1 10) (c1 := E.2.1 10) (n0 := ln a) (n1 := ln b) (f := μ a) (g := μ b) (ty := .int) X.1.1 X.1.2.1 (X.1.2.2.1.trans hl.symm) X.1.2.2.2.1 (X.1.2.2.2.2 _ (List.mem_cons_of_mem _ h1)) (X.1.2.2.2.2 _ (List.mem_cons_of_mem _ h2)) (X.1.2.2.2.2 _ (List.mem_cons_of_mem _ h3)) (X.1.2.2.2.2 _ (List.mem_cons_of_mem _ h4)) X.2.2.2.1.1 hW (X.2.2.2.2.ae μ) hS a b 0 0 ((wsf_at ha).trans (by rw [ent_int hka])) ((wsf_at hb).trans (by rw [ent_int hkb])) rfl rfl rfl (fun q => h (Or.inl (Or.inl q))) (fun q => h (Or.inl (Or.inr q))) (fun q => h (Or.inr (Or.inl q))) (Nat.not_lt.mp fun q => h (Or.inr (Or.inr (Or.inl q)))) (Nat.not_lt.mp fun q => h (Or.inr (Or.inr (Or.inr q)))) (fun i _ => rfl) hR.1 (by rw [hnw]; exact hR.2) hdg (fun H1 locs1 hP hD hS1 => ?_)
    refine kk _ H1 locs1 hf ?_ hS1
    rw [wsf_set (μ' := upM μ b (va_cpy (μ a) (μ b) i.toNatClampNeg j.toNatClampNeg n.toNatClampNeg)) hb (by rw [ent_int hkb, upM_self]) (fun j hj => ent_ne hj)] at hP
    exact hP
variable {y : MethodName} {bytes : ByteArray} {maxL n index : Nat} {ret : Option FieldType} {ws : List Cond} {rm : Room} {As st0 : List Value} {C host : String} {k : Nat}
theorem e_pre (X : Fx p m c cc nL s args w0 own meth rt E) (hW : Wo E μ H) : ∀ U : State, U.heap = H → s.WarmedH U.vm → PcE E As μ As.toArray U := fun U hU hw => ⟨rfl, by rw [hU]; exact hW, X.2.2.2.1.warm hw⟩
theorem e_prev (X : Fx p m c cc nL s args w0 own meth rt E) (hW : Wo E μ H) {T : u_T} {N : Nat} (hc : vwCl[kd k]? = some (C, T, N)) (hk : k < NC) : PreV s H C (E.1 k) (PcE E (.ref (E.1 k) :: As) μ) As :=
  ⟨PcE.blind, va_recv X.2.2.2.1.1 hW hc ((wsf_at hk).trans (by rw [ent_obj (vw_lt hc)])), e_pre X hW⟩
theorem r_i (hS : va_S (AE E) H0 H locs) {r : Int32} {u : Mem} {a : Array Value} (hr : va_Run p l e R s m args below meth c H locs cells slots 0 0 (F0 m pc ls st0) rest (QcI E r u a) (AE E))
    (kk : ∀ (H1 : Heap) (locs1 : List Loc), Wo E u H1 → va_S (AE E) H0 H1 locs1 → W p l e R s m args below meth c H1 locs1 cells slots Q (F0 m (pc + 3) ls (.int r :: rest))) : W p l e R s m args below meth c H locs cells slots Q (F0 m pc ls st0) := by
  refine va_calli hr hS (fun q _ h => h) (fun q h => h) (fun r1 u1 t H1 locs1 ht hvm hw hB hz hk hS1 => ?_)
  obtain ⟨rfl, rfl⟩ := hw
  exact kk H1 locs1 (by rw [← ht]; exact hB.1) hS1
theorem r_l (hS : va_S (AE E) H0 H locs) {r : Int64} {u : Mem} {a : Array Value} (hr : va_Run p l e R s m args below meth c H locs cells slots 0 0 (F0 m pc ls st0) rest (QcL E r u a) (AE E))
    (kk : ∀ (H1 : Heap) (locs1 : List Loc), Wo E u H1 → va_S (AE E) H0 H1 locs1 → W p l e R s m args below meth c H1 locs1 cells slots Q (F0 m (pc + 3) ls (.long r :: rest))) : W p l e R s m args below meth c H locs cells slots Q (F0 m pc ls st0) := by
  refine va_calll hr hS (fun q _ h => h) (fun q h => h) (fun r1 u1 t H1 locs1 ht hvm hw hB hz hk hS1 => ?_)
  obtain ⟨rfl, rfl⟩ := hw
  exact kk H1 locs1 (by rw [← ht]; exact hB.1) hS1
theorem r_v (hS : va_S (AE E) H0 H locs) {u : Mem} {a : Array Value} (hr : va_Run p l e R s m args below meth c H locs cells slots 0 0 (F0 m pc ls st0) rest (QcN E u a) (AE E))
    (kk : ∀ (H1 : Heap) (locs1 : List Loc), Wo E u H1 → va_S (AE E) H0 H1 locs1 → W p l e R s m args below meth c H1 locs1 cells slots Q (F0 m (pc + 3) ls rest)) : W p l e R s m args below meth c H locs cells slots Q (F0 m pc ls st0) := by
  refine va_callv hr hS (fun q _ h => h) (fun q h => h) (fun u1 t H1 locs1 ht hvm hw hB hz hk hS1 => ?_)
  cases hw
  exact kk H1 locs1 (by rw [← ht]; exact hB.1) hS1
theorem cal_some {α β : Type} {o : Option (β × Mem)} {f : β → Mem → Option α} {out : α} (h : cal o f = some out) : ∃ r u, o = some (r, u) ∧ f r u = some out := by
  cases o with
  | none => cases h
  | some q => exact ⟨q.1, q.2, rfl, h⟩
theorem cav_some {α : Type} {o : Option Mem} {f : Mem → Option α} {out : α} (h : cav o f = some out) : ∃ u, o = some u ∧ f u = some out := by
  cases o with
  | none => cases h
  | some q => exact ⟨q, rfl, h⟩
/-- a call of a method of an object: int, then none -/
theorem e_vi (X : Fx p m c cc nL s args w0 own meth rt E) (hl : ls.size = nL) (hW : Wo E μ H) (hS : va_S (AE E) H0 H locs) {T : u_T} {N : Nat} (hc : vwCl[kd k]? = some (C, T, N)) (hk : k < NC) {res : Option (Int32 × Mem)} (hM : CtI l y ws rm E (.ref (E.1 k) :: As) μ res) (cw : CallW R s args own C index y bytes maxL ret ws rm 0 0 n) (hn : As.length = n) (hst : st0 = As.reverse ++ .ref (E.1 k) :: rest) (hr8 : (rest.map fun v => v.category).sum ≤ 8) (hdg : decode cc pc = .ok (.invokevirtual index, 3)) (hcs : cells ≤ R.cells ∧ slots ≤ R.slots) {α : Type} {f : Int32 → Mem → Option α} {out : α} (hf : cal res f = some out)
    (kk : ∀ (r : Int32) (u : Mem) (H1 : Heap) (locs1 : List Loc), f r u = some out → Wo E u H1 → va_S (AE E) H0 H1 locs1 → W p l e R s m args below meth c H1 locs1 cells slots Q (F0 m (pc + 3) ls (.int r :: rest))) : W p l e R s m args below meth c H locs cells slots Q (F0 m pc ls st0) := by
  obtain ⟨r, u, h1, h2⟩ := cal_some hf
  exact r_i hS (va_runV X.1 (hM r u h1) cw (e_prev X hW hc hk) rfl hn hl hst (lv_room hr8) hdg hcs) (fun H1 locs1 w q => kk r u H1 locs1 h2 w q)
theorem e_vv (X : Fx p m c cc nL s args w0 own meth rt E) (hl : ls.size = nL) (hW : Wo E μ H) (hS : va_S (AE E) H0 H locs) {T : u_T} {N : Nat} (hc : vwCl[kd k]? = some (C, T, N)) (hk : k < NC) {res : Option Mem} (hM : CtV l y ws rm E (.ref (E.1 k) :: As) μ res) (cw : CallW R s args own C index y bytes maxL ret ws rm 0 0 n) (hn : As.length = n) (hst : st0 = As.reverse ++ .ref (E.1 k) :: rest) (hr8 : (rest.map fun v => v.category).sum ≤ 8) (hdg : decode cc pc = .ok (.invokevirtual index, 3)) (hcs : cells ≤ R.cells ∧ slots ≤ R.slots) {α : Type} {f : Mem → Option α} {out : α} (hf : cav res f = some out)
    (kk : ∀ (u : Mem) (H1 : Heap) (locs1 : List Loc), f u = some out → Wo E u H1 → va_S (AE E) H0 H1 locs1 → W p l e R s m args below meth c H1 locs1 cells slots Q (F0 m (pc + 3) ls rest)) : W p l e R s m args below meth c H locs cells slots Q (F0 m pc ls st0) := by
  obtain ⟨u, h1, h2⟩ := cav_some hf
  exact r_v hS (va_runV X.1 (hM u h1) cw (e_prev X hW hc hk) rfl hn hl hst (lv_room hr8) hdg hcs) (fun H1 locs1 w q => kk u H1 locs1 h2 w q)
theorem e_vl (X : Fx p m c cc nL s args w0 own meth rt E) (hl : ls.size = nL) (hW : Wo E μ H) (hS : va_S (AE E) H0 H locs) {T : u_T} {N : Nat} (hc : vwCl[kd k]? = some (C, T, N)) (hk : k < NC) {res : Option (Int64 × Mem)} (hM : CtL l y ws rm E (.ref (E.1 k) :: As) μ res) (cw : CallW R s args own C index y bytes maxL ret ws rm 0 0 n) (hn : As.length = n) (hst : st0 = As.reverse ++ .ref (E.1 k) :: rest) (hr8 : (rest.map fun v => v.category).sum ≤ 8) (hdg : decode cc pc = .ok (.invokevirtual index, 3)) (hcs : cells ≤ R.cells ∧ slots ≤ R.slots) {α : Type} {f : Int64 → Mem → Option α} {out : α} (hf : cal res f = some out)
    (kk : ∀ (r : Int64) (u : Mem) (H1 : Heap) (locs1 : List Loc), f r u = some out → Wo E u H1 → va_S (AE E) H0 H1 locs1 → W p l e R s m args below meth c H1 locs1 cells slots Q (F0 m (pc + 3) ls (.long r :: rest))) : W p l e R s m args below meth c H locs cells slots Q (F0 m pc ls st0) := by
  obtain ⟨r, u, h1, h2⟩ := cal_some hf
  exact r_l hS (va_runV X.1 (hM r u h1) cw (e_prev X hW hc hk) rfl hn hl hst (lv_room hr8) hdg hcs) (fun H1 locs1 w q => kk r u H1 locs1 h2 w q)
/-- a call of a static method of the own class -/
theorem e_si (X : Fx p m c cc nL s args w0 own meth rt E) (hl : ls.size = nL) (hW : Wo E μ H) (hS : va_S (AE E) H0 H locs) {res : Option (Int32 × Mem)} (hM : CtI l y ws rm E As μ res) (cw : CallB R s args own index y bytes maxL ret ws rm 0 0 n ∧ (Cond.static y).before args s = true) (hn : As.length = n) (hst : st0 = As.reverse ++ rest) (hr8 : (rest.map fun v => v.category).sum ≤ 8) (hdg : decode cc pc = .ok (.invokestatic index, 3)) (hcs : cells ≤ R.cells ∧ slots ≤ R.slots) {α : Type} {f : Int32 → Mem → Option α} {out : α} (hf : cal res f = some out)
    (kk : ∀ (r : Int32) (u : Mem) (H1 : Heap) (locs1 : List Loc), f r u = some out → Wo E u H1 → va_S (AE E) H0 H1 locs1 → W p l e R s m args below meth c H1 locs1 cells slots Q (F0 m (pc + 3) ls (.int r :: rest))) : W p l e R s m args below meth c H locs cells slots Q (F0 m pc ls st0) := by
  obtain ⟨r, u, h1, h2⟩ := cal_some hf
  exact r_i hS (va_runS X.1 (hM r u h1) cw ⟨PcE.blind, e_pre X hW⟩ rfl hn hl hst (lv_room hr8) hdg hcs) (fun H1 locs1 w q => kk r u H1 locs1 h2 w q)
theorem e_sv (X : Fx p m c cc nL s args w0 own meth rt E) (hl : ls.size = nL) (hW : Wo E μ H) (hS : va_S (AE E) H0 H locs) {res : Option Mem} (hM : CtV l y ws rm E As μ res) (cw : CallB R s args own index y bytes maxL ret ws rm 0 0 n ∧ (Cond.static y).before args s = true) (hn : As.length = n) (hst : st0 = As.reverse ++ rest) (hr8 : (rest.map fun v => v.category).sum ≤ 8) (hdg : decode cc pc = .ok (.invokestatic index, 3)) (hcs : cells ≤ R.cells ∧ slots ≤ R.slots) {α : Type} {f : Mem → Option α} {out : α} (hf : cav res f = some out)
    (kk : ∀ (u : Mem) (H1 : Heap) (locs1 : List Loc), f u = some out → Wo E u H1 → va_S (AE E) H0 H1 locs1 → W p l e R s m args below meth c H1 locs1 cells slots Q (F0 m (pc + 3) ls rest)) : W p l e R s m args below meth c H locs cells slots Q (F0 m pc ls st0) := by
  obtain ⟨u, h1, h2⟩ := cav_some hf
  exact r_v hS (va_runS X.1 (hM u h1) cw ⟨PcE.blind, e_pre X hW⟩ rfl hn hl hst (lv_room hr8) hdg hcs) (fun H1 locs1 w q => kk u H1 locs1 h2 w q)
/-- a call of a nest mate's private static method -/
theorem e_snv (X : Fx p m c cc nL s args w0 own meth rt E) (hl : ls.size = nL) (hW : Wo E μ H) (hS : va_S (AE E) H0 H locs) {res : Option Mem} (hM : CtV l y ws rm E As μ res) (cw : va_CN R s args own index y host bytes maxL ret ws rm 0 0 n ∧ (Cond.static y).before args s = true ∧ True) (hn : As.length = n) (hst : st0 = As.reverse ++ rest) (hr8 : (rest.map fun v => v.category).sum ≤ 8) (hdg : decode cc pc = .ok (.invokestatic index, 3)) (hcs : cells ≤ R.cells ∧ slots ≤ R.slots) {α : Type} {f : Mem → Option α} {out : α} (hf : cav res f = some out)
    (kk : ∀ (u : Mem) (H1 : Heap) (locs1 : List Loc), f u = some out → Wo E u H1 → va_S (AE E) H0 H1 locs1 → W p l e R s m args below meth c H1 locs1 cells slots Q (F0 m (pc + 3) ls rest)) : W p l e R s m args below meth c H locs cells slots Q (F0 m pc ls st0) := by
  obtain ⟨u, h1, h2⟩ := cav_some hf
  exact r_v hS (va_runSN X.1 (hM u h1) cw ⟨PcE.blind, e_pre X hW⟩ rfl hn hl hst (lv_room hr8) hdg hcs) (fun H1 locs1 w q => kk u H1 locs1 h2 w q)
end OWN

theorem lg_cmp_i {x y : Int64} : (lg_cmp x y = 1 ∧ y < x) ∨ (lg_cmp x y = 0 ∧ x = y) ∨ (lg_cmp x y = -1 ∧ x < y) := by
  by_cases h1 : y < x
  · exact Or.inl ⟨by simp [lg_cmp, h1], h1⟩
  · by_cases h2 : x = y
    · exact Or.inr (Or.inl ⟨by subst h2; simp [lg_cmp], h2⟩)
    · refine Or.inr (Or.inr ⟨by simp [lg_cmp, h1, h2], ?_⟩)
      rw [Int64.lt_iff_toInt_lt] at h1 ⊢
      have : x.toInt ≠ y.toInt := fun q => h2 (Int64.toInt_inj.mp q)
      omega
theorem lc_eq {x y : Int64} : lg_cmp x y = 0 ↔ x = y := by
  rcases lg_cmp_i (x := x) (y := y) with ⟨e, h⟩ | ⟨e, h⟩ | ⟨e, h⟩ <;> rw [e]
  · exact ⟨fun q => absurd q (by decide), fun q => by subst q; rw [Int64.lt_iff_toInt_lt] at h; omega⟩
  · exact ⟨fun _ => h, fun _ => rfl⟩
  · exact ⟨fun q => absurd q (by decide), fun q => by subst q; rw [Int64.lt_iff_toInt_lt] at h; omega⟩
theorem lc_lt {x y : Int64} : lg_cmp x y < 0 ↔ x < y := by
  rcases lg_cmp_i (x := x) (y := y) with ⟨e, h⟩ | ⟨e, h⟩ | ⟨e, h⟩ <;> rw [e]
  · exact ⟨fun q => absurd q (by decide), fun q => by rw [Int64.lt_iff_toInt_lt] at h q; omega⟩
  · exact ⟨fun q => absurd q (by decide), fun q => by subst h; rw [Int64.lt_iff_toInt_lt] at q; omega⟩
  · exact ⟨fun _ => h, fun _ => by decide⟩
theorem lc_gt {x y : Int64} : 0 < lg_cmp x y ↔ y < x := by
  rcases lg_cmp_i (x := x) (y := y) with ⟨e, h⟩ | ⟨e, h⟩ | ⟨e, h⟩ <;> rw [e]
  · exact ⟨fun _ => h, fun _ => by decide⟩
  · exact ⟨fun q => absurd q (by decide), fun q => by subst h; rw [Int64.lt_iff_toInt_lt] at q; omega⟩
  · exact ⟨fun q => absurd q (by decide), fun q => by rw [Int64.lt_iff_toInt_lt] at h q; omega⟩
theorem lc_ge {x y : Int64} : 0 ≤ lg_cmp x y ↔ y ≤ x := by
  rcases lg_cmp_i (x := x) (y := y) with ⟨e, h⟩ | ⟨e, h⟩ | ⟨e, h⟩ <;> rw [e]
  · exact ⟨fun _ => by rw [Int64.lt_iff_toInt_lt] at h; rw [Int64.le_iff_toInt_le]; omega, fun _ => by decide⟩
  · exact ⟨fun _ => by subst h; rw [Int64.le_iff_toInt_le]; omega, fun _ => by decide⟩
  · exact ⟨fun q => absurd q (by decide), fun q => by rw [Int64.lt_iff_toInt_lt] at h; rw [Int64.le_iff_toInt_le] at q; omega⟩
theorem lc_le {x y : Int64} : lg_cmp x y ≤ 0 ↔ x ≤ y := by
  rcases lg_cmp_i (x := x) (y := y) with ⟨e, h⟩ | ⟨e, h⟩ | ⟨e, h⟩ <;> rw [e]
  · exact ⟨fun q => absurd q (by decide), fun q => by rw [Int64.lt_iff_toInt_lt] at h; rw [Int64.le_iff_toInt_le] at q; omega⟩
  · exact ⟨fun _ => by subst h; rw [Int64.le_iff_toInt_le]; omega, fun _ => by decide⟩
  · exact ⟨fun _ => by rw [Int64.lt_iff_toInt_lt] at h; rw [Int64.le_iff_toInt_le]; omega, fun _ => by decide⟩
/-! references of one kind: the LOAVES kept, the prices, and the rows of rows -/
def isLv (k : Nat) : Prop := k < NC ∧ kd k = 3 ∧ ∀ j, j < 6 → gt k j = k + 1 + j ∧ k + 1 + j < NC ∧ kd (k + 1 + j) = 10 ∧ ln (k + 1 + j) = 40
def isPr (k : Nat) : Prop := k < NC ∧ kd k = 4 ∧ ∀ j, j < 2 → gt k j = k + 1 + j ∧ k + 1 + j < NC ∧ kd (k + 1 + j) = 10 ∧ ln (k + 1 + j) = 8
theorem isLv_all : ∀ k ∈ [9, 18, 25, 32, 39, 46], isLv k := by
  intro k hk
  simp only [List.mem_cons, List.not_mem_nil, or_false] at hk
  rcases hk with rfl | rfl | rfl | rfl | rfl | rfl <;> exact ⟨by decide, by decide, by decide⟩
theorem isLv_9 : isLv 9 := isLv_all 9 (by decide)
theorem isPr_73 : isPr 73 := ⟨by decide, by decide, by decide⟩
theorem isPr_76 : isPr 76 := ⟨by decide, by decide, by decide⟩
theorem rowItems {t : Nat} (h : ∃ j, j < ln 4 ∧ t = gt 4 j) : t < NC ∧ kd t = 10 := by
  obtain ⟨j, hj, rfl⟩ := h
  exact (show ∀ j, j < ln 4 → gt 4 j < NC ∧ kd (gt 4 j) = 10 by decide) j hj
theorem rowWays {t : Nat} (h : ∃ j, j < ln 80 ∧ t = gt 80 j) : t < NC ∧ kd t = 10 := by
  obtain ⟨j, hj, rfl⟩ := h
  exact (show ∀ j, j < ln 80 → gt 80 j < NC ∧ kd (gt 80 j) = 10 by decide) j hj
theorem rowSlots {t : Nat} (h : ∃ j, j < ln 17 ∧ t = gt 17 j) : isLv t := by
  obtain ⟨j, hj, rfl⟩ := h
  exact isLv_all _ ((show ∀ j, j < ln 17 → gt 17 j ∈ [9, 18, 25, 32, 39, 46] by decide) j hj)
