/-! constructors: the worlds that they make -/
def va_AOA (ty : FieldType) (U : State) : Prop := (Cond.arrayOver (.array ty)).before #[] U = true
theorem va_AOA.of {ty : FieldType} {A : Array Value} {U : State} (h : (Cond.arrayOver (.array ty)).before A U = true) : va_AOA ty U := h
theorem va_AOA.use {ty : FieldType} {A : Array Value} {U : State} (h : va_AOA ty U) : (Cond.arrayOver (.array ty)).before A U = true := h
/-! ===== BEGIN new T[n][m]: the outer array a place, the inner ones among the pooled ===== -/
/-- f, but v at every address of l -/
def vr_up {α : Type} (f : Nat → α) (l : List Nat) (v : α) : Nat → α := fun a => if a ∈ l then v else f a
theorem vr_up_in {α : Type} {f : Nat → α} {l : List Nat} {v : α} {a : Nat} (h : a ∈ l) : vr_up f l v a = v := if_pos h
theorem vr_up_ne {α : Type} {f : Nat → α} {l : List Nat} {v : α} {a : Nat} (h : a ∉ l) : vr_up f l v a = f a := if_neg h
theorem vr_rows {L l : List Nat} {f : Nat → va_E} {e : va_E} (h : ∀ a, a ∈ l → a ∉ L) : va_pl L f ++ l.map (fun a => (a, e)) = va_pl (L ++ l) (vr_up f l e) := by
  unfold va_pl
  rw [List.map_append]
  congr 1
  · apply List.map_congr_left
    intro a ha
    rw [vr_up_ne (fun q => h a q ha)]
  · apply List.map_congr_left
    intro a ha
    rw [vr_up_in ha]
theorem vr_lay {X rows : va_W} {x : Nat × va_E} {pl : va_W} {D : va_G} {cl : List vw_C} {H : Heap} (hP : va_P D cl (((X ++ pl) ++ [x]) ++ rows) H) : va_P D cl ((X ++ [x]) ++ (pl ++ rows)) H := by
  rw [List.append_assoc (X ++ pl)] at hP
  have h := va_P.swap hP
  rw [← List.append_assoc X] at h
  have h2 := va_P.swap h
  rw [List.append_assoc (X ++ [x])] at h2
  exact h2
theorem vr_layD {X rows : va_W} {x : Nat × va_E} {pl : va_W} {A : Nat → Prop} (hD : va_D A (((X ++ pl) ++ [x]) ++ rows)) : va_D A ((X ++ [x]) ++ (pl ++ rows)) := by
  rw [List.append_assoc (X ++ pl)] at hD
  have h := va_D.swap hD
  rw [← List.append_assoc X] at h
  have h2 := va_D.swap h
  rw [List.append_assoc (X ++ [x])] at h2
  exact h2
theorem vr_outer (c : ClassId) (N h0 : Nat) : ∀ i : Nat, Jvm.Free.Multi.outerC c N h0 i = arrV c N (fun j => va_rf (if j < i then some (h0 + 1 + j) else none))
  | 0 => by
    show ({ cls := c, slots := Array.replicate N .null, vm := .none } : Cell) = _
    rw [arrV_new]
    refine congrArg (arrV c N) (funext fun j => ?_)
    simp [va_rf]
  | i + 1 => by
    show (Jvm.Free.Multi.outerC c N h0 i).setSlot i (.ref (h0 + 1 + i)) = _
    rw [vr_outer c N h0 i, arrV_store]
    refine congrArg (arrV c N) (funext fun j => ?_)
    by_cases e : j = i
    · subst e
      simp [updV, va_rf]
    · by_cases h : j < i
      · simp [updV, e, h, Nat.lt_succ_of_lt h]
      · simp [updV, e, h, show ¬ j < i + 1 by omega]
section VGM
variable {p : Program} {l : Launch} {e : Env} {R : Room} {s : State} {m : MethodId} {args : Array Value} {below : List Frame} {meth : Method} {c : Code} {H : Heap} {locs : List Loc} {cells slots : Nat} {Q : State → Prop}
variable {cc : ByteArray} {pc : Nat} {ls : Array Slot} {rest : List Value} {D : va_G} {cl : List vw_C} {A : Nat → Prop} {a : Nat} {tys : List (ClassId × FieldType)} {ws : va_W} {H0 : Heap}
theorem va_mna {X : va_W} {L : List Nat} {f : Nat → va_E} {cc : ByteArray} (hexec : p.tables.exec = Jvm.exec) (hb : c.code = cc) {own : String} {index : Nat} {ty : FieldType} {cy : ClassId} (hown : s.vm.findClass own = some m.cls) (hclink : (Cond.classLink own index ("[" ++ (FieldType.array ty).toString)).before args s = true) (hover : va_AOA ty s) (harr : (Cond.arrayClass ty).before args s = true) (hcy : s.vm.findClass (FieldType.array ty).toString = some cy)
    (hK : va_K D cl tys s) (hP : va_P D cl (X ++ va_pl L f) H) (hD : va_D A (X ++ va_pl L f)) (hS : va_S A H0 H locs) (hA : ∀ q, H0.size ≤ q → A q) {n k : Int32} {N' K' : Nat} {z : vp_A} (hn : ¬ n < 0) (hk : ¬ k < 0) (hN : n.toNatClampNeg = N') (hM : k.toNatClampNeg = K')
    (hb1 : N' * 4 ≤ 536870912) (hb2 : K' * componentBytes ty ≤ 536870912) (hb3 : K' ≤ 536870912) (hdf : fits ty (defaultValue ty) = true) (hdd : (defaultValue ty).isDefault = true) (hcells : cells + (1 + N') ≤ R.cells) (hslots : slots + (N' + N' * K') ≤ R.slots) (hz : ∀ c : ClassId, Jvm.Free.Multi.innerC c K' (defaultValue ty) = vp_cell c z) (hdg : decode cc pc = .ok (.multianewarray index 2, 4))
    (kk : ∀ (q : Nat) (r : Nat → Nat) (cA : ClassId) (H1 : Heap), (∀ i j : Nat, i < N' → j < N' → r i = r j → i = j) → (∀ i : Nat, i < N' → r i ∉ L) → va_K D cl (tys ++ [(cA, .array ty)]) s →
      va_P D cl ((X ++ [(q, .inl (cA, N', .inr (.inr (.inr (.inr (fun i => if i < N' then some (r i) else none))))))]) ++ va_pl (L ++ (List.range N').map r) (vr_up f ((List.range N').map r) (.inl (cy, z)))) H1 → va_D A ((X ++ [(q, .inl (cA, N', .inr (.inr (.inr (.inr (fun i => if i < N' then some (r i) else none))))))]) ++ va_pl (L ++ (List.range N').map r) (vr_up f ((List.range N').map r) (.inl (cy, z)))) → va_S A H0 H1 locs →
      W p l e R s m args below meth c H1 locs (cells + 1 + N') (slots + N' + N' * K') Q (F0 m (pc + 4) ls (.ref q :: rest))) : W p l e R s m args below meth c H locs cells slots Q (F0 m pc ls (.int k :: .int n :: rest)) := by
  subst hN
  subst hM
  intro T hT Xs
  obtain ⟨vm₁, cA, comp, -, fA, fC, hO, -, X', step⟩ := Xs.multianewarray2F hexec hown hclink (va_AOA.use hover) harr (g := F0 m pc ls (.int k :: .int n :: rest)) rfl (by rw [hb]; exact hdg) rfl hn hk hb1 hb2 hb3 hdf hdd hcells hslots
  have ec : some cy = some comp := hcy.symm.trans fC
  cases ec
  generalize hF : Jvm.Free.Multi.fill (T.setVm vm₁) cA cy n.toNatClampNeg k.toNatClampNeg (defaultValue ty) n.toNatClampNeg = F at X' step
  have hTh : (T.setVm vm₁).heap = H := hT
  obtain ⟨f1, f2, -, -⟩ := Jvm.Free.Multi.fill_facts (T.setVm vm₁) cA cy n.toNatClampNeg k.toNatClampNeg (defaultValue ty) n.toNatClampNeg
  rw [hF, hTh] at f1 f2
  have hold : ∀ x : Nat, x < H.size → F.heap[x]? = H[x]? := fun x hx => by
    have := Jvm.Free.Multi.fill_old (T.setVm vm₁) cA cy n.toNatClampNeg k.toNatClampNeg (defaultValue ty) (a := x) (by rw [hTh]; exact hx) n.toNatClampNeg
    rw [hF, hTh] at this
    exact this
  have hrow : ∀ j : Nat, j < n.toNatClampNeg → F.heap[H.size + 1 + j]? = some (vp_cell cy z) := fun j hj => by
    have := Jvm.Free.Multi.fill_inner (T.setVm vm₁) cA cy n.toNatClampNeg k.toNatClampNeg (defaultValue ty) n.toNatClampNeg j hj
    rw [hF, hTh, hz] at this
    exact this
  have hout : Jvm.Free.Multi.outerC cA n.toNatClampNeg H.size n.toNatClampNeg = vp_cell cA (n.toNatClampNeg, .inr (.inr (.inr (.inr (fun i => if i < n.toNatClampNeg then some (H.size + 1 + i) else none))))) := by
    rw [vp_cell_q]
    exact vr_outer cA n.toNatClampNeg H.size n.toNatClampNeg
  rw [hout] at f2
  have hlt : ∀ a, a ∈ L → a < H.size := fun a ha => by
    obtain ⟨k9, hk9⟩ := va_pl_get (X := X) (f := f) ha
    exact (hP k9 _ hk9).lt
  have hnl : ∀ i : Nat, i < n.toNatClampNeg → H.size + 1 + i ∉ L := fun i _ h => by
    have := hlt _ h
    omega
  have hnm : ∀ a, a ∈ (List.range n.toNatClampNeg).map (fun i => H.size + 1 + i) → a ∉ L := fun a ha h => by
    obtain ⟨i, -, rfl⟩ := List.mem_map.mp ha
    have := hlt _ h
    omega
  have hP0 : va_P D cl (X ++ va_pl L f) F.heap := hP.kept (fun k9 x hx => hold x.1 ((hP k9 x hx).lt))
  have hP1 : va_P D cl ((X ++ va_pl L f) ++ [(H.size, .inl (cA, n.toNatClampNeg, .inr (.inr (.inr (.inr (fun i => if i < n.toNatClampNeg then some (H.size + 1 + i) else none))))))]) F.heap := hP0.app (fun k9 x hx => by
    have h0 : k9 < 1 := (List.getElem?_eq_some_iff.mp hx).1
    rw [show k9 = 0 by omega] at hx
    cases hx
    exact f2)
  have hP2 : va_P D cl (((X ++ va_pl L f) ++ [(H.size, .inl (cA, n.toNatClampNeg, .inr (.inr (.inr (.inr (fun i => if i < n.toNatClampNeg then some (H.size + 1 + i) else none))))))]) ++ ((List.range n.toNatClampNeg).map (fun i => H.size + 1 + i)).map (fun a => (a, .inl (cy, z)))) F.heap := hP1.app (fun k9 x hx => by
    obtain ⟨a, ha, rfl⟩ := List.mem_map.mp (List.mem_of_getElem? hx)
    obtain ⟨i, hi, rfl⟩ := List.mem_map.mp ha
    exact hrow i (List.mem_range.mp hi))
  have hD2 : va_D A (((X ++ va_pl L f) ++ [(H.size, .inl (cA, n.toNatClampNeg, .inr (.inr (.inr (.inr (fun i => if i < n.toNatClampNeg then some (H.size + 1 + i) else none))))))]) ++ ((List.range n.toNatClampNeg).map (fun i => H.size + 1 + i)).map (fun a => (a, .inl (cy, z)))) := by
    have hD1 := hD.push (e := .inl (cA, n.toNatClampNeg, .inr (.inr (.inr (.inr (fun i => if i < n.toNatClampNeg then some (H.size + 1 + i) else none)))))) hP rfl (hA _ hS.1)
    generalize hW1 : (X ++ va_pl L f) ++ [(H.size, .inl (cA, n.toNatClampNeg, .inr (.inr (.inr (.inr (fun i => if i < n.toNatClampNeg then some (H.size + 1 + i) else none))))))] = W1 at hD1 hP1 ⊢
    have hle : ∀ (k9 : Nat) (x : Nat × va_E), W1[k9]? = some x → x.1 ≤ H.size := fun k9 x hx => by
      rw [← hW1] at hx
      by_cases hl : k9 < (X ++ va_pl L f).length
      · rw [List.getElem?_append_left hl] at hx
        exact Nat.le_of_lt ((hP k9 x hx).lt)
      · rw [List.getElem?_append_right (by omega)] at hx
        have h0 : k9 - (X ++ va_pl L f).length < 1 := (List.getElem?_eq_some_iff.mp hx).1
        rw [show k9 - (X ++ va_pl L f).length = 0 by omega] at hx
        cases hx
        exact Nat.le_refl _
    have hr : ∀ (k9 : Nat) (x : Nat × va_E), (((List.range n.toNatClampNeg).map (fun i => H.size + 1 + i)).map (fun a => ((a, .inl (cy, z)) : Nat × va_E)))[k9]? = some x → x.1 = H.size + 1 + k9 := fun k9 x hx => by
      rw [List.getElem?_map, List.getElem?_map] at hx
      by_cases h9 : k9 < n.toNatClampNeg
      · rw [List.getElem?_range h9] at hx
        cases hx
        rfl
      · have hn0 : (List.range n.toNatClampNeg)[k9]? = none := List.getElem?_eq_none (by rw [List.length_range]; omega)
        rw [hn0] at hx
        cases hx
    refine ⟨fun i j x y hi hj hxy => ?_, fun k9 x hx => ?_⟩
    · by_cases h1 : i < W1.length <;> by_cases h2 : j < W1.length
      · rw [List.getElem?_append_left h1] at hi
        rw [List.getElem?_append_left h2] at hj
        exact hD1.1 i j x y hi hj hxy
      · rw [List.getElem?_append_left h1] at hi
        rw [List.getElem?_append_right (by omega)] at hj
        have := hle _ _ hi
        have := hr _ _ hj
        omega
      · rw [List.getElem?_append_right (by omega)] at hi
        rw [List.getElem?_append_left h2] at hj
        have := hle _ _ hj
        have := hr _ _ hi
        omega
      · rw [List.getElem?_append_right (by omega)] at hi hj
        have := hr _ _ hi
        have := hr _ _ hj
        omega
    · by_cases h1 : k9 < W1.length
      · rw [List.getElem?_append_left h1] at hx
        exact hD1.2 k9 x hx
      · rw [List.getElem?_append_right (by omega)] at hx
        have := hr _ _ hx
        exact hA _ (by have := hS.1; omega)
  have hAr : ArrOfT s cA (.array ty) := fun N9 z9 => by
    obtain ⟨-, k9, hk9, cm9, hkk9⟩ := (hO 0 0 0).1
    exact ⟨(fun q hq => by cases hq), k9, hk9, cm9, hkk9⟩
  have hK2 : va_K D cl (tys ++ [(cA, .array ty)]) s := ⟨hK.1, fun k9 x hx => by
    by_cases hl : k9 < tys.length
    · rw [List.getElem?_append_left hl] at hx
      exact hK.2 k9 x hx
    · rw [List.getElem?_append_right (by omega)] at hx
      have h0 : k9 - tys.length < 1 := (List.getElem?_eq_some_iff.mp hx).1
      rw [show k9 - tys.length = 0 by omega] at hx
      cases hx
      exact ⟨hAr, fA⟩⟩
  obtain ⟨t, a1, b1⟩ := kk H.size (fun i => H.size + 1 + i) cA F.heap (fun i j _ _ h => by have h9 : H.size + 1 + i = H.size + 1 + j := h; omega) hnl hK2 (by rw [← vr_rows hnm]; exact vr_lay hP2) (by rw [← vr_rows hnm]; exact vr_layD hD2) ⟨by rw [f1]; have := hS.1; omega, fun x h1 h2 => (hold x (Nat.lt_of_lt_of_le h1 hS.1)).trans (hS.2.1 x h1 h2), hS.2.2⟩ F rfl X'
  refine ⟨t, step t ?_, b1⟩
  have e : T.heap.size = H.size := by rw [hT]
  rw [e]
  exact a1
end VGM
def Kc (E : Gv) (s : State) : Prop := Ko E s ∧ va_AO "OvenHouse$Loaves" s ∧ va_AOA .int s
theorem va_AOA.moved {ty : FieldType} {u U : State} (hvm : u.vm.Alike U.vm) (h : va_AOA ty u) : va_AOA ty U := Jvm.Stand.arrayOver_alikeB hvm h
theorem Kc.warm {E : Gv} {s U : State} (hw : s.WarmedH U.vm) (h : Kc E s) : Kc E U := ⟨h.1.warm hw, h.2.1.moved hw.alike, h.2.2.moved hw.alike⟩
abbrev Fi (p : Program) (m : MethodId) (c : Code) (cc : ByteArray) (nL : Nat) (s : State) (args : Array Value) (w0 : Cond) (own : String) (meth : Method) (E : Gv) (nm : String) : Prop :=
  CallFix p m c cc nL s args (w0 :: GG) own ∧ meth.sig.returnType = none ∧ meth.locks = false ∧ Kc E s ∧ meth.name = nm
def PcC (E : Gv) (As : List Value) (ws : va_W) (sz : Nat) : Array Value → State → Prop := va_Pc As (fun U => U.heap.size = sz ∧ va_P E.2.2 vwCl ws U.heap ∧ Kc E U ∧ va_D (fun _ => True) ws)
def QcC (E : Gv) (ws : va_W) (sz : Nat) (PW : (Nat → Nat) → va_W) : Array Value → State → Outcome → State → Prop := va_Qv (fun _ : Nat → Nat => True) (fun u t => va_P E.2.2 vwCl (PW u) t.heap ∧ Kc E t ∧ va_D (va_A ws sz) (PW u)) (va_A ws sz)
theorem PcC.blind {E : Gv} {As : List Value} {ws : va_W} {sz : Nat} : FrameBlind (PcC E As ws sz) := fun a U g mk q => ⟨q.1, q.2.1, q.2.2.1, ⟨⟨va_K.moved (u := U) (U := U.calling g mk a) (Vm.Alike.refl U.vm) q.2.2.2.1.1.1, fun w hw => va_Nw.same rfl rfl (q.2.2.2.1.1.2 w hw)⟩, va_AO.moved (u := U) (U := U.calling g mk a) (Vm.Alike.refl U.vm) q.2.2.2.1.2.1, va_AOA.moved (u := U) (U := U.calling g mk a) (Vm.Alike.refl U.vm) q.2.2.2.1.2.2⟩, q.2.2.2.2⟩
theorem c_keep {A : Nat → Prop} {D : va_G} {ws : va_W} {j q : Nat} {e0 : va_E} {H H1 : Heap} (hP : va_P D vwCl ws H) (hD : va_D A ws) (hj : ws[j]? = some (q, e0)) (hk : ∀ x : Nat, x < H.size → ¬ va_A [(q, e0)] H.size x → H1[x]? = H[x]?) {k : Nat} {x : Nat × va_E} (hx : ws[k]? = some x) (hkj : k ≠ j) : va_at D vwCl x H1 ∧ x.1 < H.size ∧ ¬ va_A [(q, e0)] H.size x.1 := by
  have hl := (hP k x hx).lt
  have hn : ¬ va_A [(q, e0)] H.size x.1 := by
    rintro (⟨i, e, hi⟩ | h)
    · have h0 : i < 1 := (List.getElem?_eq_some_iff.mp hi).1
      rw [show i = 0 by omega] at hi
      cases hi
      exact hkj (hD.1 k j x _ hx hj rfl)
    · omega
  exact ⟨(hP k x hx).kept (hk x.1 hl hn), hl, hn⟩
theorem c_join {A : Nat → Prop} {D : va_G} {wr w1 : va_W} {q : Nat} {e0 : va_E} {H H1 : Heap} (hP : va_P D vwCl (wr ++ [(q, e0)]) H) (hD : va_D A (wr ++ [(q, e0)])) (hk : ∀ x : Nat, x < H.size → ¬ va_A [(q, e0)] H.size x → H1[x]? = H[x]?) (hF : ∀ x, va_A [(q, e0)] H.size x → A x) (hP1 : va_P D vwCl w1 H1) (hD1 : va_D (va_A [(q, e0)] H.size) w1) : va_P D vwCl (wr ++ w1) H1 ∧ va_D A (wr ++ w1) := by
  have hj : (wr ++ [(q, e0)])[wr.length]? = some (q, e0) := by simp
  have up : ∀ (k : Nat) (x : Nat × va_E), wr[k]? = some x → (wr ++ [(q, e0)])[k]? = some x ∧ k ≠ wr.length := fun k x hx => by
    have h1 := (List.getElem?_eq_some_iff.mp hx).1
    exact ⟨by rw [List.getElem?_append_left h1]; exact hx, by omega⟩
  have hDr : va_D A wr := ⟨fun i j x y hi hj' e => hD.1 i j x y (up i x hi).1 (up j y hj').1 e, fun k x hx => hD.2 k x (up k x hx).1⟩
  refine ⟨va_P.app (fun k x hx => (c_keep hP hD hj hk (up k x hx).1 (up k x hx).2).1) hP1, va_D.app hDr (hD1.weaken (fun k x _ h => hF x.1 h)) (fun i k x y hx hy e => ?_)⟩
  exact (c_keep hP hD hj hk (up i x hx).1 (up i x hx).2).2.2 (by rw [e]; exact hD1.2 k y hy)
section OWNC
variable {p : Program} {l : Launch} {e : Env} {R : Room} {s : State} {m : MethodId} {args : Array Value} {below : List Frame} {meth : Method} {c : Code} {H : Heap} {locs : List Loc} {cells slots : Nat} {Q : State → Prop}
variable {cc : ByteArray} {nL pc : Nat} {ls : Array Slot} {rest : List Value} {E : Gv} {w0 : Cond} {own : String} {H0 : Heap} {A : Nat → Prop} {ws : va_W} {nm : String}
theorem c_entry {y : MethodName} {rm : Room} {maxL mc ms sz : Nat} {w1 : va_W} {PW : (Nat → Nat) → va_W} (hy : plainName y.cls = true) {As : List Value} (hA : (lg_sl As).length ≤ maxL)
    (body : ∀ p e s m args below meth c, Fi p m c cc maxL s args (Cond.code y cc maxL none) y.cls meth E y.name → s.heap.size = sz → va_P E.2.2 vwCl w1 s.heap → va_D (va_A w1 sz) w1 → ∀ ls, lv_has ls maxL (lv_args 0 As) → W p l e rm s m args below meth c s.heap [] 0 0 (MQ below (QcC E w1 sz PW) args s mc ms (va_A w1 sz)) (F0 m 0 ls [])) : Met l y (Cond.code y cc maxL none :: GG) rm (PcC E As w1 sz) (QcC E w1 sz PW) mc ms (va_A w1 sz) := by
  refine Met.ofW (cc := cc) (maxL := maxL) (ret := none) hy rfl ?_
  intro p e s m args below meth c s₁ B hml hv
  obtain ⟨rfl, hsz, hW, hK, hD⟩ := hv
  have hl := lv_entry As (n := maxL) hA
  rw [lg_entry_eq]
  exact body p e s m _ below meth c ⟨⟨B.exec, B.bytes, hml, findClass_of_methodNamed B.named, atoms_spec (ws := Cond.code y cc maxL none :: GG) B.pre⟩, B.returns, B.notSynchronized, hK, (name_of_methodNamed B.named B.method).1⟩ hsz hW hD.self _ hl
theorem c_obj (X : Fi p m c cc nL s args w0 own meth E nm) (hl : ls.size = nL) {idx : Nat} (h1 : Cond.methodLink own idx Lib.objectInit ∈ GG) (h2 : Cond.instanceMethod Lib.objectInit ∈ GG) (h3 : Cond.code Lib.objectInit ⟨#[0xb1]⟩ 1 none ∈ GG) {a : Nat} (hdg : decode cc pc = .ok (.invokespecial idx, 3)) (hR : 1 ≤ R.frames ∧ (rest.map fun v => v.category).sum + 12 ≤ R.locals)
    (kk : W p l e R s m args below meth c H locs cells slots Q (F0 m (pc + 3) ls rest)) : W p l e R s m args below meth c H locs cells slots Q (F0 m pc ls (.ref a :: rest)) := by
  refine W.objInit X.1.1 X.1.2.1 X.1.2.2.2.1 (X.1.2.2.2.2 _ (List.mem_cons_of_mem _ h1)) (X.1.2.2.2.2 _ (List.mem_cons_of_mem _ h2)) (X.1.2.2.2.2 _ (List.mem_cons_of_mem _ h3)) rfl (hl.trans X.1.2.2.1.symm) rfl hdg hR.1 (by show 2 * 0 + _ + 12 ≤ _; have := hR.2; omega) ?_
  exact kk
theorem c_newi (X : Fi p m c cc nL s args w0 own meth E nm) (hP : va_P E.2.2 vwCl ws H) (hD : va_D A ws) (hS : va_S A H0 H locs) (hA : ∀ q, H0.size ≤ q → A q) (harr : Cond.arrayClass .int ∈ GG) {n : Int32} {N : Nat} (hn : ¬ n < 0) (hN : n.toNatClampNeg = N) (hbig : N * 4 ≤ 536870912) (hc : cells + 1 ≤ R.cells) (hs : slots + N ≤ R.slots) (hdg : decode cc pc = .ok (.newarray .int, 2))
    (kk : ∀ (q : Nat) (H1 : Heap), va_P E.2.2 vwCl (ws ++ [(q, .inl (E.2.1 10, N, .inl (fun _ => 0)))]) H1 → va_D A (ws ++ [(q, .inl (E.2.1 10, N, .inl (fun _ => 0)))]) → va_S A H0 H1 locs → W p l e R s m args below meth c H1 locs (cells + 1) (slots + N) Q (F0 m (pc + 2) ls (.ref q :: rest))) : W p l e R s m args below meth c H locs cells slots Q (F0 m pc ls (.int n :: rest)) := by
  refine va_newa (atype := .int) (ty := .int) (a0 := (N, .inl (fun _ => 0))) X.1.1 X.1.2.1 (X.1.2.2.2.2 _ (List.mem_cons_of_mem _ harr)) rfl X.2.2.2.1.1.1 hP hD hS hA (fun _ => rfl) hn hN hbig hc hs hdg (fun q cA H1 hK hP hD hS => ?_)
  have h1 : s.vm.findClass ("[" ++ FieldType.int.toString) = some cA := (hK.2 4 (cA, .int) rfl).2
  have h2 : s.vm.findClass ("[" ++ FieldType.int.toString) = some (E.2.1 10) := (hK.2 0 (E.2.1 10, .int) rfl).2
  have e1 : cA = E.2.1 10 := Option.some.inj (h1.symm.trans h2)
  subst e1
  exact kk q H1 hP hD hS
theorem c_newz (X : Fi p m c cc nL s args w0 own meth E nm) (hP : va_P E.2.2 vwCl ws H) (hD : va_D A ws) (hS : va_S A H0 H locs) (hA : ∀ q, H0.size ≤ q → A q) (harr : Cond.arrayClass .boolean ∈ GG) {n : Int32} {N : Nat} (hn : ¬ n < 0) (hN : n.toNatClampNeg = N) (hbig : N * componentBytes .boolean ≤ 536870912) (hc : cells + 1 ≤ R.cells) (hs : slots + N ≤ R.slots) (hdg : decode cc pc = .ok (.newarray .boolean, 2))
    (kk : ∀ (q : Nat) (H1 : Heap), va_P E.2.2 vwCl (ws ++ [(q, .inl (E.2.1 11, N, .inl (fun _ => 0)))]) H1 → va_D A (ws ++ [(q, .inl (E.2.1 11, N, .inl (fun _ => 0)))]) → va_S A H0 H1 locs → W p l e R s m args below meth c H1 locs (cells + 1) (slots + N) Q (F0 m (pc + 2) ls (.ref q :: rest))) : W p l e R s m args below meth c H locs cells slots Q (F0 m pc ls (.int n :: rest)) := by
  refine va_newa (atype := .boolean) (ty := .boolean) (a0 := (N, .inl (fun _ => 0))) X.1.1 X.1.2.1 (X.1.2.2.2.2 _ (List.mem_cons_of_mem _ harr)) rfl X.2.2.2.1.1.1 hP hD hS hA (fun _ => rfl) hn hN hbig hc hs hdg (fun q cA H1 hK hP hD hS => ?_)
  have h1 : s.vm.findClass ("[" ++ FieldType.boolean.toString) = some cA := (hK.2 4 (cA, .boolean) rfl).2
  have h2 : s.vm.findClass ("[" ++ FieldType.boolean.toString) = some (E.2.1 11) := (hK.2 1 (E.2.1 11, .boolean) rfl).2
  have e1 : cA = E.2.1 11 := Option.some.inj (h1.symm.trans h2)
  subst e1
  exact kk q H1 hP hD hS
theorem c_newq (X : Fi p m c cc nL s args w0 own meth E nm) (hP : va_P E.2.2 vwCl ws H) (hD : va_D A ws) (hS : va_S A H0 H locs) (hA : ∀ q, H0.size ≤ q → A q) {idx : Nat} (hcl : Cond.classLink own idx "OvenHouse$Loaves" ∈ GG) {n : Int32} {N : Nat} (hn : ¬ n < 0) (hN : n.toNatClampNeg = N) (hbig : N * 4 ≤ 536870912) (hc : cells + 1 ≤ R.cells) (hs : slots + N ≤ R.slots) (hdg : decode cc pc = .ok (.anewarray idx, 3))
    (kk : ∀ (q : Nat) (H1 : Heap), va_P E.2.2 vwCl (ws ++ [(q, .inl (E.2.1 12, N, .inr (.inr (.inr (.inr (fun _ => none))))))]) H1 → va_D A (ws ++ [(q, .inl (E.2.1 12, N, .inr (.inr (.inr (.inr (fun _ => none))))))]) → va_S A H0 H1 locs → W p l e R s m args below meth c H1 locs (cells + 1) (slots + N) Q (F0 m (pc + 3) ls (.ref q :: rest))) : W p l e R s m args below meth c H locs cells slots Q (F0 m pc ls (.int n :: rest)) := by
  refine va_newq (C := "OvenHouse$Loaves") X.1.1 X.1.2.1 X.1.2.2.2.1 (X.1.2.2.2.2 _ (List.mem_cons_of_mem _ hcl)) X.2.2.2.1.2.1 X.2.2.2.1.1.1 hP hD hS hA hn hN hbig hc hs hdg (fun q cA H1 hK hP hD hS => ?_)
  obtain ⟨_, _, _, _, _, h1⟩ := (hK.2 4 (cA, .object "OvenHouse$Loaves") rfl).2
  obtain ⟨_, _, _, _, _, h2⟩ := (hK.2 2 (E.2.1 12, .object "OvenHouse$Loaves") rfl).2
  have e1 : cA = E.2.1 12 := Option.some.inj (h1.symm.trans h2)
  subst e1
  exact kk q H1 hP hD hS
def PWm (E : Gv) (N K : Nat) (r : Nat → Nat) : va_W := (List.range N).map (fun i => (r i, .inl (E.2.1 10, K, .inl (fun _ => 0))))
theorem c_mna (X : Fi p m c cc nL s args w0 own meth E nm) (hP : va_P E.2.2 vwCl ws H) (hD : va_D A ws) (hS : va_S A H0 H locs) (hA : ∀ q, H0.size ≤ q → A q) {idx : Nat} (hcl : Cond.classLink own idx "[[I" ∈ GG) (harr : Cond.arrayClass .int ∈ GG) {n k : Int32} {N K : Nat} (hn : ¬ n < 0) (hk : ¬ k < 0) (hN : n.toNatClampNeg = N) (hK' : k.toNatClampNeg = K) (hb1 : N * 4 ≤ 536870912) (hb2 : K * 4 ≤ 536870912) (hb3 : K ≤ 536870912) (hc : cells + (1 + N) ≤ R.cells) (hs : slots + (N + N * K) ≤ R.slots) (hdg : decode cc pc = .ok (.multianewarray idx 2, 4))
    (kk : ∀ (q : Nat) (r : Nat → Nat) (H1 : Heap), va_P E.2.2 vwCl ((ws ++ [(q, .inl (E.2.1 13, N, .inr (.inr (.inr (.inr (fun i => if i < N then some (r i) else none))))))]) ++ PWm E N K r) H1 → va_D A ((ws ++ [(q, .inl (E.2.1 13, N, .inr (.inr (.inr (.inr (fun i => if i < N then some (r i) else none))))))]) ++ PWm E N K r) → va_S A H0 H1 locs → W p l e R s m args below meth c H1 locs (cells + 1 + N) (slots + N + N * K) Q (F0 m (pc + 4) ls (.ref q :: rest))) : W p l e R s m args below meth c H locs cells slots Q (F0 m pc ls (.int k :: .int n :: rest)) := by
  have e9 : ("[" ++ (FieldType.array .int).toString : String) = "[[I" := by decide +kernel
  have hcy : s.vm.findClass (FieldType.array .int).toString = some (E.2.1 10) := (X.2.2.2.1.1.1.2 0 (E.2.1 10, .int) rfl).2
  have e0 : ∀ f : Nat → va_E, ws ++ va_pl [] f = ws := fun f => List.append_nil _
  refine va_mna (X := ws) (L := []) (f := fun _ => .inr (0, [])) (ty := .int) (cy := E.2.1 10) (z := (K, .inl (fun _ => 0))) X.1.1 X.1.2.1 X.1.2.2.2.1 (by rw [e9]; exact X.1.2.2.2.2 _ (List.mem_cons_of_mem _ hcl)) X.2.2.2.1.2.2 (X.1.2.2.2.2 _ (List.mem_cons_of_mem _ harr)) hcy X.2.2.2.1.1.1 (by rw [e0]; exact hP) (by rw [e0]; exact hD) hS hA hn hk hN hK' hb1 hb2 hb3 rfl rfl hc hs (fun c9 => arrV_new c9 K (.int 0)) hdg (fun q r cA H1 _ _ hK hP hD hS => ?_)
  have h1 : s.vm.findClass ("[" ++ (FieldType.array .int).toString) = some cA := (hK.2 4 (cA, .array .int) rfl).2
  have h2 : s.vm.findClass ("[" ++ (FieldType.array .int).toString) = some (E.2.1 13) := (hK.2 3 (E.2.1 13, .array .int) rfl).2
  have e1 : cA = E.2.1 13 := Option.some.inj (h1.symm.trans h2)
  subst e1
  have e2 : va_pl ([] ++ (List.range N).map r) (vr_up (fun _ => (.inr (0, []) : va_E)) ((List.range N).map r) (.inl (E.2.1 10, K, .inl (fun _ => 0)))) = PWm E N K r := by
    unfold va_pl PWm
    rw [List.nil_append, List.map_map]
    apply List.map_congr_left
    intro i hi
    show (r i, _) = (r i, _)
    rw [vr_up_in (List.mem_map.mpr ⟨i, hi, rfl⟩)]
  rw [e2] at hP hD
  exact kk q r H1 hP hD hS
theorem c_put (X : Fi p m c cc nL s args w0 own meth E nm) (hP : va_P E.2.2 vwCl ws H) (hD : va_D A ws) (hS : va_S A H0 H locs) {C : String} {T : u_T} {N ci q0 a j index : Nat} {fs : List Value} {v : Value} {tyF : Nat → FieldType} (he : ws[q0]? = some (a, .inr (ci, fs))) (hc : vwCl[ci]? = some (C, T, N)) (hin : ∀ w ∈ u_ws C T N, w ∈ GG) (hty : ∀ k, k < N → parseFieldDescriptor (T k).2.2.1 = some (tyF k)) (hnm : ∀ a, a < N → ∀ b, b < N → a ≠ b → (T a).2.1 ≠ (T b).2.1) (hj : j < N) (hlink : Cond.fieldLink own index (T j).1 (T j).2.1 (T j).2.2.1 ∈ GG) (hfin : (T j).2.2.2 = false) (hna : narrow (tyF j) v = v) (hfit : fits (tyF j) v = true) (hlen : j < fs.length) (hdg : decode cc pc = .ok (.putfield index, 3))
    (kk : ∀ (H1 : Heap) (locs1 : List Loc), va_P E.2.2 vwCl (ws.set q0 (a, .inr (ci, fs.set j v))) H1 → va_D A (ws.set q0 (a, .inr (ci, fs.set j v))) → va_S A H0 H1 locs1 → W p l e R s m args below meth c H1 locs1 cells slots Q (F0 m (pc + 3) ls rest)) : W p l e R s m args below meth c H locs cells slots Q (F0 m pc ls (v :: .ref a :: rest)) :=
  va_put (ty := tyF j) X.1.1 X.1.2.1 X.1.2.2.2.2 (fun w h => List.mem_cons_of_mem _ (hin w h)) tyF hty hnm X.1.2.2.2.1 X.2.2.2.1.1.1 hP hD hS q0 he hc j hj (X.1.2.2.2.2 _ (List.mem_cons_of_mem _ hlink)) (fun _ h => h) hfin (hty j hj) hna hfit hlen hdg kk
theorem c_putF (X : Fi p m c cc nL s args w0 own meth E "<init>") (hP : va_P E.2.2 vwCl ws H) (hD : va_D A ws) (hS : va_S A H0 H locs) {C : String} {T : u_T} {N ci q0 a j index : Nat} {fs : List Value} {v : Value} {tyF : Nat → FieldType} (he : ws[q0]? = some (a, .inr (ci, fs))) (hc : vwCl[ci]? = some (C, T, N)) (hin : ∀ w ∈ u_ws C T N, w ∈ GG) (hty : ∀ k, k < N → parseFieldDescriptor (T k).2.2.1 = some (tyF k)) (hnm : ∀ a, a < N → ∀ b, b < N → a ≠ b → (T a).2.1 ≠ (T b).2.1) (hj : j < N) (hlink : Cond.fieldLink own index (T j).1 (T j).2.1 (T j).2.2.1 ∈ GG) (hfin : (T j).2.2.2 = true) (hdecl : (T j).1 = own) (hna : narrow (tyF j) v = v) (hfit : fits (tyF j) v = true) (hlen : j < fs.length) (hdg : decode cc pc = .ok (.putfield index, 3))
    (kk : ∀ (H1 : Heap) (locs1 : List Loc), va_P E.2.2 vwCl (ws.set q0 (a, .inr (ci, fs.set j v))) H1 → va_D A (ws.set q0 (a, .inr (ci, fs.set j v))) → va_S A H0 H1 locs1 → W p l e R s m args below meth c H1 locs1 cells slots Q (F0 m (pc + 3) ls rest)) : W p l e R s m args below meth c H locs cells slots Q (F0 m pc ls (v :: .ref a :: rest)) :=
  va_putF (ty := tyF j) X.1.1 X.1.2.1 X.1.2.2.2.2 (fun w h => List.mem_cons_of_mem _ (hin w h)) tyF hty hnm X.1.2.2.2.1 X.2.2.2.1.1.1 hP hD hS q0 he hc j hj (X.1.2.2.2.2 _ (List.mem_cons_of_mem _ hlink)) (fun _ h => h) hfin X.2.2.2.2 hdecl (hty j hj) hna hfit hlen hdg kk
theorem c_get (X : Fi p m c cc nL s args w0 own meth E nm) (hP : va_P E.2.2 vwCl ws H) {C : String} {T : u_T} {N ci q0 a j index : Nat} {fs : List Value} {v : Value} (he : ws[q0]? = some (a, .inr (ci, fs))) (hc : vwCl[ci]? = some (C, T, N)) (hin : ∀ w ∈ u_ws C T N, w ∈ GG) (hj : j < N) (hlink : Cond.fieldLink own index (T j).1 (T j).2.1 (T j).2.2.1 ∈ GG) (hv : fs[j]? = some v) (hdg : decode cc pc = .ok (.getfield index, 3))
    (kk : W p l e R s m args below meth c H locs cells slots Q (F0 m (pc + 3) ls (v :: rest))) : W p l e R s m args below meth c H locs cells slots Q (F0 m pc ls (.ref a :: rest)) :=
  va_get X.1.1 X.1.2.1 X.1.2.2.2.2 (fun w h => List.mem_cons_of_mem _ (hin w h)) X.1.2.2.2.1 X.2.2.2.1.1.1 hP q0 he hc j hj (X.1.2.2.2.2 _ (List.mem_cons_of_mem _ hlink)) (fun _ h => h) hv hdg kk
theorem c_pre (K : Kc E s) {q : Nat} {e0 : va_E} {As : List Value} {j : Nat} (hP : va_P E.2.2 vwCl ws H) (hj : ws[j]? = some (q, e0)) : ∀ U : State, U.heap = H → s.WarmedH U.vm → PcC E As [(q, e0)] H.size As.toArray U := fun U hU hw => by
  refine ⟨rfl, by rw [hU], ?_, K.warm hw, ?_⟩
  · intro k x hx
    have h0 : k < 1 := (List.getElem?_eq_some_iff.mp hx).1
    rw [show k = 0 by omega] at hx
    cases hx
    rw [hU]
    exact hP j _ hj
  · refine ⟨fun i k x y hi hk _ => ?_, fun _ _ _ => trivial⟩
    have h0 : i < 1 := (List.getElem?_eq_some_iff.mp hi).1
    have h1 : k < 1 := (List.getElem?_eq_some_iff.mp hk).1
    omega
theorem c_free {q : Nat} {e0 : va_E} {j : Nat} (hD : va_D A ws) (hS : va_S A H0 H locs) (hA : ∀ q, H0.size ≤ q → A q) (hj : ws[j]? = some (q, e0)) : ∀ x, va_A [(q, e0)] H.size x → A x := by
  rintro x (⟨k, e1, hx⟩ | h)
  · have h0 : k < 1 := (List.getElem?_eq_some_iff.mp hx).1
    rw [show k = 0 by omega] at hx
    cases hx
    exact hD.2 j _ hj
  · exact hA x (Nat.le_trans hS.1 h)
theorem c_after {wr : va_W} {q : Nat} {e0 : va_E} {PW : (Nat → Nat) → va_W} {mc ms : Nat} {st0 : List Value} {a : Array Value} (hP : va_P E.2.2 vwCl (wr ++ [(q, e0)]) H) (hD : va_D A (wr ++ [(q, e0)])) (hS : va_S A H0 H locs) (hA : ∀ q, H0.size ≤ q → A q) (hr : va_Run p l e R s m args below meth c H locs cells slots mc ms (F0 m pc ls st0) rest (QcC E [(q, e0)] H.size PW a) (va_A [(q, e0)] H.size))
    (kk : ∀ (u : Nat → Nat) (H1 : Heap) (locs1 : List Loc), va_P E.2.2 vwCl (wr ++ PW u) H1 → va_D A (wr ++ PW u) → va_S A H0 H1 locs1 → W p l e R s m args below meth c H1 locs1 (cells + mc) (slots + ms) Q (F0 m (pc + 3) ls rest)) : W p l e R s m args below meth c H locs cells slots Q (F0 m pc ls st0) := by
  have hF := c_free (q := q) (e0 := e0) (j := wr.length) hD hS hA (by simp)
  refine va_callv hr hS (fun x _ h => hF x h) hF (fun u t H1 locs1 ht hvm hw hB hz hk hS1 => ?_)
  rw [ht] at hB
  obtain ⟨j1, j2⟩ := c_join hP hD hk hF hB.1 hB.2.2
  exact kk u H1 locs1 j1 j2 hS1
theorem c_afterS {j q : Nat} {e0 e1 : va_E} {mc ms : Nat} {st0 : List Value} {a : Array Value} (hP : va_P E.2.2 vwCl ws H) (hD : va_D A ws) (hS : va_S A H0 H locs) (hA : ∀ q, H0.size ≤ q → A q) (hj : ws[j]? = some (q, e0)) (hr : va_Run p l e R s m args below meth c H locs cells slots mc ms (F0 m pc ls st0) rest (QcC E [(q, e0)] H.size (fun _ => [(q, e1)]) a) (va_A [(q, e0)] H.size))
    (kk : ∀ (H1 : Heap) (locs1 : List Loc), va_P E.2.2 vwCl (ws.set j (q, e1)) H1 → va_D A (ws.set j (q, e1)) → va_S A H0 H1 locs1 → W p l e R s m args below meth c H1 locs1 (cells + mc) (slots + ms) Q (F0 m (pc + 3) ls rest)) : W p l e R s m args below meth c H locs cells slots Q (F0 m pc ls st0) := by
  have hF := c_free (q := q) (e0 := e0) hD hS hA hj
  refine va_callv hr hS (fun x _ h => hF x h) hF (fun u t H1 locs1 ht hvm hw hB hz hk hS1 => ?_)
  rw [ht] at hB
  refine kk H1 locs1 ?_ (hD.set hj) hS1
  have hl := (List.getElem?_eq_some_iff.mp hj).1
  intro k x hx
  by_cases hkj : k = j
  · subst hkj
    rw [List.getElem?_set_self hl] at hx
    cases hx
    exact hB.1 0 _ rfl
  · rw [List.getElem?_set_ne (Ne.symm hkj)] at hx
    exact (c_keep hP hD hj hk hx hkj).1
end OWNC
