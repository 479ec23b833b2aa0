/-! the start of the law -/
def mem0 : Mem := fun k => if k = 2 then (upd (upd (upd (upd (fun _ => 0) 0 (-1)) 1 (-1)) 2 (-1)) 3 (-1)) else if k = 74 then (upd (upd (upd (upd (upd (upd (upd (upd (fun _ => 0) 0 0) 1 0) 2 0) 3 0) 4 0) 5 0) 6 0) 7 0) else if k = 77 then (upd (upd (upd (upd (upd (upd (upd (upd (fun _ => 0) 0 1) 1 1) 2 1) 3 1) 4 1) 5 1) 6 1) 7 1) else if k = 90 then (upd (upd (upd (upd (fun _ => 0) 0 (-1)) 1 (-1)) 2 (-1)) 3 (-1)) else fun _ => 0
def adr0 (q0 q1 : Nat) (u0 u1 : Nat → Nat) : Nat → Nat := fun k => if k = 0 then q0 else if k < 89 then u0 (k - 1) else if k = 89 then q1 else u1 (k - 90)
theorem tl_1 {w : Cond} (i : Nat) (h : tables_1_1[i]? = some w) : w ∈ lw_tbl := List.mem_append_right _ (List.mem_append_left _ (List.mem_of_getElem? h))
theorem tl_2 {w : Cond} (i : Nat) (h : tables_1_2[i]? = some w) : w ∈ lw_tbl := List.mem_append_right _ (List.mem_append_right _ (List.mem_append_left _ (List.mem_of_getElem? h)))
theorem tl_3 {w : Cond} (i : Nat) (h : tables_1_3[i]? = some w) : w ∈ lw_tbl := List.mem_append_right _ (List.mem_append_right _ (List.mem_append_right _ (List.mem_append_left _ (List.mem_of_getElem? h))))
theorem tl_4 {w : Cond} (i : Nat) (h : tables_1_4[i]? = some w) : w ∈ lw_tbl := List.mem_append_right _ (List.mem_append_right _ (List.mem_append_right _ (List.mem_append_right _ (List.mem_append_left _ (List.mem_of_getElem? h)))))
theorem tl_5 {w : Cond} (i : Nat) (h : tables_1_5[i]? = some w) : w ∈ lw_tbl := List.mem_append_right _ (List.mem_append_right _ (List.mem_append_right _ (List.mem_append_right _ (List.mem_append_right _ (List.mem_of_getElem? h)))))
theorem tn_0 : (Cond.methodLinkNest "OvenHouse" (18 : Nat) ({ cls := "OvenHouse$Loaves", name := "<init>", desc := "()V" } : MethodName) "OvenHouse") ∈ lw_tbl := tl_1 53 rfl
theorem tn_1 : (Cond.methodLinkNest "OvenHouse$History" (24 : Nat) ({ cls := "OvenHouse$Loaves", name := "<init>", desc := "()V" } : MethodName) "OvenHouse") ∈ lw_tbl := tl_1 96 rfl
theorem tn_2 : (Cond.methodLinkNest "OvenHouse" (32 : Nat) ({ cls := "OvenHouse$Best", name := "<init>", desc := "()V" } : MethodName) "OvenHouse") ∈ lw_tbl := tl_1 110 rfl
theorem tn_3 : (Cond.methodLinkNest "OvenHouse" (39 : Nat) ({ cls := "OvenHouse$Day", name := "<init>", desc := "()V" } : MethodName) "OvenHouse") ∈ lw_tbl := tl_1 129 rfl
theorem tn_4 : (Cond.methodLinkNest "OvenHouse" (46 : Nat) ({ cls := "OvenHouse$Rings", name := "<init>", desc := "()V" } : MethodName) "OvenHouse") ∈ lw_tbl := tl_1 161 rfl
theorem tn_5 : (Cond.methodLinkNest "OvenHouse" (53 : Nat) ({ cls := "OvenHouse$Rows", name := "<init>", desc := "()V" } : MethodName) "OvenHouse") ∈ lw_tbl := tl_1 223 rfl
theorem tn_6 : (Cond.methodLinkNest "OvenHouse$Loaves" (48 : Nat) ({ cls := "OvenHouse", name := "rank", desc := "([II[I)V" } : MethodName) "OvenHouse") ∈ lw_tbl := tl_2 182 rfl
theorem tn_7 : (Cond.methodLinkNest "OvenHouse$Loaves" (52 : Nat) ({ cls := "OvenHouse", name := "exchange", desc := "([III)V" } : MethodName) "OvenHouse") ∈ lw_tbl := tl_2 212 rfl
theorem tn_8 : (Cond.methodLinkNest "OvenHouse$Rings" (60 : Nat) ({ cls := "OvenHouse", name := "rank", desc := "([II[I)V" } : MethodName) "OvenHouse") ∈ lw_tbl := tl_3 23 rfl
theorem tn_9 : (Cond.methodLinkNest "OvenHouse$Rings" (112 : Nat) ({ cls := "OvenHouse", name := "exchange", desc := "([III)V" } : MethodName) "OvenHouse") ∈ lw_tbl := tl_3 68 rfl
theorem tn_10 : (Cond.methodLinkNest "OvenHouse$Rows" (19 : Nat) ({ cls := "OvenHouse", name := "exchange", desc := "([III)V" } : MethodName) "OvenHouse") ∈ lw_tbl := tl_3 95 rfl
theorem tao_1 : (Cond.arrayOver (FieldType.object "OvenHouse$Loaves")) ∈ lw_tbl := tl_1 95 rfl
theorem tao_2 : (Cond.arrayOver (FieldType.array FieldType.int)) ∈ lw_tbl := tl_1 29 rfl
theorem nest_of {args : Array Value} {s : State} (hts : ∀ w ∈ lw_tbl, w.before args s = true) : ∀ q ∈ nestL, va_Nw (.methodLinkNest q.1 q.2.1 q.2.2.1 q.2.2.2) s := List.forall_mem_cons.mpr ⟨va_Nw.of rfl (hts _ tn_0), List.forall_mem_cons.mpr ⟨va_Nw.of rfl (hts _ tn_1), List.forall_mem_cons.mpr ⟨va_Nw.of rfl (hts _ tn_2), List.forall_mem_cons.mpr ⟨va_Nw.of rfl (hts _ tn_3), List.forall_mem_cons.mpr ⟨va_Nw.of rfl (hts _ tn_4), List.forall_mem_cons.mpr ⟨va_Nw.of rfl (hts _ tn_5), List.forall_mem_cons.mpr ⟨va_Nw.of rfl (hts _ tn_6), List.forall_mem_cons.mpr ⟨va_Nw.of rfl (hts _ tn_7), List.forall_mem_cons.mpr ⟨va_Nw.of rfl (hts _ tn_8), List.forall_mem_cons.mpr ⟨va_Nw.of rfl (hts _ tn_9), List.forall_mem_cons.mpr ⟨va_Nw.of rfl (hts _ tn_10), fun _ h => absurd h List.not_mem_nil⟩⟩⟩⟩⟩⟩⟩⟩⟩⟩⟩
theorem arr_of {args : Array Value} {s : State} {ty : FieldType} (h : (Cond.arrayClass ty).before args s = true) (hty : va_RA s = va_RA s) : ∃ cA kA comp, s.vm.findClass ("[" ++ ty.toString) = some cA ∧ s.vm.classes[cA]? = some kA ∧ kA.kind = .array comp ty := by
  obtain ⟨c, k, comp, h1, h2, h3⟩ := Cond.arrayClass_spec h
  exact ⟨c, k, comp, h1, h2, h3⟩
theorem ArrOfT.of {s : State} {cA : ClassId} {kA : Class} {comp : ClassId} {ty : FieldType} (h2 : s.vm.classes[cA]? = some kA) (h3 : kA.kind = .array comp ty) : ArrOfT s cA ty := fun n z => ⟨fun k h => (by cases h), kA, h2, comp, h3⟩
theorem know {args : Array Value} {s : State} (hts : ∀ w ∈ lw_tbl, w.before args s = true) : ∃ G : (Nat → Nat) × va_G, ∀ adr : Nat → Nat, Kc (adr, G) s := by
  obtain ⟨c0, i0, hK0⟩ := u_known (C := RX0) (T := TX0) (N := 3) (n := 3) hts (fun w h => gg_in (inX0 w h)) (hts _ (gg_in mw_1_109))
  obtain ⟨c1, i1, hK1⟩ := u_known (C := RX1) (T := TX1) (N := 7) (n := 7) hts (fun w h => gg_in (inX1 w h)) (hts _ (gg_in mw_1_128))
  obtain ⟨c2, i2, hK2⟩ := u_known (C := RX2) (T := TX2) (N := 3) (n := 3) hts (fun w h => gg_in (inX2 w h)) (hts _ (gg_in mw_1_89))
  obtain ⟨c3, i3, hK3⟩ := u_known (C := RX3) (T := TX3) (N := 7) (n := 7) hts (fun w h => gg_in (inX3 w h)) (hts _ (gg_in mw_1_52))
  obtain ⟨c4, i4, hK4⟩ := u_known (C := RX4) (T := TX4) (N := 2) (n := 2) hts (fun w h => gg_in (inX4 w h)) (hts _ (gg_in mw_1_236))
  obtain ⟨c5, i5, hK5⟩ := u_known (C := RX5) (T := TX5) (N := 15) (n := 15) hts (fun w h => gg_in (inX5 w h)) (hts _ (gg_in mw_1_160))
  obtain ⟨c6, i6, hK6⟩ := u_known (C := RX6) (T := TX6) (N := 2) (n := 2) hts (fun w h => gg_in (inX6 w h)) (hts _ (gg_in mw_1_222))
  obtain ⟨c7, i7, hK7⟩ := u_known (C := RX7) (T := TX7) (N := 4) (n := 4) hts (fun w h => gg_in (inX7 w h)) (hts _ (gg_in mw_1_23))
  obtain ⟨c8, i8, hK8⟩ := u_known (C := RX8) (T := TX8) (N := 11) (n := 11) hts (fun w h => gg_in (inX8 w h)) (hts _ (gg_in mw_1_15))
  obtain ⟨c9, i9, hK9⟩ := u_known (C := RX9) (T := TX9) (N := 35) (n := 35) hts (fun w h => gg_in (inX9 w h)) (hts _ (gg_in mw_3_164))
  obtain ⟨a0, ka0, co0, f0, g0, k0⟩ := Cond.arrayClass_spec (hts _ (gg_in mw_1_50))
  obtain ⟨a1, ka1, co1, f1, g1, k1⟩ := Cond.arrayClass_spec (hts _ (gg_in mw_1_220))
  obtain ⟨co2, a2, ka2, e2, _, g2, k2, f2⟩ := Cond.arrayOver_spec (hts _ tao_1)
  obtain ⟨co3, a3, ka3, e3, _, g3, k3, f3⟩ := Jvm.Stand.arrayOver_specB (hts _ tao_2)
  refine ⟨(fun k => if k = 10 then a0 else if k = 11 then a1 else if k = 12 then a2 else a3, (fun k => if k = 0 then c0 else if k = 1 then c1 else if k = 2 then c2 else if k = 3 then c3 else if k = 4 then c4 else if k = 5 then c5 else if k = 6 then c6 else if k = 7 then c7 else if k = 8 then c8 else c9, fun k => if k = 0 then i0 else if k = 1 then i1 else if k = 2 then i2 else if k = 3 then i3 else if k = 4 then i4 else if k = 5 then i5 else if k = 6 then i6 else if k = 7 then i7 else if k = 8 then i8 else i9)), fun adr => ⟨⟨⟨fun k q hq => ?_, fun k q hq => ?_⟩, nest_of hts⟩, va_AO.of (hts _ tao_1), va_AOA.of (hts _ tao_2)⟩⟩
  · match k, hq with
    | 0, hq => cases hq; exact hK0
    | 1, hq => cases hq; exact hK1
    | 2, hq => cases hq; exact hK2
    | 3, hq => cases hq; exact hK3
    | 4, hq => cases hq; exact hK4
    | 5, hq => cases hq; exact hK5
    | 6, hq => cases hq; exact hK6
    | 7, hq => cases hq; exact hK7
    | 8, hq => cases hq; exact hK8
    | 9, hq => cases hq; exact hK9
    | k + 10, hq => simp [vwCl] at hq
  · match k, hq with
    | 0, hq => cases hq; exact ⟨ArrOfT.of g0 k0, f0⟩
    | 1, hq => cases hq; exact ⟨ArrOfT.of g1 k1, f1⟩
    | 2, hq => cases hq; exact ⟨ArrOfT.of g2 k2, ka2, co2, g2, k2, e2, f2⟩
    | 3, hq => cases hq; exact ⟨ArrOfT.of g3 k3, f3⟩
    | k + 4, hq => simp at hq
set_option maxRecDepth 100000 in
set_option maxHeartbeats 8000000 in
theorem row_4 (u0 u1 : Nat → Nat) (q0 q1 : Nat) : (fun i => if i < 4 then some (u0 (4 + i)) else none) = (fun j => if j < ln 4 then some (adr0 q0 q1 u0 u1 (gt 4 j)) else none) := by
  funext i
  by_cases h : i < 4
  · have h2 : i = 0 ∨ i = 1 ∨ i = 2 ∨ i = 3 := by omega
    rcases h2 with rfl | rfl | rfl | rfl <;> rfl
  · rw [if_neg h, if_neg (show ¬ i < ln 4 from h)]
set_option maxRecDepth 100000 in
set_option maxHeartbeats 8000000 in
theorem row_80 (u0 u1 : Nat → Nat) (q0 q1 : Nat) : (fun i => if i < 8 then some (u0 (80 + i)) else none) = (fun j => if j < ln 80 then some (adr0 q0 q1 u0 u1 (gt 80 j)) else none) := by
  funext i
  by_cases h : i < 8
  · have h2 : i = 0 ∨ i = 1 ∨ i = 2 ∨ i = 3 ∨ i = 4 ∨ i = 5 ∨ i = 6 ∨ i = 7 := by omega
    rcases h2 with rfl | rfl | rfl | rfl | rfl | rfl | rfl | rfl <;> rfl
  · rw [if_neg h, if_neg (show ¬ i < ln 80 from h)]
set_option maxRecDepth 100000 in
set_option maxHeartbeats 8000000 in
theorem row_17 (u0 u1 : Nat → Nat) (q0 q1 : Nat) : (va_up (va_up (va_up (va_up (va_up (fun _ => none) 0 (some (u0 17))) 1 (some (u0 24))) 2 (some (u0 31))) 3 (some (u0 38))) 4 (some (u0 45))) = (fun j => if j < ln 17 then some (adr0 q0 q1 u0 u1 (gt 17 j)) else none) := by
  funext i
  match i with
  | 0 => rfl
  | 1 => rfl
  | 2 => rfl
  | 3 => rfl
  | 4 => rfl
  | i + 5 => rw [if_neg (show ¬ i + 5 < ln 17 from by show ¬ i + 5 < 5; omega)]; simp [va_up]
set_option maxRecDepth 100000 in
theorem cell_0 (G : (Nat → Nat) × va_G) (u0 u1 : Nat → Nat) (q0 q1 : Nat) : (PWX8_init (adr0 q0 q1 u0 u1, G) q0 u0 ++ PWX9_init (adr0 q0 q1 u0 u1, G) q1 u1)[0]? = some (adr0 q0 q1 u0 u1 0, ent (adr0 q0 q1 u0 u1, G) mem0 0) := rfl
set_option maxRecDepth 100000 in
theorem cell_1 (G : (Nat → Nat) × va_G) (u0 u1 : Nat → Nat) (q0 q1 : Nat) : (PWX8_init (adr0 q0 q1 u0 u1, G) q0 u0 ++ PWX9_init (adr0 q0 q1 u0 u1, G) q1 u1)[1]? = some (adr0 q0 q1 u0 u1 1, ent (adr0 q0 q1 u0 u1, G) mem0 1) := rfl
set_option maxRecDepth 100000 in
theorem cell_2 (G : (Nat → Nat) × va_G) (u0 u1 : Nat → Nat) (q0 q1 : Nat) : (PWX8_init (adr0 q0 q1 u0 u1, G) q0 u0 ++ PWX9_init (adr0 q0 q1 u0 u1, G) q1 u1)[2]? = some (adr0 q0 q1 u0 u1 2, ent (adr0 q0 q1 u0 u1, G) mem0 2) := rfl
set_option maxRecDepth 100000 in
theorem cell_3 (G : (Nat → Nat) × va_G) (u0 u1 : Nat → Nat) (q0 q1 : Nat) : (PWX8_init (adr0 q0 q1 u0 u1, G) q0 u0 ++ PWX9_init (adr0 q0 q1 u0 u1, G) q1 u1)[3]? = some (adr0 q0 q1 u0 u1 3, ent (adr0 q0 q1 u0 u1, G) mem0 3) := rfl
set_option maxRecDepth 100000 in
theorem cell_4 (G : (Nat → Nat) × va_G) (u0 u1 : Nat → Nat) (q0 q1 : Nat) : (PWX8_init (adr0 q0 q1 u0 u1, G) q0 u0 ++ PWX9_init (adr0 q0 q1 u0 u1, G) q1 u1)[4]? = some (adr0 q0 q1 u0 u1 4, ent (adr0 q0 q1 u0 u1, G) mem0 4) := by
  have e := row_4 u0 u1 q0 q1
  show some (_, Sum.inl (_, _, Sum.inr (Sum.inr (Sum.inr (Sum.inr _))))) = some (_, Sum.inl (_, _, Sum.inr (Sum.inr (Sum.inr (Sum.inr _)))))
  exact congrArg (fun f => some (_, Sum.inl (_, _, Sum.inr (Sum.inr (Sum.inr (Sum.inr f)))))) e
set_option maxRecDepth 100000 in
theorem cell_5 (G : (Nat → Nat) × va_G) (u0 u1 : Nat → Nat) (q0 q1 : Nat) : (PWX8_init (adr0 q0 q1 u0 u1, G) q0 u0 ++ PWX9_init (adr0 q0 q1 u0 u1, G) q1 u1)[5]? = some (adr0 q0 q1 u0 u1 5, ent (adr0 q0 q1 u0 u1, G) mem0 5) := rfl
set_option maxRecDepth 100000 in
theorem cell_6 (G : (Nat → Nat) × va_G) (u0 u1 : Nat → Nat) (q0 q1 : Nat) : (PWX8_init (adr0 q0 q1 u0 u1, G) q0 u0 ++ PWX9_init (adr0 q0 q1 u0 u1, G) q1 u1)[6]? = some (adr0 q0 q1 u0 u1 6, ent (adr0 q0 q1 u0 u1, G) mem0 6) := rfl
set_option maxRecDepth 100000 in
theorem cell_7 (G : (Nat → Nat) × va_G) (u0 u1 : Nat → Nat) (q0 q1 : Nat) : (PWX8_init (adr0 q0 q1 u0 u1, G) q0 u0 ++ PWX9_init (adr0 q0 q1 u0 u1, G) q1 u1)[7]? = some (adr0 q0 q1 u0 u1 7, ent (adr0 q0 q1 u0 u1, G) mem0 7) := rfl
set_option maxRecDepth 100000 in
theorem cell_8 (G : (Nat → Nat) × va_G) (u0 u1 : Nat → Nat) (q0 q1 : Nat) : (PWX8_init (adr0 q0 q1 u0 u1, G) q0 u0 ++ PWX9_init (adr0 q0 q1 u0 u1, G) q1 u1)[8]? = some (adr0 q0 q1 u0 u1 8, ent (adr0 q0 q1 u0 u1, G) mem0 8) := rfl
set_option maxRecDepth 100000 in
theorem cell_9 (G : (Nat → Nat) × va_G) (u0 u1 : Nat → Nat) (q0 q1 : Nat) : (PWX8_init (adr0 q0 q1 u0 u1, G) q0 u0 ++ PWX9_init (adr0 q0 q1 u0 u1, G) q1 u1)[9]? = some (adr0 q0 q1 u0 u1 9, ent (adr0 q0 q1 u0 u1, G) mem0 9) := rfl
set_option maxRecDepth 100000 in
theorem cell_10 (G : (Nat → Nat) × va_G) (u0 u1 : Nat → Nat) (q0 q1 : Nat) : (PWX8_init (adr0 q0 q1 u0 u1, G) q0 u0 ++ PWX9_init (adr0 q0 q1 u0 u1, G) q1 u1)[10]? = some (adr0 q0 q1 u0 u1 10, ent (adr0 q0 q1 u0 u1, G) mem0 10) := rfl
set_option maxRecDepth 100000 in
theorem cell_11 (G : (Nat → Nat) × va_G) (u0 u1 : Nat → Nat) (q0 q1 : Nat) : (PWX8_init (adr0 q0 q1 u0 u1, G) q0 u0 ++ PWX9_init (adr0 q0 q1 u0 u1, G) q1 u1)[11]? = some (adr0 q0 q1 u0 u1 11, ent (adr0 q0 q1 u0 u1, G) mem0 11) := rfl
set_option maxRecDepth 100000 in
theorem cell_12 (G : (Nat → Nat) × va_G) (u0 u1 : Nat → Nat) (q0 q1 : Nat) : (PWX8_init (adr0 q0 q1 u0 u1, G) q0 u0 ++ PWX9_init (adr0 q0 q1 u0 u1, G) q1 u1)[12]? = some (adr0 q0 q1 u0 u1 12, ent (adr0 q0 q1 u0 u1, G) mem0 12) := rfl
set_option maxRecDepth 100000 in
theorem cell_13 (G : (Nat → Nat) × va_G) (u0 u1 : Nat → Nat) (q0 q1 : Nat) : (PWX8_init (adr0 q0 q1 u0 u1, G) q0 u0 ++ PWX9_init (adr0 q0 q1 u0 u1, G) q1 u1)[13]? = some (adr0 q0 q1 u0 u1 13, ent (adr0 q0 q1 u0 u1, G) mem0 13) := rfl
set_option maxRecDepth 100000 in
theorem cell_14 (G : (Nat → Nat) × va_G) (u0 u1 : Nat → Nat) (q0 q1 : Nat) : (PWX8_init (adr0 q0 q1 u0 u1, G) q0 u0 ++ PWX9_init (adr0 q0 q1 u0 u1, G) q1 u1)[14]? = some (adr0 q0 q1 u0 u1 14, ent (adr0 q0 q1 u0 u1, G) mem0 14) := rfl
set_option maxRecDepth 100000 in
theorem cell_15 (G : (Nat → Nat) × va_G) (u0 u1 : Nat → Nat) (q0 q1 : Nat) : (PWX8_init (adr0 q0 q1 u0 u1, G) q0 u0 ++ PWX9_init (adr0 q0 q1 u0 u1, G) q1 u1)[15]? = some (adr0 q0 q1 u0 u1 15, ent (adr0 q0 q1 u0 u1, G) mem0 15) := rfl
set_option maxRecDepth 100000 in
theorem cell_16 (G : (Nat → Nat) × va_G) (u0 u1 : Nat → Nat) (q0 q1 : Nat) : (PWX8_init (adr0 q0 q1 u0 u1, G) q0 u0 ++ PWX9_init (adr0 q0 q1 u0 u1, G) q1 u1)[16]? = some (adr0 q0 q1 u0 u1 16, ent (adr0 q0 q1 u0 u1, G) mem0 16) := rfl
set_option maxRecDepth 100000 in
theorem cell_17 (G : (Nat → Nat) × va_G) (u0 u1 : Nat → Nat) (q0 q1 : Nat) : (PWX8_init (adr0 q0 q1 u0 u1, G) q0 u0 ++ PWX9_init (adr0 q0 q1 u0 u1, G) q1 u1)[17]? = some (adr0 q0 q1 u0 u1 17, ent (adr0 q0 q1 u0 u1, G) mem0 17) := by
  have e := row_17 u0 u1 q0 q1
  show some (_, Sum.inl (_, _, Sum.inr (Sum.inr (Sum.inr (Sum.inr _))))) = some (_, Sum.inl (_, _, Sum.inr (Sum.inr (Sum.inr (Sum.inr _)))))
  exact congrArg (fun f => some (_, Sum.inl (_, _, Sum.inr (Sum.inr (Sum.inr (Sum.inr f)))))) e
set_option maxRecDepth 100000 in
theorem cell_18 (G : (Nat → Nat) × va_G) (u0 u1 : Nat → Nat) (q0 q1 : Nat) : (PWX8_init (adr0 q0 q1 u0 u1, G) q0 u0 ++ PWX9_init (adr0 q0 q1 u0 u1, G) q1 u1)[18]? = some (adr0 q0 q1 u0 u1 18, ent (adr0 q0 q1 u0 u1, G) mem0 18) := rfl
set_option maxRecDepth 100000 in
theorem cell_19 (G : (Nat → Nat) × va_G) (u0 u1 : Nat → Nat) (q0 q1 : Nat) : (PWX8_init (adr0 q0 q1 u0 u1, G) q0 u0 ++ PWX9_init (adr0 q0 q1 u0 u1, G) q1 u1)[19]? = some (adr0 q0 q1 u0 u1 19, ent (adr0 q0 q1 u0 u1, G) mem0 19) := rfl
set_option maxRecDepth 100000 in
theorem cell_20 (G : (Nat → Nat) × va_G) (u0 u1 : Nat → Nat) (q0 q1 : Nat) : (PWX8_init (adr0 q0 q1 u0 u1, G) q0 u0 ++ PWX9_init (adr0 q0 q1 u0 u1, G) q1 u1)[20]? = some (adr0 q0 q1 u0 u1 20, ent (adr0 q0 q1 u0 u1, G) mem0 20) := rfl
set_option maxRecDepth 100000 in
theorem cell_21 (G : (Nat → Nat) × va_G) (u0 u1 : Nat → Nat) (q0 q1 : Nat) : (PWX8_init (adr0 q0 q1 u0 u1, G) q0 u0 ++ PWX9_init (adr0 q0 q1 u0 u1, G) q1 u1)[21]? = some (adr0 q0 q1 u0 u1 21, ent (adr0 q0 q1 u0 u1, G) mem0 21) := rfl
set_option maxRecDepth 100000 in
theorem cell_22 (G : (Nat → Nat) × va_G) (u0 u1 : Nat → Nat) (q0 q1 : Nat) : (PWX8_init (adr0 q0 q1 u0 u1, G) q0 u0 ++ PWX9_init (adr0 q0 q1 u0 u1, G) q1 u1)[22]? = some (adr0 q0 q1 u0 u1 22, ent (adr0 q0 q1 u0 u1, G) mem0 22) := rfl
set_option maxRecDepth 100000 in
theorem cell_23 (G : (Nat → Nat) × va_G) (u0 u1 : Nat → Nat) (q0 q1 : Nat) : (PWX8_init (adr0 q0 q1 u0 u1, G) q0 u0 ++ PWX9_init (adr0 q0 q1 u0 u1, G) q1 u1)[23]? = some (adr0 q0 q1 u0 u1 23, ent (adr0 q0 q1 u0 u1, G) mem0 23) := rfl
set_option maxRecDepth 100000 in
theorem cell_24 (G : (Nat → Nat) × va_G) (u0 u1 : Nat → Nat) (q0 q1 : Nat) : (PWX8_init (adr0 q0 q1 u0 u1, G) q0 u0 ++ PWX9_init (adr0 q0 q1 u0 u1, G) q1 u1)[24]? = some (adr0 q0 q1 u0 u1 24, ent (adr0 q0 q1 u0 u1, G) mem0 24) := rfl
set_option maxRecDepth 100000 in
theorem cell_25 (G : (Nat → Nat) × va_G) (u0 u1 : Nat → Nat) (q0 q1 : Nat) : (PWX8_init (adr0 q0 q1 u0 u1, G) q0 u0 ++ PWX9_init (adr0 q0 q1 u0 u1, G) q1 u1)[25]? = some (adr0 q0 q1 u0 u1 25, ent (adr0 q0 q1 u0 u1, G) mem0 25) := rfl
set_option maxRecDepth 100000 in
theorem cell_26 (G : (Nat → Nat) × va_G) (u0 u1 : Nat → Nat) (q0 q1 : Nat) : (PWX8_init (adr0 q0 q1 u0 u1, G) q0 u0 ++ PWX9_init (adr0 q0 q1 u0 u1, G) q1 u1)[26]? = some (adr0 q0 q1 u0 u1 26, ent (adr0 q0 q1 u0 u1, G) mem0 26) := rfl
set_option maxRecDepth 100000 in
theorem cell_27 (G : (Nat → Nat) × va_G) (u0 u1 : Nat → Nat) (q0 q1 : Nat) : (PWX8_init (adr0 q0 q1 u0 u1, G) q0 u0 ++ PWX9_init (adr0 q0 q1 u0 u1, G) q1 u1)[27]? = some (adr0 q0 q1 u0 u1 27, ent (adr0 q0 q1 u0 u1, G) mem0 27) := rfl
set_option maxRecDepth 100000 in
theorem cell_28 (G : (Nat → Nat) × va_G) (u0 u1 : Nat → Nat) (q0 q1 : Nat) : (PWX8_init (adr0 q0 q1 u0 u1, G) q0 u0 ++ PWX9_init (adr0 q0 q1 u0 u1, G) q1 u1)[28]? = some (adr0 q0 q1 u0 u1 28, ent (adr0 q0 q1 u0 u1, G) mem0 28) := rfl
set_option maxRecDepth 100000 in
theorem cell_29 (G : (Nat → Nat) × va_G) (u0 u1 : Nat → Nat) (q0 q1 : Nat) : (PWX8_init (adr0 q0 q1 u0 u1, G) q0 u0 ++ PWX9_init (adr0 q0 q1 u0 u1, G) q1 u1)[29]? = some (adr0 q0 q1 u0 u1 29, ent (adr0 q0 q1 u0 u1, G) mem0 29) := rfl
set_option maxRecDepth 100000 in
theorem cell_30 (G : (Nat → Nat) × va_G) (u0 u1 : Nat → Nat) (q0 q1 : Nat) : (PWX8_init (adr0 q0 q1 u0 u1, G) q0 u0 ++ PWX9_init (adr0 q0 q1 u0 u1, G) q1 u1)[30]? = some (adr0 q0 q1 u0 u1 30, ent (adr0 q0 q1 u0 u1, G) mem0 30) := rfl
set_option maxRecDepth 100000 in
theorem cell_31 (G : (Nat → Nat) × va_G) (u0 u1 : Nat → Nat) (q0 q1 : Nat) : (PWX8_init (adr0 q0 q1 u0 u1, G) q0 u0 ++ PWX9_init (adr0 q0 q1 u0 u1, G) q1 u1)[31]? = some (adr0 q0 q1 u0 u1 31, ent (adr0 q0 q1 u0 u1, G) mem0 31) := rfl
set_option maxRecDepth 100000 in
theorem cell_32 (G : (Nat → Nat) × va_G) (u0 u1 : Nat → Nat) (q0 q1 : Nat) : (PWX8_init (adr0 q0 q1 u0 u1, G) q0 u0 ++ PWX9_init (adr0 q0 q1 u0 u1, G) q1 u1)[32]? = some (adr0 q0 q1 u0 u1 32, ent (adr0 q0 q1 u0 u1, G) mem0 32) := rfl
set_option maxRecDepth 100000 in
theorem cell_33 (G : (Nat → Nat) × va_G) (u0 u1 : Nat → Nat) (q0 q1 : Nat) : (PWX8_init (adr0 q0 q1 u0 u1, G) q0 u0 ++ PWX9_init (adr0 q0 q1 u0 u1, G) q1 u1)[33]? = some (adr0 q0 q1 u0 u1 33, ent (adr0 q0 q1 u0 u1, G) mem0 33) := rfl
set_option maxRecDepth 100000 in
theorem cell_34 (G : (Nat → Nat) × va_G) (u0 u1 : Nat → Nat) (q0 q1 : Nat) : (PWX8_init (adr0 q0 q1 u0 u1, G) q0 u0 ++ PWX9_init (adr0 q0 q1 u0 u1, G) q1 u1)[34]? = some (adr0 q0 q1 u0 u1 34, ent (adr0 q0 q1 u0 u1, G) mem0 34) := rfl
set_option maxRecDepth 100000 in
theorem cell_35 (G : (Nat → Nat) × va_G) (u0 u1 : Nat → Nat) (q0 q1 : Nat) : (PWX8_init (adr0 q0 q1 u0 u1, G) q0 u0 ++ PWX9_init (adr0 q0 q1 u0 u1, G) q1 u1)[35]? = some (adr0 q0 q1 u0 u1 35, ent (adr0 q0 q1 u0 u1, G) mem0 35) := rfl
set_option maxRecDepth 100000 in
theorem cell_36 (G : (Nat → Nat) × va_G) (u0 u1 : Nat → Nat) (q0 q1 : Nat) : (PWX8_init (adr0 q0 q1 u0 u1, G) q0 u0 ++ PWX9_init (adr0 q0 q1 u0 u1, G) q1 u1)[36]? = some (adr0 q0 q1 u0 u1 36, ent (adr0 q0 q1 u0 u1, G) mem0 36) := rfl
set_option maxRecDepth 100000 in
theorem cell_37 (G : (Nat → Nat) × va_G) (u0 u1 : Nat → Nat) (q0 q1 : Nat) : (PWX8_init (adr0 q0 q1 u0 u1, G) q0 u0 ++ PWX9_init (adr0 q0 q1 u0 u1, G) q1 u1)[37]? = some (adr0 q0 q1 u0 u1 37, ent (adr0 q0 q1 u0 u1, G) mem0 37) := rfl
set_option maxRecDepth 100000 in
theorem cell_38 (G : (Nat → Nat) × va_G) (u0 u1 : Nat → Nat) (q0 q1 : Nat) : (PWX8_init (adr0 q0 q1 u0 u1, G) q0 u0 ++ PWX9_init (adr0 q0 q1 u0 u1, G) q1 u1)[38]? = some (adr0 q0 q1 u0 u1 38, ent (adr0 q0 q1 u0 u1, G) mem0 38) := rfl
set_option maxRecDepth 100000 in
theorem cell_39 (G : (Nat → Nat) × va_G) (u0 u1 : Nat → Nat) (q0 q1 : Nat) : (PWX8_init (adr0 q0 q1 u0 u1, G) q0 u0 ++ PWX9_init (adr0 q0 q1 u0 u1, G) q1 u1)[39]? = some (adr0 q0 q1 u0 u1 39, ent (adr0 q0 q1 u0 u1, G) mem0 39) := rfl
set_option maxRecDepth 100000 in
theorem cell_40 (G : (Nat → Nat) × va_G) (u0 u1 : Nat → Nat) (q0 q1 : Nat) : (PWX8_init (adr0 q0 q1 u0 u1, G) q0 u0 ++ PWX9_init (adr0 q0 q1 u0 u1, G) q1 u1)[40]? = some (adr0 q0 q1 u0 u1 40, ent (adr0 q0 q1 u0 u1, G) mem0 40) := rfl
set_option maxRecDepth 100000 in
theorem cell_41 (G : (Nat → Nat) × va_G) (u0 u1 : Nat → Nat) (q0 q1 : Nat) : (PWX8_init (adr0 q0 q1 u0 u1, G) q0 u0 ++ PWX9_init (adr0 q0 q1 u0 u1, G) q1 u1)[41]? = some (adr0 q0 q1 u0 u1 41, ent (adr0 q0 q1 u0 u1, G) mem0 41) := rfl
set_option maxRecDepth 100000 in
theorem cell_42 (G : (Nat → Nat) × va_G) (u0 u1 : Nat → Nat) (q0 q1 : Nat) : (PWX8_init (adr0 q0 q1 u0 u1, G) q0 u0 ++ PWX9_init (adr0 q0 q1 u0 u1, G) q1 u1)[42]? = some (adr0 q0 q1 u0 u1 42, ent (adr0 q0 q1 u0 u1, G) mem0 42) := rfl
set_option maxRecDepth 100000 in
theorem cell_43 (G : (Nat → Nat) × va_G) (u0 u1 : Nat → Nat) (q0 q1 : Nat) : (PWX8_init (adr0 q0 q1 u0 u1, G) q0 u0 ++ PWX9_init (adr0 q0 q1 u0 u1, G) q1 u1)[43]? = some (adr0 q0 q1 u0 u1 43, ent (adr0 q0 q1 u0 u1, G) mem0 43) := rfl
set_option maxRecDepth 100000 in
theorem cell_44 (G : (Nat → Nat) × va_G) (u0 u1 : Nat → Nat) (q0 q1 : Nat) : (PWX8_init (adr0 q0 q1 u0 u1, G) q0 u0 ++ PWX9_init (adr0 q0 q1 u0 u1, G) q1 u1)[44]? = some (adr0 q0 q1 u0 u1 44, ent (adr0 q0 q1 u0 u1, G) mem0 44) := rfl
set_option maxRecDepth 100000 in
theorem cell_45 (G : (Nat → Nat) × va_G) (u0 u1 : Nat → Nat) (q0 q1 : Nat) : (PWX8_init (adr0 q0 q1 u0 u1, G) q0 u0 ++ PWX9_init (adr0 q0 q1 u0 u1, G) q1 u1)[45]? = some (adr0 q0 q1 u0 u1 45, ent (adr0 q0 q1 u0 u1, G) mem0 45) := rfl
set_option maxRecDepth 100000 in
theorem cell_46 (G : (Nat → Nat) × va_G) (u0 u1 : Nat → Nat) (q0 q1 : Nat) : (PWX8_init (adr0 q0 q1 u0 u1, G) q0 u0 ++ PWX9_init (adr0 q0 q1 u0 u1, G) q1 u1)[46]? = some (adr0 q0 q1 u0 u1 46, ent (adr0 q0 q1 u0 u1, G) mem0 46) := rfl
set_option maxRecDepth 100000 in
theorem cell_47 (G : (Nat → Nat) × va_G) (u0 u1 : Nat → Nat) (q0 q1 : Nat) : (PWX8_init (adr0 q0 q1 u0 u1, G) q0 u0 ++ PWX9_init (adr0 q0 q1 u0 u1, G) q1 u1)[47]? = some (adr0 q0 q1 u0 u1 47, ent (adr0 q0 q1 u0 u1, G) mem0 47) := rfl
set_option maxRecDepth 100000 in
theorem cell_48 (G : (Nat → Nat) × va_G) (u0 u1 : Nat → Nat) (q0 q1 : Nat) : (PWX8_init (adr0 q0 q1 u0 u1, G) q0 u0 ++ PWX9_init (adr0 q0 q1 u0 u1, G) q1 u1)[48]? = some (adr0 q0 q1 u0 u1 48, ent (adr0 q0 q1 u0 u1, G) mem0 48) := rfl
set_option maxRecDepth 100000 in
theorem cell_49 (G : (Nat → Nat) × va_G) (u0 u1 : Nat → Nat) (q0 q1 : Nat) : (PWX8_init (adr0 q0 q1 u0 u1, G) q0 u0 ++ PWX9_init (adr0 q0 q1 u0 u1, G) q1 u1)[49]? = some (adr0 q0 q1 u0 u1 49, ent (adr0 q0 q1 u0 u1, G) mem0 49) := rfl
set_option maxRecDepth 100000 in
theorem cell_50 (G : (Nat → Nat) × va_G) (u0 u1 : Nat → Nat) (q0 q1 : Nat) : (PWX8_init (adr0 q0 q1 u0 u1, G) q0 u0 ++ PWX9_init (adr0 q0 q1 u0 u1, G) q1 u1)[50]? = some (adr0 q0 q1 u0 u1 50, ent (adr0 q0 q1 u0 u1, G) mem0 50) := rfl
set_option maxRecDepth 100000 in
theorem cell_51 (G : (Nat → Nat) × va_G) (u0 u1 : Nat → Nat) (q0 q1 : Nat) : (PWX8_init (adr0 q0 q1 u0 u1, G) q0 u0 ++ PWX9_init (adr0 q0 q1 u0 u1, G) q1 u1)[51]? = some (adr0 q0 q1 u0 u1 51, ent (adr0 q0 q1 u0 u1, G) mem0 51) := rfl
set_option maxRecDepth 100000 in
theorem cell_52 (G : (Nat → Nat) × va_G) (u0 u1 : Nat → Nat) (q0 q1 : Nat) : (PWX8_init (adr0 q0 q1 u0 u1, G) q0 u0 ++ PWX9_init (adr0 q0 q1 u0 u1, G) q1 u1)[52]? = some (adr0 q0 q1 u0 u1 52, ent (adr0 q0 q1 u0 u1, G) mem0 52) := rfl
set_option maxRecDepth 100000 in
theorem cell_53 (G : (Nat → Nat) × va_G) (u0 u1 : Nat → Nat) (q0 q1 : Nat) : (PWX8_init (adr0 q0 q1 u0 u1, G) q0 u0 ++ PWX9_init (adr0 q0 q1 u0 u1, G) q1 u1)[53]? = some (adr0 q0 q1 u0 u1 53, ent (adr0 q0 q1 u0 u1, G) mem0 53) := rfl
set_option maxRecDepth 100000 in
theorem cell_54 (G : (Nat → Nat) × va_G) (u0 u1 : Nat → Nat) (q0 q1 : Nat) : (PWX8_init (adr0 q0 q1 u0 u1, G) q0 u0 ++ PWX9_init (adr0 q0 q1 u0 u1, G) q1 u1)[54]? = some (adr0 q0 q1 u0 u1 54, ent (adr0 q0 q1 u0 u1, G) mem0 54) := rfl
set_option maxRecDepth 100000 in
theorem cell_55 (G : (Nat → Nat) × va_G) (u0 u1 : Nat → Nat) (q0 q1 : Nat) : (PWX8_init (adr0 q0 q1 u0 u1, G) q0 u0 ++ PWX9_init (adr0 q0 q1 u0 u1, G) q1 u1)[55]? = some (adr0 q0 q1 u0 u1 55, ent (adr0 q0 q1 u0 u1, G) mem0 55) := rfl
set_option maxRecDepth 100000 in
theorem cell_56 (G : (Nat → Nat) × va_G) (u0 u1 : Nat → Nat) (q0 q1 : Nat) : (PWX8_init (adr0 q0 q1 u0 u1, G) q0 u0 ++ PWX9_init (adr0 q0 q1 u0 u1, G) q1 u1)[56]? = some (adr0 q0 q1 u0 u1 56, ent (adr0 q0 q1 u0 u1, G) mem0 56) := rfl
set_option maxRecDepth 100000 in
theorem cell_57 (G : (Nat → Nat) × va_G) (u0 u1 : Nat → Nat) (q0 q1 : Nat) : (PWX8_init (adr0 q0 q1 u0 u1, G) q0 u0 ++ PWX9_init (adr0 q0 q1 u0 u1, G) q1 u1)[57]? = some (adr0 q0 q1 u0 u1 57, ent (adr0 q0 q1 u0 u1, G) mem0 57) := rfl
set_option maxRecDepth 100000 in
theorem cell_58 (G : (Nat → Nat) × va_G) (u0 u1 : Nat → Nat) (q0 q1 : Nat) : (PWX8_init (adr0 q0 q1 u0 u1, G) q0 u0 ++ PWX9_init (adr0 q0 q1 u0 u1, G) q1 u1)[58]? = some (adr0 q0 q1 u0 u1 58, ent (adr0 q0 q1 u0 u1, G) mem0 58) := rfl
set_option maxRecDepth 100000 in
theorem cell_59 (G : (Nat → Nat) × va_G) (u0 u1 : Nat → Nat) (q0 q1 : Nat) : (PWX8_init (adr0 q0 q1 u0 u1, G) q0 u0 ++ PWX9_init (adr0 q0 q1 u0 u1, G) q1 u1)[59]? = some (adr0 q0 q1 u0 u1 59, ent (adr0 q0 q1 u0 u1, G) mem0 59) := rfl
set_option maxRecDepth 100000 in
theorem cell_60 (G : (Nat → Nat) × va_G) (u0 u1 : Nat → Nat) (q0 q1 : Nat) : (PWX8_init (adr0 q0 q1 u0 u1, G) q0 u0 ++ PWX9_init (adr0 q0 q1 u0 u1, G) q1 u1)[60]? = some (adr0 q0 q1 u0 u1 60, ent (adr0 q0 q1 u0 u1, G) mem0 60) := rfl
set_option maxRecDepth 100000 in
theorem cell_61 (G : (Nat → Nat) × va_G) (u0 u1 : Nat → Nat) (q0 q1 : Nat) : (PWX8_init (adr0 q0 q1 u0 u1, G) q0 u0 ++ PWX9_init (adr0 q0 q1 u0 u1, G) q1 u1)[61]? = some (adr0 q0 q1 u0 u1 61, ent (adr0 q0 q1 u0 u1, G) mem0 61) := rfl
set_option maxRecDepth 100000 in
theorem cell_62 (G : (Nat → Nat) × va_G) (u0 u1 : Nat → Nat) (q0 q1 : Nat) : (PWX8_init (adr0 q0 q1 u0 u1, G) q0 u0 ++ PWX9_init (adr0 q0 q1 u0 u1, G) q1 u1)[62]? = some (adr0 q0 q1 u0 u1 62, ent (adr0 q0 q1 u0 u1, G) mem0 62) := rfl
set_option maxRecDepth 100000 in
theorem cell_63 (G : (Nat → Nat) × va_G) (u0 u1 : Nat → Nat) (q0 q1 : Nat) : (PWX8_init (adr0 q0 q1 u0 u1, G) q0 u0 ++ PWX9_init (adr0 q0 q1 u0 u1, G) q1 u1)[63]? = some (adr0 q0 q1 u0 u1 63, ent (adr0 q0 q1 u0 u1, G) mem0 63) := rfl
set_option maxRecDepth 100000 in
theorem cell_64 (G : (Nat → Nat) × va_G) (u0 u1 : Nat → Nat) (q0 q1 : Nat) : (PWX8_init (adr0 q0 q1 u0 u1, G) q0 u0 ++ PWX9_init (adr0 q0 q1 u0 u1, G) q1 u1)[64]? = some (adr0 q0 q1 u0 u1 64, ent (adr0 q0 q1 u0 u1, G) mem0 64) := rfl
set_option maxRecDepth 100000 in
theorem cell_65 (G : (Nat → Nat) × va_G) (u0 u1 : Nat → Nat) (q0 q1 : Nat) : (PWX8_init (adr0 q0 q1 u0 u1, G) q0 u0 ++ PWX9_init (adr0 q0 q1 u0 u1, G) q1 u1)[65]? = some (adr0 q0 q1 u0 u1 65, ent (adr0 q0 q1 u0 u1, G) mem0 65) := rfl
set_option maxRecDepth 100000 in
theorem cell_66 (G : (Nat → Nat) × va_G) (u0 u1 : Nat → Nat) (q0 q1 : Nat) : (PWX8_init (adr0 q0 q1 u0 u1, G) q0 u0 ++ PWX9_init (adr0 q0 q1 u0 u1, G) q1 u1)[66]? = some (adr0 q0 q1 u0 u1 66, ent (adr0 q0 q1 u0 u1, G) mem0 66) := rfl
set_option maxRecDepth 100000 in
theorem cell_67 (G : (Nat → Nat) × va_G) (u0 u1 : Nat → Nat) (q0 q1 : Nat) : (PWX8_init (adr0 q0 q1 u0 u1, G) q0 u0 ++ PWX9_init (adr0 q0 q1 u0 u1, G) q1 u1)[67]? = some (adr0 q0 q1 u0 u1 67, ent (adr0 q0 q1 u0 u1, G) mem0 67) := rfl
set_option maxRecDepth 100000 in
theorem cell_68 (G : (Nat → Nat) × va_G) (u0 u1 : Nat → Nat) (q0 q1 : Nat) : (PWX8_init (adr0 q0 q1 u0 u1, G) q0 u0 ++ PWX9_init (adr0 q0 q1 u0 u1, G) q1 u1)[68]? = some (adr0 q0 q1 u0 u1 68, ent (adr0 q0 q1 u0 u1, G) mem0 68) := rfl
set_option maxRecDepth 100000 in
theorem cell_69 (G : (Nat → Nat) × va_G) (u0 u1 : Nat → Nat) (q0 q1 : Nat) : (PWX8_init (adr0 q0 q1 u0 u1, G) q0 u0 ++ PWX9_init (adr0 q0 q1 u0 u1, G) q1 u1)[69]? = some (adr0 q0 q1 u0 u1 69, ent (adr0 q0 q1 u0 u1, G) mem0 69) := rfl
set_option maxRecDepth 100000 in
theorem cell_70 (G : (Nat → Nat) × va_G) (u0 u1 : Nat → Nat) (q0 q1 : Nat) : (PWX8_init (adr0 q0 q1 u0 u1, G) q0 u0 ++ PWX9_init (adr0 q0 q1 u0 u1, G) q1 u1)[70]? = some (adr0 q0 q1 u0 u1 70, ent (adr0 q0 q1 u0 u1, G) mem0 70) := rfl
set_option maxRecDepth 100000 in
theorem cell_71 (G : (Nat → Nat) × va_G) (u0 u1 : Nat → Nat) (q0 q1 : Nat) : (PWX8_init (adr0 q0 q1 u0 u1, G) q0 u0 ++ PWX9_init (adr0 q0 q1 u0 u1, G) q1 u1)[71]? = some (adr0 q0 q1 u0 u1 71, ent (adr0 q0 q1 u0 u1, G) mem0 71) := rfl
set_option maxRecDepth 100000 in
theorem cell_72 (G : (Nat → Nat) × va_G) (u0 u1 : Nat → Nat) (q0 q1 : Nat) : (PWX8_init (adr0 q0 q1 u0 u1, G) q0 u0 ++ PWX9_init (adr0 q0 q1 u0 u1, G) q1 u1)[72]? = some (adr0 q0 q1 u0 u1 72, ent (adr0 q0 q1 u0 u1, G) mem0 72) := rfl
set_option maxRecDepth 100000 in
theorem cell_73 (G : (Nat → Nat) × va_G) (u0 u1 : Nat → Nat) (q0 q1 : Nat) : (PWX8_init (adr0 q0 q1 u0 u1, G) q0 u0 ++ PWX9_init (adr0 q0 q1 u0 u1, G) q1 u1)[73]? = some (adr0 q0 q1 u0 u1 73, ent (adr0 q0 q1 u0 u1, G) mem0 73) := rfl
set_option maxRecDepth 100000 in
theorem cell_74 (G : (Nat → Nat) × va_G) (u0 u1 : Nat → Nat) (q0 q1 : Nat) : (PWX8_init (adr0 q0 q1 u0 u1, G) q0 u0 ++ PWX9_init (adr0 q0 q1 u0 u1, G) q1 u1)[74]? = some (adr0 q0 q1 u0 u1 74, ent (adr0 q0 q1 u0 u1, G) mem0 74) := rfl
set_option maxRecDepth 100000 in
theorem cell_75 (G : (Nat → Nat) × va_G) (u0 u1 : Nat → Nat) (q0 q1 : Nat) : (PWX8_init (adr0 q0 q1 u0 u1, G) q0 u0 ++ PWX9_init (adr0 q0 q1 u0 u1, G) q1 u1)[75]? = some (adr0 q0 q1 u0 u1 75, ent (adr0 q0 q1 u0 u1, G) mem0 75) := rfl
set_option maxRecDepth 100000 in
theorem cell_76 (G : (Nat → Nat) × va_G) (u0 u1 : Nat → Nat) (q0 q1 : Nat) : (PWX8_init (adr0 q0 q1 u0 u1, G) q0 u0 ++ PWX9_init (adr0 q0 q1 u0 u1, G) q1 u1)[76]? = some (adr0 q0 q1 u0 u1 76, ent (adr0 q0 q1 u0 u1, G) mem0 76) := rfl
set_option maxRecDepth 100000 in
theorem cell_77 (G : (Nat → Nat) × va_G) (u0 u1 : Nat → Nat) (q0 q1 : Nat) : (PWX8_init (adr0 q0 q1 u0 u1, G) q0 u0 ++ PWX9_init (adr0 q0 q1 u0 u1, G) q1 u1)[77]? = some (adr0 q0 q1 u0 u1 77, ent (adr0 q0 q1 u0 u1, G) mem0 77) := rfl
set_option maxRecDepth 100000 in
theorem cell_78 (G : (Nat → Nat) × va_G) (u0 u1 : Nat → Nat) (q0 q1 : Nat) : (PWX8_init (adr0 q0 q1 u0 u1, G) q0 u0 ++ PWX9_init (adr0 q0 q1 u0 u1, G) q1 u1)[78]? = some (adr0 q0 q1 u0 u1 78, ent (adr0 q0 q1 u0 u1, G) mem0 78) := rfl
set_option maxRecDepth 100000 in
theorem cell_79 (G : (Nat → Nat) × va_G) (u0 u1 : Nat → Nat) (q0 q1 : Nat) : (PWX8_init (adr0 q0 q1 u0 u1, G) q0 u0 ++ PWX9_init (adr0 q0 q1 u0 u1, G) q1 u1)[79]? = some (adr0 q0 q1 u0 u1 79, ent (adr0 q0 q1 u0 u1, G) mem0 79) := rfl
set_option maxRecDepth 100000 in
theorem cell_80 (G : (Nat → Nat) × va_G) (u0 u1 : Nat → Nat) (q0 q1 : Nat) : (PWX8_init (adr0 q0 q1 u0 u1, G) q0 u0 ++ PWX9_init (adr0 q0 q1 u0 u1, G) q1 u1)[80]? = some (adr0 q0 q1 u0 u1 80, ent (adr0 q0 q1 u0 u1, G) mem0 80) := by
  have e := row_80 u0 u1 q0 q1
  show some (_, Sum.inl (_, _, Sum.inr (Sum.inr (Sum.inr (Sum.inr _))))) = some (_, Sum.inl (_, _, Sum.inr (Sum.inr (Sum.inr (Sum.inr _)))))
  exact congrArg (fun f => some (_, Sum.inl (_, _, Sum.inr (Sum.inr (Sum.inr (Sum.inr f)))))) e
set_option maxRecDepth 100000 in
theorem cell_81 (G : (Nat → Nat) × va_G) (u0 u1 : Nat → Nat) (q0 q1 : Nat) : (PWX8_init (adr0 q0 q1 u0 u1, G) q0 u0 ++ PWX9_init (adr0 q0 q1 u0 u1, G) q1 u1)[81]? = some (adr0 q0 q1 u0 u1 81, ent (adr0 q0 q1 u0 u1, G) mem0 81) := rfl
set_option maxRecDepth 100000 in
theorem cell_82 (G : (Nat → Nat) × va_G) (u0 u1 : Nat → Nat) (q0 q1 : Nat) : (PWX8_init (adr0 q0 q1 u0 u1, G) q0 u0 ++ PWX9_init (adr0 q0 q1 u0 u1, G) q1 u1)[82]? = some (adr0 q0 q1 u0 u1 82, ent (adr0 q0 q1 u0 u1, G) mem0 82) := rfl
set_option maxRecDepth 100000 in
theorem cell_83 (G : (Nat → Nat) × va_G) (u0 u1 : Nat → Nat) (q0 q1 : Nat) : (PWX8_init (adr0 q0 q1 u0 u1, G) q0 u0 ++ PWX9_init (adr0 q0 q1 u0 u1, G) q1 u1)[83]? = some (adr0 q0 q1 u0 u1 83, ent (adr0 q0 q1 u0 u1, G) mem0 83) := rfl
set_option maxRecDepth 100000 in
theorem cell_84 (G : (Nat → Nat) × va_G) (u0 u1 : Nat → Nat) (q0 q1 : Nat) : (PWX8_init (adr0 q0 q1 u0 u1, G) q0 u0 ++ PWX9_init (adr0 q0 q1 u0 u1, G) q1 u1)[84]? = some (adr0 q0 q1 u0 u1 84, ent (adr0 q0 q1 u0 u1, G) mem0 84) := rfl
set_option maxRecDepth 100000 in
theorem cell_85 (G : (Nat → Nat) × va_G) (u0 u1 : Nat → Nat) (q0 q1 : Nat) : (PWX8_init (adr0 q0 q1 u0 u1, G) q0 u0 ++ PWX9_init (adr0 q0 q1 u0 u1, G) q1 u1)[85]? = some (adr0 q0 q1 u0 u1 85, ent (adr0 q0 q1 u0 u1, G) mem0 85) := rfl
set_option maxRecDepth 100000 in
theorem cell_86 (G : (Nat → Nat) × va_G) (u0 u1 : Nat → Nat) (q0 q1 : Nat) : (PWX8_init (adr0 q0 q1 u0 u1, G) q0 u0 ++ PWX9_init (adr0 q0 q1 u0 u1, G) q1 u1)[86]? = some (adr0 q0 q1 u0 u1 86, ent (adr0 q0 q1 u0 u1, G) mem0 86) := rfl
set_option maxRecDepth 100000 in
theorem cell_87 (G : (Nat → Nat) × va_G) (u0 u1 : Nat → Nat) (q0 q1 : Nat) : (PWX8_init (adr0 q0 q1 u0 u1, G) q0 u0 ++ PWX9_init (adr0 q0 q1 u0 u1, G) q1 u1)[87]? = some (adr0 q0 q1 u0 u1 87, ent (adr0 q0 q1 u0 u1, G) mem0 87) := rfl
set_option maxRecDepth 100000 in
theorem cell_88 (G : (Nat → Nat) × va_G) (u0 u1 : Nat → Nat) (q0 q1 : Nat) : (PWX8_init (adr0 q0 q1 u0 u1, G) q0 u0 ++ PWX9_init (adr0 q0 q1 u0 u1, G) q1 u1)[88]? = some (adr0 q0 q1 u0 u1 88, ent (adr0 q0 q1 u0 u1, G) mem0 88) := rfl
set_option maxRecDepth 100000 in
theorem cell_89 (G : (Nat → Nat) × va_G) (u0 u1 : Nat → Nat) (q0 q1 : Nat) : (PWX8_init (adr0 q0 q1 u0 u1, G) q0 u0 ++ PWX9_init (adr0 q0 q1 u0 u1, G) q1 u1)[89]? = some (adr0 q0 q1 u0 u1 89, ent (adr0 q0 q1 u0 u1, G) mem0 89) := rfl
set_option maxRecDepth 100000 in
theorem cell_90 (G : (Nat → Nat) × va_G) (u0 u1 : Nat → Nat) (q0 q1 : Nat) : (PWX8_init (adr0 q0 q1 u0 u1, G) q0 u0 ++ PWX9_init (adr0 q0 q1 u0 u1, G) q1 u1)[90]? = some (adr0 q0 q1 u0 u1 90, ent (adr0 q0 q1 u0 u1, G) mem0 90) := rfl
set_option maxRecDepth 100000 in
theorem cell_91 (G : (Nat → Nat) × va_G) (u0 u1 : Nat → Nat) (q0 q1 : Nat) : (PWX8_init (adr0 q0 q1 u0 u1, G) q0 u0 ++ PWX9_init (adr0 q0 q1 u0 u1, G) q1 u1)[91]? = some (adr0 q0 q1 u0 u1 91, ent (adr0 q0 q1 u0 u1, G) mem0 91) := rfl
set_option maxRecDepth 100000 in
theorem cell_92 (G : (Nat → Nat) × va_G) (u0 u1 : Nat → Nat) (q0 q1 : Nat) : (PWX8_init (adr0 q0 q1 u0 u1, G) q0 u0 ++ PWX9_init (adr0 q0 q1 u0 u1, G) q1 u1)[92]? = some (adr0 q0 q1 u0 u1 92, ent (adr0 q0 q1 u0 u1, G) mem0 92) := rfl
set_option maxRecDepth 100000 in
theorem cell_93 (G : (Nat → Nat) × va_G) (u0 u1 : Nat → Nat) (q0 q1 : Nat) : (PWX8_init (adr0 q0 q1 u0 u1, G) q0 u0 ++ PWX9_init (adr0 q0 q1 u0 u1, G) q1 u1)[93]? = some (adr0 q0 q1 u0 u1 93, ent (adr0 q0 q1 u0 u1, G) mem0 93) := rfl
set_option maxRecDepth 100000 in
theorem cell_94 (G : (Nat → Nat) × va_G) (u0 u1 : Nat → Nat) (q0 q1 : Nat) : (PWX8_init (adr0 q0 q1 u0 u1, G) q0 u0 ++ PWX9_init (adr0 q0 q1 u0 u1, G) q1 u1)[94]? = some (adr0 q0 q1 u0 u1 94, ent (adr0 q0 q1 u0 u1, G) mem0 94) := rfl
set_option maxRecDepth 100000 in
theorem cell_95 (G : (Nat → Nat) × va_G) (u0 u1 : Nat → Nat) (q0 q1 : Nat) : (PWX8_init (adr0 q0 q1 u0 u1, G) q0 u0 ++ PWX9_init (adr0 q0 q1 u0 u1, G) q1 u1)[95]? = some (adr0 q0 q1 u0 u1 95, ent (adr0 q0 q1 u0 u1, G) mem0 95) := rfl
set_option maxRecDepth 100000 in
theorem cell_96 (G : (Nat → Nat) × va_G) (u0 u1 : Nat → Nat) (q0 q1 : Nat) : (PWX8_init (adr0 q0 q1 u0 u1, G) q0 u0 ++ PWX9_init (adr0 q0 q1 u0 u1, G) q1 u1)[96]? = some (adr0 q0 q1 u0 u1 96, ent (adr0 q0 q1 u0 u1, G) mem0 96) := rfl
set_option maxRecDepth 100000 in
theorem cell_97 (G : (Nat → Nat) × va_G) (u0 u1 : Nat → Nat) (q0 q1 : Nat) : (PWX8_init (adr0 q0 q1 u0 u1, G) q0 u0 ++ PWX9_init (adr0 q0 q1 u0 u1, G) q1 u1)[97]? = some (adr0 q0 q1 u0 u1 97, ent (adr0 q0 q1 u0 u1, G) mem0 97) := rfl
set_option maxRecDepth 100000 in
theorem cell_98 (G : (Nat → Nat) × va_G) (u0 u1 : Nat → Nat) (q0 q1 : Nat) : (PWX8_init (adr0 q0 q1 u0 u1, G) q0 u0 ++ PWX9_init (adr0 q0 q1 u0 u1, G) q1 u1)[98]? = some (adr0 q0 q1 u0 u1 98, ent (adr0 q0 q1 u0 u1, G) mem0 98) := rfl
set_option maxRecDepth 100000 in
theorem cell_99 (G : (Nat → Nat) × va_G) (u0 u1 : Nat → Nat) (q0 q1 : Nat) : (PWX8_init (adr0 q0 q1 u0 u1, G) q0 u0 ++ PWX9_init (adr0 q0 q1 u0 u1, G) q1 u1)[99]? = some (adr0 q0 q1 u0 u1 99, ent (adr0 q0 q1 u0 u1, G) mem0 99) := rfl
set_option maxRecDepth 100000 in
theorem cell_100 (G : (Nat → Nat) × va_G) (u0 u1 : Nat → Nat) (q0 q1 : Nat) : (PWX8_init (adr0 q0 q1 u0 u1, G) q0 u0 ++ PWX9_init (adr0 q0 q1 u0 u1, G) q1 u1)[100]? = some (adr0 q0 q1 u0 u1 100, ent (adr0 q0 q1 u0 u1, G) mem0 100) := rfl
set_option maxRecDepth 100000 in
theorem cell_101 (G : (Nat → Nat) × va_G) (u0 u1 : Nat → Nat) (q0 q1 : Nat) : (PWX8_init (adr0 q0 q1 u0 u1, G) q0 u0 ++ PWX9_init (adr0 q0 q1 u0 u1, G) q1 u1)[101]? = some (adr0 q0 q1 u0 u1 101, ent (adr0 q0 q1 u0 u1, G) mem0 101) := rfl
set_option maxRecDepth 100000 in
theorem cell_102 (G : (Nat → Nat) × va_G) (u0 u1 : Nat → Nat) (q0 q1 : Nat) : (PWX8_init (adr0 q0 q1 u0 u1, G) q0 u0 ++ PWX9_init (adr0 q0 q1 u0 u1, G) q1 u1)[102]? = some (adr0 q0 q1 u0 u1 102, ent (adr0 q0 q1 u0 u1, G) mem0 102) := rfl
set_option maxRecDepth 100000 in
theorem cell_103 (G : (Nat → Nat) × va_G) (u0 u1 : Nat → Nat) (q0 q1 : Nat) : (PWX8_init (adr0 q0 q1 u0 u1, G) q0 u0 ++ PWX9_init (adr0 q0 q1 u0 u1, G) q1 u1)[103]? = some (adr0 q0 q1 u0 u1 103, ent (adr0 q0 q1 u0 u1, G) mem0 103) := rfl
set_option maxRecDepth 100000 in
theorem cell_104 (G : (Nat → Nat) × va_G) (u0 u1 : Nat → Nat) (q0 q1 : Nat) : (PWX8_init (adr0 q0 q1 u0 u1, G) q0 u0 ++ PWX9_init (adr0 q0 q1 u0 u1, G) q1 u1)[104]? = some (adr0 q0 q1 u0 u1 104, ent (adr0 q0 q1 u0 u1, G) mem0 104) := rfl
set_option maxRecDepth 100000 in
theorem cell_105 (G : (Nat → Nat) × va_G) (u0 u1 : Nat → Nat) (q0 q1 : Nat) : (PWX8_init (adr0 q0 q1 u0 u1, G) q0 u0 ++ PWX9_init (adr0 q0 q1 u0 u1, G) q1 u1)[105]? = some (adr0 q0 q1 u0 u1 105, ent (adr0 q0 q1 u0 u1, G) mem0 105) := rfl
set_option maxRecDepth 100000 in
theorem cell_106 (G : (Nat → Nat) × va_G) (u0 u1 : Nat → Nat) (q0 q1 : Nat) : (PWX8_init (adr0 q0 q1 u0 u1, G) q0 u0 ++ PWX9_init (adr0 q0 q1 u0 u1, G) q1 u1)[106]? = some (adr0 q0 q1 u0 u1 106, ent (adr0 q0 q1 u0 u1, G) mem0 106) := rfl
set_option maxRecDepth 100000 in
theorem cell_107 (G : (Nat → Nat) × va_G) (u0 u1 : Nat → Nat) (q0 q1 : Nat) : (PWX8_init (adr0 q0 q1 u0 u1, G) q0 u0 ++ PWX9_init (adr0 q0 q1 u0 u1, G) q1 u1)[107]? = some (adr0 q0 q1 u0 u1 107, ent (adr0 q0 q1 u0 u1, G) mem0 107) := rfl
set_option maxRecDepth 100000 in
theorem cell_108 (G : (Nat → Nat) × va_G) (u0 u1 : Nat → Nat) (q0 q1 : Nat) : (PWX8_init (adr0 q0 q1 u0 u1, G) q0 u0 ++ PWX9_init (adr0 q0 q1 u0 u1, G) q1 u1)[108]? = some (adr0 q0 q1 u0 u1 108, ent (adr0 q0 q1 u0 u1, G) mem0 108) := rfl
set_option maxRecDepth 100000 in
theorem cell_109 (G : (Nat → Nat) × va_G) (u0 u1 : Nat → Nat) (q0 q1 : Nat) : (PWX8_init (adr0 q0 q1 u0 u1, G) q0 u0 ++ PWX9_init (adr0 q0 q1 u0 u1, G) q1 u1)[109]? = some (adr0 q0 q1 u0 u1 109, ent (adr0 q0 q1 u0 u1, G) mem0 109) := rfl
set_option maxRecDepth 100000 in
theorem cell_110 (G : (Nat → Nat) × va_G) (u0 u1 : Nat → Nat) (q0 q1 : Nat) : (PWX8_init (adr0 q0 q1 u0 u1, G) q0 u0 ++ PWX9_init (adr0 q0 q1 u0 u1, G) q1 u1)[110]? = some (adr0 q0 q1 u0 u1 110, ent (adr0 q0 q1 u0 u1, G) mem0 110) := rfl
set_option maxRecDepth 100000 in
theorem cell_111 (G : (Nat → Nat) × va_G) (u0 u1 : Nat → Nat) (q0 q1 : Nat) : (PWX8_init (adr0 q0 q1 u0 u1, G) q0 u0 ++ PWX9_init (adr0 q0 q1 u0 u1, G) q1 u1)[111]? = some (adr0 q0 q1 u0 u1 111, ent (adr0 q0 q1 u0 u1, G) mem0 111) := rfl
set_option maxRecDepth 100000 in
theorem cell_112 (G : (Nat → Nat) × va_G) (u0 u1 : Nat → Nat) (q0 q1 : Nat) : (PWX8_init (adr0 q0 q1 u0 u1, G) q0 u0 ++ PWX9_init (adr0 q0 q1 u0 u1, G) q1 u1)[112]? = some (adr0 q0 q1 u0 u1 112, ent (adr0 q0 q1 u0 u1, G) mem0 112) := rfl
set_option maxRecDepth 100000 in
theorem cell_113 (G : (Nat → Nat) × va_G) (u0 u1 : Nat → Nat) (q0 q1 : Nat) : (PWX8_init (adr0 q0 q1 u0 u1, G) q0 u0 ++ PWX9_init (adr0 q0 q1 u0 u1, G) q1 u1)[113]? = some (adr0 q0 q1 u0 u1 113, ent (adr0 q0 q1 u0 u1, G) mem0 113) := rfl
set_option maxRecDepth 100000 in
theorem cell_114 (G : (Nat → Nat) × va_G) (u0 u1 : Nat → Nat) (q0 q1 : Nat) : (PWX8_init (adr0 q0 q1 u0 u1, G) q0 u0 ++ PWX9_init (adr0 q0 q1 u0 u1, G) q1 u1)[114]? = some (adr0 q0 q1 u0 u1 114, ent (adr0 q0 q1 u0 u1, G) mem0 114) := rfl
set_option maxRecDepth 100000 in
theorem cell_115 (G : (Nat → Nat) × va_G) (u0 u1 : Nat → Nat) (q0 q1 : Nat) : (PWX8_init (adr0 q0 q1 u0 u1, G) q0 u0 ++ PWX9_init (adr0 q0 q1 u0 u1, G) q1 u1)[115]? = some (adr0 q0 q1 u0 u1 115, ent (adr0 q0 q1 u0 u1, G) mem0 115) := rfl
set_option maxRecDepth 100000 in
theorem cell_116 (G : (Nat → Nat) × va_G) (u0 u1 : Nat → Nat) (q0 q1 : Nat) : (PWX8_init (adr0 q0 q1 u0 u1, G) q0 u0 ++ PWX9_init (adr0 q0 q1 u0 u1, G) q1 u1)[116]? = some (adr0 q0 q1 u0 u1 116, ent (adr0 q0 q1 u0 u1, G) mem0 116) := rfl
set_option maxRecDepth 100000 in
theorem cell_all (G : (Nat → Nat) × va_G) (u0 u1 : Nat → Nat) (q0 q1 : Nat) (k : Nat) (hk : k < NC) : (PWX8_init (adr0 q0 q1 u0 u1, G) q0 u0 ++ PWX9_init (adr0 q0 q1 u0 u1, G) q1 u1)[k]? = some (adr0 q0 q1 u0 u1 k, ent (adr0 q0 q1 u0 u1, G) mem0 k) := by
  match k, hk with
  | 0, _ => exact cell_0 G u0 u1 q0 q1
  | 1, _ => exact cell_1 G u0 u1 q0 q1
  | 2, _ => exact cell_2 G u0 u1 q0 q1
  | 3, _ => exact cell_3 G u0 u1 q0 q1
  | 4, _ => exact cell_4 G u0 u1 q0 q1
  | 5, _ => exact cell_5 G u0 u1 q0 q1
  | 6, _ => exact cell_6 G u0 u1 q0 q1
  | 7, _ => exact cell_7 G u0 u1 q0 q1
  | 8, _ => exact cell_8 G u0 u1 q0 q1
  | 9, _ => exact cell_9 G u0 u1 q0 q1
  | 10, _ => exact cell_10 G u0 u1 q0 q1
  | 11, _ => exact cell_11 G u0 u1 q0 q1
  | 12, _ => exact cell_12 G u0 u1 q0 q1
  | 13, _ => exact cell_13 G u0 u1 q0 q1
  | 14, _ => exact cell_14 G u0 u1 q0 q1
  | 15, _ => exact cell_15 G u0 u1 q0 q1
  | 16, _ => exact cell_16 G u0 u1 q0 q1
  | 17, _ => exact cell_17 G u0 u1 q0 q1
  | 18, _ => exact cell_18 G u0 u1 q0 q1
  | 19, _ => exact cell_19 G u0 u1 q0 q1
  | 20, _ => exact cell_20 G u0 u1 q0 q1
  | 21, _ => exact cell_21 G u0 u1 q0 q1
  | 22, _ => exact cell_22 G u0 u1 q0 q1
  | 23, _ => exact cell_23 G u0 u1 q0 q1
  | 24, _ => exact cell_24 G u0 u1 q0 q1
  | 25, _ => exact cell_25 G u0 u1 q0 q1
  | 26, _ => exact cell_26 G u0 u1 q0 q1
  | 27, _ => exact cell_27 G u0 u1 q0 q1
  | 28, _ => exact cell_28 G u0 u1 q0 q1
  | 29, _ => exact cell_29 G u0 u1 q0 q1
  | 30, _ => exact cell_30 G u0 u1 q0 q1
  | 31, _ => exact cell_31 G u0 u1 q0 q1
  | 32, _ => exact cell_32 G u0 u1 q0 q1
  | 33, _ => exact cell_33 G u0 u1 q0 q1
  | 34, _ => exact cell_34 G u0 u1 q0 q1
  | 35, _ => exact cell_35 G u0 u1 q0 q1
  | 36, _ => exact cell_36 G u0 u1 q0 q1
  | 37, _ => exact cell_37 G u0 u1 q0 q1
  | 38, _ => exact cell_38 G u0 u1 q0 q1
  | 39, _ => exact cell_39 G u0 u1 q0 q1
  | 40, _ => exact cell_40 G u0 u1 q0 q1
  | 41, _ => exact cell_41 G u0 u1 q0 q1
  | 42, _ => exact cell_42 G u0 u1 q0 q1
  | 43, _ => exact cell_43 G u0 u1 q0 q1
  | 44, _ => exact cell_44 G u0 u1 q0 q1
  | 45, _ => exact cell_45 G u0 u1 q0 q1
  | 46, _ => exact cell_46 G u0 u1 q0 q1
  | 47, _ => exact cell_47 G u0 u1 q0 q1
  | 48, _ => exact cell_48 G u0 u1 q0 q1
  | 49, _ => exact cell_49 G u0 u1 q0 q1
  | 50, _ => exact cell_50 G u0 u1 q0 q1
  | 51, _ => exact cell_51 G u0 u1 q0 q1
  | 52, _ => exact cell_52 G u0 u1 q0 q1
  | 53, _ => exact cell_53 G u0 u1 q0 q1
  | 54, _ => exact cell_54 G u0 u1 q0 q1
  | 55, _ => exact cell_55 G u0 u1 q0 q1
  | 56, _ => exact cell_56 G u0 u1 q0 q1
  | 57, _ => exact cell_57 G u0 u1 q0 q1
  | 58, _ => exact cell_58 G u0 u1 q0 q1
  | 59, _ => exact cell_59 G u0 u1 q0 q1
  | 60, _ => exact cell_60 G u0 u1 q0 q1
  | 61, _ => exact cell_61 G u0 u1 q0 q1
  | 62, _ => exact cell_62 G u0 u1 q0 q1
  | 63, _ => exact cell_63 G u0 u1 q0 q1
  | 64, _ => exact cell_64 G u0 u1 q0 q1
  | 65, _ => exact cell_65 G u0 u1 q0 q1
  | 66, _ => exact cell_66 G u0 u1 q0 q1
  | 67, _ => exact cell_67 G u0 u1 q0 q1
  | 68, _ => exact cell_68 G u0 u1 q0 q1
  | 69, _ => exact cell_69 G u0 u1 q0 q1
  | 70, _ => exact cell_70 G u0 u1 q0 q1
  | 71, _ => exact cell_71 G u0 u1 q0 q1
  | 72, _ => exact cell_72 G u0 u1 q0 q1
  | 73, _ => exact cell_73 G u0 u1 q0 q1
  | 74, _ => exact cell_74 G u0 u1 q0 q1
  | 75, _ => exact cell_75 G u0 u1 q0 q1
  | 76, _ => exact cell_76 G u0 u1 q0 q1
  | 77, _ => exact cell_77 G u0 u1 q0 q1
  | 78, _ => exact cell_78 G u0 u1 q0 q1
  | 79, _ => exact cell_79 G u0 u1 q0 q1
  | 80, _ => exact cell_80 G u0 u1 q0 q1
  | 81, _ => exact cell_81 G u0 u1 q0 q1
  | 82, _ => exact cell_82 G u0 u1 q0 q1
  | 83, _ => exact cell_83 G u0 u1 q0 q1
  | 84, _ => exact cell_84 G u0 u1 q0 q1
  | 85, _ => exact cell_85 G u0 u1 q0 q1
  | 86, _ => exact cell_86 G u0 u1 q0 q1
  | 87, _ => exact cell_87 G u0 u1 q0 q1
  | 88, _ => exact cell_88 G u0 u1 q0 q1
  | 89, _ => exact cell_89 G u0 u1 q0 q1
  | 90, _ => exact cell_90 G u0 u1 q0 q1
  | 91, _ => exact cell_91 G u0 u1 q0 q1
  | 92, _ => exact cell_92 G u0 u1 q0 q1
  | 93, _ => exact cell_93 G u0 u1 q0 q1
  | 94, _ => exact cell_94 G u0 u1 q0 q1
  | 95, _ => exact cell_95 G u0 u1 q0 q1
  | 96, _ => exact cell_96 G u0 u1 q0 q1
  | 97, _ => exact cell_97 G u0 u1 q0 q1
  | 98, _ => exact cell_98 G u0 u1 q0 q1
  | 99, _ => exact cell_99 G u0 u1 q0 q1
  | 100, _ => exact cell_100 G u0 u1 q0 q1
  | 101, _ => exact cell_101 G u0 u1 q0 q1
  | 102, _ => exact cell_102 G u0 u1 q0 q1
  | 103, _ => exact cell_103 G u0 u1 q0 q1
  | 104, _ => exact cell_104 G u0 u1 q0 q1
  | 105, _ => exact cell_105 G u0 u1 q0 q1
  | 106, _ => exact cell_106 G u0 u1 q0 q1
  | 107, _ => exact cell_107 G u0 u1 q0 q1
  | 108, _ => exact cell_108 G u0 u1 q0 q1
  | 109, _ => exact cell_109 G u0 u1 q0 q1
  | 110, _ => exact cell_110 G u0 u1 q0 q1
  | 111, _ => exact cell_111 G u0 u1 q0 q1
  | 112, _ => exact cell_112 G u0 u1 q0 q1
  | 113, _ => exact cell_113 G u0 u1 q0 q1
  | 114, _ => exact cell_114 G u0 u1 q0 q1
  | 115, _ => exact cell_115 G u0 u1 q0 q1
  | 116, _ => exact cell_116 G u0 u1 q0 q1
  | k + 117, hk => exact absurd hk (by show ¬ k + 117 < 117; omega)
set_option maxHeartbeats 8000000 in
set_option maxRecDepth 100000 in
/-- THE LAW, from its entry, out of what its loop says of the cells -/
theorem whole_start_of {p : Program} {e : Env} {s : State} {m : MethodId} {below : List Frame} {meth : Method} {c : Code} (l : Launch) {b L : Nat} {xs : Nat → Int32} (hm : ∃ F n, fL_law F xs L n 0 mem0 = some ()) (C0 : lw_At p s m meth c b L xs) : W p l e room_1 s m #[Value.ref b] below meth c s.heap [] 0 0 (lw_Z below #[Value.ref b] s) (entryFrame m ([Value.ref b] : List Value).toArray 4) := by
  obtain ⟨hx, hb, hr, hml, hown, hts, hX, hbl, hlocks, hgv⟩ := id C0
  obtain ⟨F, n, hf⟩ := hm
  obtain ⟨G, hG⟩ := know hts
  have X : CallFix p m c cL_law 4 s #[Value.ref b] (w0L :: GG) "OvenHouseLaw" := ⟨hx, hb, hml, hown, fun w h => by
    rcases List.mem_cons.mp h with rfl | h
    · exact hts _ (tl_1 0 rfl)
    · exact hts _ (gg_in h)⟩
  have K0 : Kc (fun _ => 0, G) s := hG _
  have hA : ∀ q : Nat, s.heap.size ≤ q → (fun q : Nat => s.heap.size ≤ q) q := fun _ h => h
  have hS : va_S (fun q : Nat => s.heap.size ≤ q) s.heap s.heap [] := va_S.rf
  have hP : va_P G.2 vwCl [] s.heap := fun k q h => by simp at h
  have hD : va_D (fun q : Nat => s.heap.size ≤ q) [] := ⟨fun i j p q h => by simp at h, fun k q h => by simp at h⟩
  have hl := lv_entry ([.ref b]) (n := 4) (Nat.le_of_ble_eq_true rfl)
  rw [lg_entry_eq]
  generalize (lg_sl ([.ref b]) ++ List.replicate (4 - (lg_sl ([.ref b])).length) Slot.unset).toArray = ls at hl ⊢
  have hl : lv_has ls 4 [(0, .ref b)] := hl
  refine va_new (ci := 8) (fs := [.null, .null, .null, .null, .null, .null, .null, .null, .null, .null, .null]) (C := RX8) (T := TX8) (N := 11) hx hb X.2.2.2.2 (fun w h => List.mem_cons_of_mem _ (inX8 w h)) tyX8 tyX8_ok hown (X.2.2.2.2 _ (List.mem_cons_of_mem _ mw_1_14)) (X.2.2.2.2 _ (List.mem_cons_of_mem _ mw_1_15)) (X.2.2.2.2 _ (List.mem_cons_of_mem _ mw_1_1)) K0.1.1 hP hD hS hA rfl (by decide) (Nat.le_of_ble_eq_true rfl) (Nat.le_of_ble_eq_true rfl) dL_law_0 (fun q0 H hP hD hS => ?_)
  refine W.widen (k := 1) (n := 11) (Nat.le_refl _) (Nat.le_refl _) ?_
  refine lv_dup hx hb dL_law_3 rfl ?_
  refine c_after (E := (fun _ => 0, G)) (wr := []) (q := q0) (e0 := .inr (8, [.null, .null, .null, .null, .null, .null, .null, .null, .null, .null, .null])) (PW := PWX8_init (fun _ => 0, G) q0) hP hD hS hA (va_runI (As := []) (rest := [.ref q0]) X (ccX8_init (l := l) (E := (fun _ => 0, G)) q0 H.size) (cwI (rm := rcX8_init) 0 X.2.2.2.2 (gd_N mw_1_18) rfl rfl rfl (X.2.2.2.2 _ (List.mem_cons_of_mem _ mw_1_1)) (X.2.2.2.2 _ (List.mem_cons_of_mem _ mw_1_16)) (X.2.2.2.2 _ (List.mem_cons_of_mem _ mw_1_17)) rfl (by decide +kernel) ⟨Nat.le_of_ble_eq_true rfl, Nat.le_of_ble_eq_true rfl⟩) ⟨PcC.blind, c_pre (As := [.ref q0]) K0 hP (j := 0) (by simp)⟩ rfl rfl hl.1 rfl (lv_room (Nat.le_of_ble_eq_true rfl)) dL_law_4 ⟨Nat.le_of_ble_eq_true rfl, Nat.le_of_ble_eq_true rfl⟩) (fun u0 H locs hP hD hS => ?_)
  refine W.widen (k := 89) (n := 2466) (Nat.le_refl _) (Nat.le_refl _) ?_
  refine lv_astore_n (lv' := [(1, .ref q0), (0, .ref b)]) hx hb dL_law_7 rfl hl (by decide) rfl (fun ls hl => ?_)
  refine va_new (ci := 9) (fs := [.int 0, .null, .null, .null, .null, .null, .null, .null, .null, .null, .null, .int 0, .int 0, .null, .int 0, .int 0, .null, .null, .null, .null, .null, .int 0, .int 0, .null, .null, .null, .null, .null, .null, .null, .null, .null, .null, .int 0, .null]) (C := RX9) (T := TX9) (N := 35) hx hb X.2.2.2.2 (fun w h => List.mem_cons_of_mem _ (inX9 w h)) tyX9 tyX9_ok hown (X.2.2.2.2 _ (List.mem_cons_of_mem _ mw_3_163)) (X.2.2.2.2 _ (List.mem_cons_of_mem _ mw_3_164)) (X.2.2.2.2 _ (List.mem_cons_of_mem _ mw_1_11)) K0.1.1 hP hD hS hA rfl (by decide) (Nat.le_of_ble_eq_true rfl) (Nat.le_of_ble_eq_true rfl) dL_law_8 (fun q1 H hP hD hS => ?_)
  refine W.widen (k := 90) (n := 2501) (Nat.le_refl _) (Nat.le_refl _) ?_
  refine lv_dup hx hb dL_law_11 rfl ?_
  refine c_after (E := (fun _ => 0, G)) (wr := (([] : va_W) ++ PWX8_init (fun _ => 0, G) q0 u0)) (q := q1) (e0 := .inr (9, [.int 0, .null, .null, .null, .null, .null, .null, .null, .null, .null, .null, .int 0, .int 0, .null, .int 0, .int 0, .null, .null, .null, .null, .null, .int 0, .int 0, .null, .null, .null, .null, .null, .null, .null, .null, .null, .null, .int 0, .null])) (PW := PWX9_init (fun _ => 0, G) q1) hP hD hS hA (va_runI (As := []) (rest := [.ref q1]) X (ccX9_init (l := l) (E := (fun _ => 0, G)) q1 H.size) (cwI (rm := rcX9_init) 0 X.2.2.2.2 (gd_N mw_3_167) rfl rfl rfl (X.2.2.2.2 _ (List.mem_cons_of_mem _ mw_1_11)) (X.2.2.2.2 _ (List.mem_cons_of_mem _ mw_3_165)) (X.2.2.2.2 _ (List.mem_cons_of_mem _ mw_3_166)) rfl (by decide +kernel) ⟨Nat.le_of_ble_eq_true rfl, Nat.le_of_ble_eq_true rfl⟩) ⟨PcC.blind, c_pre (As := [.ref q1]) K0 hP (j := 89) (by simp)⟩ rfl rfl hl.1 rfl (lv_room (Nat.le_of_ble_eq_true rfl)) dL_law_12 ⟨Nat.le_of_ble_eq_true rfl, Nat.le_of_ble_eq_true rfl⟩) (fun u1 H locs hP hD hS => ?_)
  refine W.widen (k := 117) (n := 4504) (Nat.le_refl _) (Nat.le_refl _) ?_
  refine lv_astore_n (lv' := [(2, .ref q1), (1, .ref q0), (0, .ref b)]) hx hb dL_law_15 rfl hl (by decide) rfl (fun ls hl => ?_)
  refine lv_iconst (v := 0) hx hb dL_law_16 (by decide) ?_
  refine lv_istore_n (lv' := [(3, .int 0), (2, .ref q1), (1, .ref q0), (0, .ref b)]) hx hb dL_law_17 rfl hl (by decide) rfl (fun ls hl => ?_)
  have hc := cell_all G u0 u1 q0 q1
  have hP : va_P G.2 vwCl (PWX8_init (adr0 q0 q1 u0 u1, G) q0 u0 ++ PWX9_init (adr0 q0 q1 u0 u1, G) q1 u1) H := hP
  have hD : va_D (fun q : Nat => s.heap.size ≤ q) (PWX8_init (adr0 q0 q1 u0 u1, G) q0 u0 ++ PWX9_init (adr0 q0 q1 u0 u1, G) q1 u1) := hD
  have hDo : Do (adr0 q0 q1 u0 u1, G) := fun i j hi hj e9 => hD.1 i j _ _ (hc i hi) (hc j hj) e9
  have hW : Wo (adr0 q0 q1 u0 u1, G) mem0 H := fun k q hq => by
    obtain ⟨hk, rfl⟩ := wsf_lt hq
    exact hP k _ (hc k hk)
  have hA0 : ∀ q, AE (adr0 q0 q1 u0 u1, G) q → s.heap.size ≤ q := fun q hq => by
    obtain ⟨k, hk, rfl⟩ := hq
    exact hD.2 k _ (hc k hk)
  refine va_forget (fun q hq => hS.2.2 q hq) ?_
  have hnb : ¬ s.heap.size ≤ b := Nat.not_le.mpr hbl
  exact wfL_law ⟨X, hr, hlocks, (hG _).1, hDo⟩ (hX.kept (hS.2.1 b hbl hnb)) (Nat.lt_of_lt_of_le hbl hS.1) (fun h => hnb (hA0 b h)) hA0 (Nat.le_of_ble_eq_true rfl) (Nat.le_of_ble_eq_true rfl) n 0 mem0 H [] ls hf hW va_S.rf (lv_sub hl [3, 2, 1, 0] rfl)
