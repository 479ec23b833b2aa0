-- OvenHouseModel.rings
def rmX9_rings : Room := { frames := 1, cells := 0, slots := 0, locals := 25 }
set_option maxRecDepth 100000 in
set_option maxHeartbeats 4000000 in
theorem ctfX9_rings {l : Launch} {E : Gv} (hD : Do E) (F : Nat) (x1 : Int32)  (μ : Mem) : CtI l yX9_rings ((Cond.code yX9_rings cX9_rings 2 (some .int)) :: GG) rmX9_rings E [.ref (E.1 89), .int x1] μ (fX9_rings F x1 μ) := by
  intro r u hf
  refine of_entry (cc := cX9_rings) (maxL := 2) (ret := (some .int)) (by decide +kernel) rfl hD (Nat.le_of_ble_eq_true rfl) (fun p e s m args below meth c X H locs hW hS ls hl => ?_)
  have hl : lv_has ls 2 [(0, .ref (E.1 89)), (1, .int x1)] := hl
  unfold fX9_rings at hf
  refine lv_aload_n X.1.1 X.1.2.1 dX9_rings_0 rfl (lv_at hl 0 rfl) ?_
  refine e_geti X hW (C := RX9) (T := TX9) (N := 35) (j := 33) rfl (by decide) inX9 (by decide) (by decide) rfl rfl mw_3_202 dX9_rings_1 ?_
  refine lv_if_eq (tgt := 28) X.1.1 X.1.2.1 dX9_rings_4 (by decide) (fun c4 => ?_) (fun c4 => ?_)
  · rw [if_pos c4] at hf
    refine lv_bipush (v := (-2)) X.1.1 X.1.2.1 dX9_rings_28 (by decide) ?_
    exact e_iret X hW hS hf dX9_rings_30
  · rw [if_neg c4] at hf
    refine lv_iload_n X.1.1 X.1.2.1 dX9_rings_7 rfl (lv_at hl 1 rfl) ?_
    refine lv_i2l X.1.1 X.1.2.1 dX9_rings_8 rfl ?_
    refine lv_lconst (v := 0) X.1.1 X.1.2.1 dX9_rings_9 (by decide) ?_
    refine lv_ldc2 X.1.1 X.1.2.1 X.1.2.2.2.1 (X.1.2.2.2.2 _ (List.mem_cons_of_mem _ mw_4_42)) dX9_rings_10 ?_
    refine e_si (rest := []) (As := [.long x1.toInt64, .long 0, .long 3]) X hl.1 hW hS (ctfX9_in X.2.2.2.2 F x1.toInt64 0 3 μ) (cwS (rm := rmX9_in) 3 X.1.2.2.2.2 (gd_S mw_4_43 mw_4_44 mw_1_11 mw_4_45) rfl rfl rfl (by decide +kernel) ⟨Nat.le_of_ble_eq_true rfl, Nat.le_of_ble_eq_true rfl⟩) rfl rfl (Nat.le_of_ble_eq_true rfl) dX9_rings_13 ⟨Nat.zero_le _, Nat.zero_le _⟩ hf (fun r2 m1 H locs hf hW hS => ?_)
    refine lv_if_eq (tgt := 28) X.1.1 X.1.2.1 dX9_rings_16 (by decide) (fun c16 => ?_) (fun c16 => ?_)
    · rw [if_pos c16] at hf
      refine lv_bipush (v := (-2)) X.1.1 X.1.2.1 dX9_rings_28 (by decide) ?_
      exact e_iret X hW hS hf dX9_rings_30
    · rw [if_neg c16] at hf
      refine lv_aload_n X.1.1 X.1.2.1 dX9_rings_19 rfl (lv_at hl 0 rfl) ?_
      refine e_getr X hW (C := RX9) (T := TX9) (N := 35) (j := 32) rfl (by decide) inX9 (by decide) (by decide) rfl (t := 115) rfl rfl mw_3_201 dX9_rings_20 ?_
      refine lv_iload_n X.1.1 X.1.2.1 dX9_rings_23 rfl (lv_at hl 1 rfl) ?_
      refine e_ild X hW (by decide) rfl dX9_rings_24 hf (fun v3 hf => ?_)
      refine lv_goto (tgt := 30) X.1.1 X.1.2.1 dX9_rings_25 (by decide) ?_
      exact e_iret X hW hS hf dX9_rings_30
-- OvenHouseModel.roundCost
def rmX9_roundCost : Room := { frames := 2, cells := 0, slots := 0, locals := 48 }
set_option maxRecDepth 100000 in
set_option maxHeartbeats 4000000 in
theorem wfX9_roundCost_43 {p : Program} {l : Launch} {e : Env} {s : State} {m : MethodId} {args : Array Value} {below : List Frame} {meth : Method} {c : Code} {E : Gv} {F : Nat} {k1 : Nat} {r : Int32} {u : Mem} (X : Fx p m c cX9_roundCost 6 s args (Cond.code yX9_roundCost cX9_roundCost 6 (some .int)) "OvenHouseModel" meth (some .int) E) (h1 : k1 < NC ∧ kd k1 = 10) (rec17 : Int32 → Int32 → Int32 → Mem → Option (Int32 × Mem)) (hrec17 : ∀ (y2 : Int32) (y3 : Int32) (y4 : Int32) (μ : Mem) (H : Heap) (locs : List Loc) (ls : Array Slot), rec17 y2 y3 y4 μ = some (r, u) → Wo E μ H → va_S (AE E) s.heap H locs → lv_has ls 6 [(0, .ref (E.1 89)), (1, .ref (E.1 k1)), (2, .int y2), (3, .int y3), (4, .int y4)] → W0 p l e rmX9_roundCost s m args below meth c H locs (QcI E r u) E (F0 m 17 ls [])) (y2 : Int32) (y3 : Int32) (y4 : Int32) (z0 : Int32) (μ : Mem) (H : Heap) (locs : List Loc) (ls : Array Slot) (hf : fX9_roundCost_43 F k1 rec17 y2 y3 y4 z0 μ = some (r, u)) (hW : Wo E μ H) (hS : va_S (AE E) s.heap H locs) (hl : lv_has ls 6 [(0, .ref (E.1 89)), (1, .ref (E.1 k1)), (2, .int y2), (3, .int y3), (4, .int y4)]) : W0 p l e rmX9_roundCost s m args below meth c H locs (QcI E r u) E (F0 m 43 ls [.int z0]) := by
  unfold fX9_roundCost_43 at hf
  refine lv_istore (lv' := [(5, .int z0), (0, .ref (E.1 89)), (1, .ref (E.1 k1)), (2, .int y2), (3, .int y3), (4, .int y4)]) X.1.1 X.1.2.1 dX9_roundCost_43 hl (by decide) rfl (fun ls hl => ?_)
  refine lv_iload_n X.1.1 X.1.2.1 dX9_roundCost_45 rfl (lv_at hl 4 rfl) ?_
  refine lv_aload_n X.1.1 X.1.2.1 dX9_roundCost_46 rfl (lv_at hl 1 rfl) ?_
  refine lv_aload_n X.1.1 X.1.2.1 dX9_roundCost_47 rfl (lv_at hl 1 rfl) ?_
  refine e_getr X hW (C := RX9) (T := TX9) (N := 35) (j := 9) rfl (by decide) inX9 (by decide) (by decide) rfl (t := 98) rfl rfl mw_3_178 dX9_roundCost_48 ?_
  refine lv_aload_n X.1.1 X.1.2.1 dX9_roundCost_51 rfl (lv_at hl 2 rfl) ?_
  refine lv_iload X.1.1 X.1.2.1 dX9_roundCost_52 (lv_at hl 5 rfl) ?_
  refine e_ild X hW h1.1 h1.2 dX9_roundCost_54 hf (fun v5 hf => ?_)
  refine e_ild X hW (by decide) rfl dX9_roundCost_55 hf (fun v6 hf => ?_)
  refine lv_aload_n X.1.1 X.1.2.1 dX9_roundCost_56 rfl (lv_at hl 1 rfl) ?_
  refine e_getr X hW (C := RX9) (T := TX9) (N := 35) (j := 8) rfl (by decide) inX9 (by decide) (by decide) rfl (t := 97) rfl rfl mw_3_177 dX9_roundCost_57 ?_
  refine lv_iload X.1.1 X.1.2.1 dX9_roundCost_60 (lv_at hl 0 rfl) ?_
  refine e_ild X hW (by decide) rfl dX9_roundCost_62 hf (fun v7 hf => ?_)
  refine e_vi (rest := [.int y3]) (As := [.int v6, .int v7]) X hl.1 hW hS (C := RX9) (T := TX9) (N := 35) rfl (by decide) (ctfX9_costOf X.2.2.2.2 F v6 v7 μ) (cwV (rm := rmX9_costOf) 2 X.1.2.2.2.2 (gd_V mw_4_206 mw_4_208 mw_0_32 mw_1_11 mw_4_209) rfl rfl rfl (by decide +kernel) ⟨Nat.le_of_ble_eq_true rfl, Nat.le_of_ble_eq_true rfl⟩) rfl rfl (Nat.le_of_ble_eq_true rfl) dX9_roundCost_63 ⟨Nat.zero_le _, Nat.zero_le _⟩ hf (fun r9 m8 H locs hf hW hS => ?_)
  refine lv_iadd X.1.1 X.1.2.1 dX9_roundCost_66 ?_
  refine lv_istore_n (lv' := [(3, .int (y3 + r9)), (5, .int z0), (0, .ref (E.1 89)), (1, .ref (E.1 k1)), (2, .int y2), (4, .int y4)]) X.1.1 X.1.2.1 dX9_roundCost_67 rfl hl (by decide) rfl (fun ls hl => ?_)
  refine lv_iinc (v := (y4 + 1)) (lv' := [(4, .int (y4 + 1)), (3, .int (y3 + r9)), (5, .int z0), (0, .ref (E.1 89)), (1, .ref (E.1 k1)), (2, .int y2)]) X.1.1 X.1.2.1 dX9_roundCost_68 hl (k := 5) rfl rfl (by decide) rfl (fun ls hl => ?_)
  refine lv_goto (tgt := 17) X.1.1 X.1.2.1 dX9_roundCost_71 (by decide) ?_
  exact hrec17 y2 (y3 + r9) (y4 + 1) m8 H locs ls hf hW hS (lv_sub hl [3, 4, 5, 1, 0] rfl)
set_option maxRecDepth 100000 in
set_option maxHeartbeats 4000000 in
theorem wfX9_roundCost_17_b {p : Program} {l : Launch} {e : Env} {s : State} {m : MethodId} {args : Array Value} {below : List Frame} {meth : Method} {c : Code} {E : Gv} {F : Nat} {k1 : Nat} {r : Int32} {u : Mem} (X : Fx p m c cX9_roundCost 6 s args (Cond.code yX9_roundCost cX9_roundCost 6 (some .int)) "OvenHouseModel" meth (some .int) E) (h1 : k1 < NC ∧ kd k1 = 10) (rec17 : Int32 → Int32 → Int32 → Mem → Option (Int32 × Mem)) (hrec17 : ∀ (y2 : Int32) (y3 : Int32) (y4 : Int32) (μ : Mem) (H : Heap) (locs : List Loc) (ls : Array Slot), rec17 y2 y3 y4 μ = some (r, u) → Wo E μ H → va_S (AE E) s.heap H locs → lv_has ls 6 [(0, .ref (E.1 89)), (1, .ref (E.1 k1)), (2, .int y2), (3, .int y3), (4, .int y4)] → W0 p l e rmX9_roundCost s m args below meth c H locs (QcI E r u) E (F0 m 17 ls [])) (y2 : Int32) (y3 : Int32) (y4 : Int32) (μ : Mem) (H : Heap) (locs : List Loc) (ls : Array Slot) (hf : fX9_roundCost_17_b F k1 rec17 y2 y3 y4 μ = some (r, u)) (hW : Wo E μ H) (hS : va_S (AE E) s.heap H locs) (hl : lv_has ls 6 [(0, .ref (E.1 89)), (1, .ref (E.1 k1)), (2, .int y2), (3, .int y3), (4, .int y4)]) : W0 p l e rmX9_roundCost s m args below meth c H locs (QcI E r u) E (F0 m 17 ls []) := by
  unfold fX9_roundCost_17_b at hf
  refine lv_iload X.1.1 X.1.2.1 dX9_roundCost_17 (lv_at hl 4 rfl) ?_
  refine lv_iload_n X.1.1 X.1.2.1 dX9_roundCost_19 rfl (lv_at hl 2 rfl) ?_
  refine lv_icmp_ge (tgt := 74) X.1.1 X.1.2.1 dX9_roundCost_20 (by decide) (fun c20 => ?_) (fun c20 => ?_)
  · rw [if_pos c20] at hf
    refine lv_iload_n X.1.1 X.1.2.1 dX9_roundCost_74 rfl (lv_at hl 3 rfl) ?_
    exact e_iret X hW hS hf dX9_roundCost_75
  · rw [if_neg c20] at hf
    refine lv_iload X.1.1 X.1.2.1 dX9_roundCost_23 (lv_at hl 4 rfl) ?_
    refine lv_iconst (v := 1) X.1.1 X.1.2.1 dX9_roundCost_25 (by decide) ?_
    refine lv_iadd X.1.1 X.1.2.1 dX9_roundCost_26 ?_
    refine lv_iload_n X.1.1 X.1.2.1 dX9_roundCost_27 rfl (lv_at hl 2 rfl) ?_
    refine lv_icmp_ne (tgt := 37) X.1.1 X.1.2.1 dX9_roundCost_28 (by decide) (fun c28 => ?_) (fun c28 => ?_)
    · rw [if_neg c28] at hf
      refine lv_aload_n X.1.1 X.1.2.1 dX9_roundCost_37 rfl (lv_at hl 1 rfl) ?_
      refine lv_iload X.1.1 X.1.2.1 dX9_roundCost_38 (lv_at hl 4 rfl) ?_
      refine lv_iconst (v := 1) X.1.1 X.1.2.1 dX9_roundCost_40 (by decide) ?_
      refine lv_iadd X.1.1 X.1.2.1 dX9_roundCost_41 ?_
      refine e_ild X hW h1.1 h1.2 dX9_roundCost_42 hf (fun v3 hf => ?_)
      exact wfX9_roundCost_43 X h1 rec17 hrec17 y2 y3 y4 v3 μ H locs ls hf hW hS (lv_sub hl [0, 1, 2, 3, 4] rfl)
    · rw [if_pos c28] at hf
      refine lv_aload_n X.1.1 X.1.2.1 dX9_roundCost_31 rfl (lv_at hl 1 rfl) ?_
      refine lv_iconst (v := 0) X.1.1 X.1.2.1 dX9_roundCost_32 (by decide) ?_
      refine e_ild X hW h1.1 h1.2 dX9_roundCost_33 hf (fun v4 hf => ?_)
      refine lv_goto (tgt := 43) X.1.1 X.1.2.1 dX9_roundCost_34 (by decide) ?_
      exact wfX9_roundCost_43 X h1 rec17 hrec17 y2 y3 y4 v4 μ H locs ls hf hW hS (lv_sub hl [0, 1, 2, 3, 4] rfl)
theorem wfX9_roundCost_17 {p : Program} {l : Launch} {e : Env} {s : State} {m : MethodId} {args : Array Value} {below : List Frame} {meth : Method} {c : Code} {E : Gv} {F : Nat} {k1 : Nat} {r : Int32} {u : Mem} (X : Fx p m c cX9_roundCost 6 s args (Cond.code yX9_roundCost cX9_roundCost 6 (some .int)) "OvenHouseModel" meth (some .int) E) (h1 : k1 < NC ∧ kd k1 = 10) (n : Nat) : ∀ (y2 : Int32) (y3 : Int32) (y4 : Int32) (μ : Mem) (H : Heap) (locs : List Loc) (ls : Array Slot) (_ : fX9_roundCost_17 F k1  n y2 y3 y4 μ = some (r, u)) (_ : Wo E μ H) (_ : va_S (AE E) s.heap H locs) (_ : lv_has ls 6 [(0, .ref (E.1 89)), (1, .ref (E.1 k1)), (2, .int y2), (3, .int y3), (4, .int y4)]), W0 p l e rmX9_roundCost s m args below meth c H locs (QcI E r u) E (F0 m 17 ls []) := by
  induction n with
  | zero => intro y2 y3 y4 μ H locs ls hf hW hS hl; cases hf
  | succ n ih => intro y2 y3 y4 μ H locs ls hf hW hS hl; exact wfX9_roundCost_17_b X h1 _ ih y2 y3 y4 μ H locs ls hf hW hS hl
set_option maxRecDepth 100000 in
set_option maxHeartbeats 4000000 in
theorem ctfX9_roundCost {l : Launch} {E : Gv} (hD : Do E) (F : Nat) (k1 : Nat) (h1 : k1 < NC ∧ kd k1 = 10) (μ : Mem) : CtI l yX9_roundCost ((Cond.code yX9_roundCost cX9_roundCost 6 (some .int)) :: GG) rmX9_roundCost E [.ref (E.1 89), .ref (E.1 k1)] μ (fX9_roundCost F k1 μ) := by
  intro r u hf
  refine of_entry (cc := cX9_roundCost) (maxL := 6) (ret := (some .int)) (by decide +kernel) rfl hD (Nat.le_of_ble_eq_true rfl) (fun p e s m args below meth c X H locs hW hS ls hl => ?_)
  have hl : lv_has ls 6 [(0, .ref (E.1 89)), (1, .ref (E.1 k1))] := hl
  unfold fX9_roundCost at hf
  refine lv_aload_n X.1.1 X.1.2.1 dX9_roundCost_0 rfl (lv_at hl 0 rfl) ?_
  refine e_getr X hW (C := RX9) (T := TX9) (N := 35) (j := 5) rfl (by decide) inX9 (by decide) (by decide) rfl (t := 94) rfl rfl mw_3_174 dX9_roundCost_1 ?_
  refine lv_iconst (v := 0) X.1.1 X.1.2.1 dX9_roundCost_4 (by decide) ?_
  refine e_ild X hW (by decide) rfl dX9_roundCost_5 hf (fun v1 hf => ?_)
  refine lv_istore_n (lv' := [(2, .int v1), (0, .ref (E.1 89)), (1, .ref (E.1 k1))]) X.1.1 X.1.2.1 dX9_roundCost_6 rfl hl (by decide) rfl (fun ls hl => ?_)
  refine lv_aload_n X.1.1 X.1.2.1 dX9_roundCost_7 rfl (lv_at hl 1 rfl) ?_
  refine lv_iconst (v := 1) X.1.1 X.1.2.1 dX9_roundCost_8 (by decide) ?_
  refine e_put X hW hS (C := RX9) (T := TX9) (N := 35) (j := 22) (tyF := tyX9) rfl (by decide) inX9 tyX9_ok nmX9 (by decide) (by decide) rfl rfl mw_3_191 rfl rfl rfl dX9_roundCost_9 hf (fun m2 H locs hf hW hS => ?_)
  refine lv_iconst (v := 0) X.1.1 X.1.2.1 dX9_roundCost_12 (by decide) ?_
  refine lv_istore_n (lv' := [(3, .int 0), (2, .int v1), (0, .ref (E.1 89)), (1, .ref (E.1 k1))]) X.1.1 X.1.2.1 dX9_roundCost_13 rfl hl (by decide) rfl (fun ls hl => ?_)
  refine lv_iconst (v := 0) X.1.1 X.1.2.1 dX9_roundCost_14 (by decide) ?_
  refine lv_istore (lv' := [(4, .int 0), (3, .int 0), (2, .int v1), (0, .ref (E.1 89)), (1, .ref (E.1 k1))]) X.1.1 X.1.2.1 dX9_roundCost_15 hl (by decide) rfl (fun ls hl => ?_)
  exact wfX9_roundCost_17 X h1 F v1 0 0 m2 H locs ls hf hW hS (lv_sub hl [3, 4, 2, 1, 0] rfl)
-- OvenHouseModel.cost
def rmX9_cost : Room := { frames := 3, cells := 0, slots := 0, locals := 73 }
set_option maxRecDepth 100000 in
set_option maxHeartbeats 4000000 in
theorem ctfX9_cost {l : Launch} {E : Gv} (hD : Do E) (F : Nat)  (μ : Mem) : CtI l yX9_cost ((Cond.code yX9_cost cX9_cost 1 (some .int)) :: GG) rmX9_cost E [.ref (E.1 89)] μ (fX9_cost F μ) := by
  intro r u hf
  refine of_entry (cc := cX9_cost) (maxL := 1) (ret := (some .int)) (by decide +kernel) rfl hD (Nat.le_of_ble_eq_true rfl) (fun p e s m args below meth c X H locs hW hS ls hl => ?_)
  have hl : lv_has ls 1 [(0, .ref (E.1 89))] := hl
  unfold fX9_cost at hf
  refine lv_aload_n X.1.1 X.1.2.1 dX9_cost_0 rfl (lv_at hl 0 rfl) ?_
  refine lv_aload_n X.1.1 X.1.2.1 dX9_cost_1 rfl (lv_at hl 0 rfl) ?_
  refine e_getr X hW (C := RX9) (T := TX9) (N := 35) (j := 10) rfl (by decide) inX9 (by decide) (by decide) rfl (t := 99) rfl rfl mw_3_179 dX9_cost_2 ?_
  refine e_vi (rest := []) (As := [.ref (E.1 99)]) X hl.1 hW hS (C := RX9) (T := TX9) (N := 35) rfl (by decide) (ctfX9_roundCost X.2.2.2.2 F 99 ⟨(by decide), rfl⟩ μ) (cwV (rm := rmX9_roundCost) 1 X.1.2.2.2.2 (gd_V mw_5_26 mw_5_28 mw_0_42 mw_1_11 mw_5_29) rfl rfl rfl (by decide +kernel) ⟨Nat.le_of_ble_eq_true rfl, Nat.le_of_ble_eq_true rfl⟩) rfl rfl (Nat.le_of_ble_eq_true rfl) dX9_cost_5 ⟨Nat.zero_le _, Nat.zero_le _⟩ hf (fun r2 m1 H locs hf hW hS => ?_)
  exact e_iret X hW hS hf dX9_cost_8
-- OvenHouseModel.round
def rmX9_round : Room := { frames := 4, cells := 0, slots := 0, locals := 95 }
set_option maxRecDepth 100000 in
set_option maxHeartbeats 4000000 in
theorem wfX9_round_76_b {p : Program} {l : Launch} {e : Env} {s : State} {m : MethodId} {args : Array Value} {below : List Frame} {meth : Method} {c : Code} {E : Gv} {F : Nat}  {r : Int32} {u : Mem} (X : Fx p m c cX9_round 4 s args (Cond.code yX9_round cX9_round 4 (some .int)) "OvenHouseModel" meth (some .int) E)  (rec76 : Int32 → Int32 → Mem → Option (Int32 × Mem)) (hrec76 : ∀ (y1 : Int32) (y3 : Int32) (μ : Mem) (H : Heap) (locs : List Loc) (ls : Array Slot), rec76 y1 y3 μ = some (r, u) → Wo E μ H → va_S (AE E) s.heap H locs → lv_has ls 4 [(0, .ref (E.1 89)), (1, .int y1), (3, .int y3)] → W0 p l e rmX9_round s m args below meth c H locs (QcI E r u) E (F0 m 76 ls [])) (y1 : Int32) (y3 : Int32) (μ : Mem) (H : Heap) (locs : List Loc) (ls : Array Slot) (hf : fX9_round_76_b F  rec76 y1 y3 μ = some (r, u)) (hW : Wo E μ H) (hS : va_S (AE E) s.heap H locs) (hl : lv_has ls 4 [(0, .ref (E.1 89)), (1, .int y1), (3, .int y3)]) : W0 p l e rmX9_round s m args below meth c H locs (QcI E r u) E (F0 m 76 ls []) := by
  unfold fX9_round_76_b at hf
  refine lv_iload_n X.1.1 X.1.2.1 dX9_round_76 rfl (lv_at hl 2 rfl) ?_
  refine lv_iload_n X.1.1 X.1.2.1 dX9_round_77 rfl (lv_at hl 1 rfl) ?_
  refine lv_icmp_ge (tgt := 111) X.1.1 X.1.2.1 dX9_round_78 (by decide) (fun c78 => ?_) (fun c78 => ?_)
  · rw [if_pos c78] at hf
    refine lv_aload_n X.1.1 X.1.2.1 dX9_round_111 rfl (lv_at hl 0 rfl) ?_
    refine e_vi (rest := []) (As := []) X hl.1 hW hS (C := RX9) (T := TX9) (N := 35) rfl (by decide) (ctfX9_joined X.2.2.2.2 F μ) (cwV (rm := rmX9_joined) 0 X.1.2.2.2.2 (gd_V mw_4_194 mw_4_196 mw_0_29 mw_1_11 mw_4_197) rfl rfl rfl (by decide +kernel) ⟨Nat.le_of_ble_eq_true rfl, Nat.le_of_ble_eq_true rfl⟩) rfl rfl (Nat.le_of_ble_eq_true rfl) dX9_round_112 ⟨Nat.zero_le _, Nat.zero_le _⟩ hf (fun r7 m6 H locs hf hW hS => ?_)
    refine lv_istore_n (lv' := [(3, .int r7), (0, .ref (E.1 89)), (1, .int y1)]) X.1.1 X.1.2.1 dX9_round_115 rfl hl (by decide) rfl (fun ls hl => ?_)
    refine lv_aload_n X.1.1 X.1.2.1 dX9_round_116 rfl (lv_at hl 1 rfl) ?_
    refine lv_iconst (v := 0) X.1.1 X.1.2.1 dX9_round_117 (by decide) ?_
    refine e_vv (rest := []) (As := [.int 0]) X hl.1 hW hS (C := RX9) (T := TX9) (N := 35) rfl (by decide) (ctfX9_roundFrom X.2.2.2.2 F 0 m6) (cwV (rm := rmX9_roundFrom) 1 X.1.2.2.2.2 (gd_V mw_4_226 mw_4_228 mw_0_37 mw_1_11 mw_4_229) rfl rfl rfl (by decide +kernel) ⟨Nat.le_of_ble_eq_true rfl, Nat.le_of_ble_eq_true rfl⟩) rfl rfl (Nat.le_of_ble_eq_true rfl) dX9_round_118 ⟨Nat.zero_le _, Nat.zero_le _⟩ hf (fun m8 H locs hf hW hS => ?_)
    refine lv_iload_n X.1.1 X.1.2.1 dX9_round_121 rfl (lv_at hl 0 rfl) ?_
    exact e_iret X hW hS hf dX9_round_122
  · rw [if_neg c78] at hf
    refine lv_aload_n X.1.1 X.1.2.1 dX9_round_81 rfl (lv_at hl 0 rfl) ?_
    refine e_getr X hW (C := RX9) (T := TX9) (N := 35) (j := 23) rfl (by decide) inX9 (by decide) (by decide) rfl (t := 106) rfl rfl mw_3_192 dX9_round_82 ?_
    refine lv_iload_n X.1.1 X.1.2.1 dX9_round_85 rfl (lv_at hl 2 rfl) ?_
    refine lv_aload_n X.1.1 X.1.2.1 dX9_round_86 rfl (lv_at hl 0 rfl) ?_
    refine e_getr X hW (C := RX9) (T := TX9) (N := 35) (j := 8) rfl (by decide) inX9 (by decide) (by decide) rfl (t := 97) rfl rfl mw_3_177 dX9_round_87 ?_
    refine lv_iload_n X.1.1 X.1.2.1 dX9_round_90 rfl (lv_at hl 2 rfl) ?_
    refine e_ild X hW (by decide) rfl dX9_round_91 hf (fun v9 hf => ?_)
    refine e_ist X hW hS (by decide) rfl dX9_round_92 hf (fun m10 H locs hf hW hS => ?_)
    refine lv_aload_n X.1.1 X.1.2.1 dX9_round_93 rfl (lv_at hl 0 rfl) ?_
    refine e_getr X hW (C := RX9) (T := TX9) (N := 35) (j := 24) rfl (by decide) inX9 (by decide) (by decide) rfl (t := 107) rfl rfl mw_3_193 dX9_round_94 ?_
    refine lv_iload_n X.1.1 X.1.2.1 dX9_round_97 rfl (lv_at hl 2 rfl) ?_
    refine lv_aload_n X.1.1 X.1.2.1 dX9_round_98 rfl (lv_at hl 0 rfl) ?_
    refine e_getr X hW (C := RX9) (T := TX9) (N := 35) (j := 9) rfl (by decide) inX9 (by decide) (by decide) rfl (t := 98) rfl rfl mw_3_178 dX9_round_99 ?_
    refine lv_iload_n X.1.1 X.1.2.1 dX9_round_102 rfl (lv_at hl 2 rfl) ?_
    refine e_ild X hW (by decide) rfl dX9_round_103 hf (fun v11 hf => ?_)
    refine e_ist X hW hS (by decide) rfl dX9_round_104 hf (fun m12 H locs hf hW hS => ?_)
    refine lv_iinc (v := (y3 + 1)) (lv' := [(3, .int (y3 + 1)), (0, .ref (E.1 89)), (1, .int y1)]) X.1.1 X.1.2.1 dX9_round_105 hl (k := 2) rfl rfl (by decide) rfl (fun ls hl => ?_)
    refine lv_goto (tgt := 76) X.1.1 X.1.2.1 dX9_round_108 (by decide) ?_
    exact hrec76 y1 (y3 + 1) m12 H locs ls hf hW hS (lv_sub hl [1, 2, 0] rfl)
theorem wfX9_round_76 {p : Program} {l : Launch} {e : Env} {s : State} {m : MethodId} {args : Array Value} {below : List Frame} {meth : Method} {c : Code} {E : Gv} {F : Nat}  {r : Int32} {u : Mem} (X : Fx p m c cX9_round 4 s args (Cond.code yX9_round cX9_round 4 (some .int)) "OvenHouseModel" meth (some .int) E)  (n : Nat) : ∀ (y1 : Int32) (y3 : Int32) (μ : Mem) (H : Heap) (locs : List Loc) (ls : Array Slot) (_ : fX9_round_76 F   n y1 y3 μ = some (r, u)) (_ : Wo E μ H) (_ : va_S (AE E) s.heap H locs) (_ : lv_has ls 4 [(0, .ref (E.1 89)), (1, .int y1), (3, .int y3)]), W0 p l e rmX9_round s m args below meth c H locs (QcI E r u) E (F0 m 76 ls []) := by
  induction n with
  | zero => intro y1 y3 μ H locs ls hf hW hS hl; cases hf
  | succ n ih => intro y1 y3 μ H locs ls hf hW hS hl; exact wfX9_round_76_b X  _ ih y1 y3 μ H locs ls hf hW hS hl
set_option maxRecDepth 100000 in
set_option maxHeartbeats 4000000 in
theorem wfX9_round_19_b {p : Program} {l : Launch} {e : Env} {s : State} {m : MethodId} {args : Array Value} {below : List Frame} {meth : Method} {c : Code} {E : Gv} {F : Nat}  {r : Int32} {u : Mem} (X : Fx p m c cX9_round 4 s args (Cond.code yX9_round cX9_round 4 (some .int)) "OvenHouseModel" meth (some .int) E)  (rec19 : Int32 → Int32 → Int32 → Mem → Option (Int32 × Mem)) (hrec19 : ∀ (y1 : Int32) (y2 : Int32) (y3 : Int32) (μ : Mem) (H : Heap) (locs : List Loc) (ls : Array Slot), rec19 y1 y2 y3 μ = some (r, u) → Wo E μ H → va_S (AE E) s.heap H locs → lv_has ls 4 [(0, .ref (E.1 89)), (1, .int y1), (2, .int y2), (3, .int y3)] → W0 p l e rmX9_round s m args below meth c H locs (QcI E r u) E (F0 m 19 ls [])) (y1 : Int32) (y2 : Int32) (y3 : Int32) (μ : Mem) (H : Heap) (locs : List Loc) (ls : Array Slot) (hf : fX9_round_19_b F  rec19 y1 y2 y3 μ = some (r, u)) (hW : Wo E μ H) (hS : va_S (AE E) s.heap H locs) (hl : lv_has ls 4 [(0, .ref (E.1 89)), (1, .int y1), (2, .int y2), (3, .int y3)]) : W0 p l e rmX9_round s m args below meth c H locs (QcI E r u) E (F0 m 19 ls []) := by
  unfold fX9_round_19_b at hf
  refine lv_iload_n X.1.1 X.1.2.1 dX9_round_19 rfl (lv_at hl 3 rfl) ?_
  refine lv_bipush (v := 8) X.1.1 X.1.2.1 dX9_round_20 (by decide) ?_
  refine lv_icmp_ge (tgt := 57) X.1.1 X.1.2.1 dX9_round_22 (by decide) (fun c22 => ?_) (fun c22 => ?_)
  · rw [if_pos c22] at hf
    refine lv_iload_n X.1.1 X.1.2.1 dX9_round_57 rfl (lv_at hl 2 rfl) ?_
    refine lv_if_ne (tgt := 64) X.1.1 X.1.2.1 dX9_round_58 (by decide) (fun c58 => ?_) (fun c58 => ?_)
    · rw [if_neg c58] at hf
      refine lv_aload_n X.1.1 X.1.2.1 dX9_round_64 rfl (lv_at hl 0 rfl) ?_
      refine lv_iload_n X.1.1 X.1.2.1 dX9_round_65 rfl (lv_at hl 1 rfl) ?_
      refine e_put X hW hS (C := RX9) (T := TX9) (N := 35) (j := 21) (tyF := tyX9) rfl (by decide) inX9 tyX9_ok nmX9 (by decide) (by decide) rfl rfl mw_3_190 rfl rfl rfl dX9_round_66 hf (fun m2 H locs hf hW hS => ?_)
      refine lv_aload_n X.1.1 X.1.2.1 dX9_round_69 rfl (lv_at hl 0 rfl) ?_
      refine lv_iconst (v := 1) X.1.1 X.1.2.1 dX9_round_70 (by decide) ?_
      refine e_put X hW hS (C := RX9) (T := TX9) (N := 35) (j := 22) (tyF := tyX9) rfl (by decide) inX9 tyX9_ok nmX9 (by decide) (by decide) rfl rfl mw_3_191 rfl rfl rfl dX9_round_71 hf (fun m3 H locs hf hW hS => ?_)
      refine lv_iconst (v := 0) X.1.1 X.1.2.1 dX9_round_74 (by decide) ?_
      refine lv_istore_n (lv' := [(3, .int 0), (0, .ref (E.1 89)), (1, .int y1), (2, .int y2)]) X.1.1 X.1.2.1 dX9_round_75 rfl hl (by decide) rfl (fun ls hl => ?_)
      exact wfX9_round_76 X  F y1 0 m3 H locs ls hf hW hS (lv_sub hl [1, 2, 0] rfl)
    · rw [if_pos c58] at hf
      refine lv_bipush (v := (-5)) X.1.1 X.1.2.1 dX9_round_61 (by decide) ?_
      exact e_iret X hW hS hf dX9_round_63
  · rw [if_neg c22] at hf
    refine lv_iload_n X.1.1 X.1.2.1 dX9_round_25 rfl (lv_at hl 2 rfl) ?_
    refine lv_if_eq (tgt := 49) X.1.1 X.1.2.1 dX9_round_26 (by decide) (fun c26 => ?_) (fun c26 => ?_)
    · rw [if_pos c26] at hf
      refine lv_iconst (v := 0) X.1.1 X.1.2.1 dX9_round_49 (by decide) ?_
      refine lv_istore_n (lv' := [(2, .int 0), (0, .ref (E.1 89)), (1, .int y1), (3, .int y3)]) X.1.1 X.1.2.1 dX9_round_50 rfl hl (by decide) rfl (fun ls hl => ?_)
      refine lv_iinc (v := (y3 + 1)) (lv' := [(3, .int (y3 + 1)), (2, .int 0), (0, .ref (E.1 89)), (1, .int y1)]) X.1.1 X.1.2.1 dX9_round_51 hl (k := 3) rfl rfl (by decide) rfl (fun ls hl => ?_)
      refine lv_goto (tgt := 19) X.1.1 X.1.2.1 dX9_round_54 (by decide) ?_
      exact hrec19 y1 0 (y3 + 1) μ H locs ls hf hW hS (lv_sub hl [2, 3, 1, 0] rfl)
    · rw [if_neg c26] at hf
      refine lv_aload_n X.1.1 X.1.2.1 dX9_round_29 rfl (lv_at hl 0 rfl) ?_
      refine e_getr X hW (C := RX9) (T := TX9) (N := 35) (j := 16) rfl (by decide) inX9 (by decide) (by decide) rfl (t := 101) rfl rfl mw_3_185 dX9_round_30 ?_
      refine lv_iload_n X.1.1 X.1.2.1 dX9_round_33 rfl (lv_at hl 3 rfl) ?_
      refine e_ild X hW (by decide) rfl dX9_round_34 hf (fun v4 hf => ?_)
      refine lv_aload_n X.1.1 X.1.2.1 dX9_round_35 rfl (lv_at hl 0 rfl) ?_
      refine e_getr X hW (C := RX9) (T := TX9) (N := 35) (j := 17) rfl (by decide) inX9 (by decide) (by decide) rfl (t := 102) rfl rfl mw_3_186 dX9_round_36 ?_
      refine lv_iload_n X.1.1 X.1.2.1 dX9_round_39 rfl (lv_at hl 3 rfl) ?_
      refine e_ild X hW (by decide) rfl dX9_round_40 hf (fun v5 hf => ?_)
      refine lv_iadd X.1.1 X.1.2.1 dX9_round_41 ?_
      refine lv_if_lt (tgt := 49) X.1.1 X.1.2.1 dX9_round_42 (by decide) (fun c42 => ?_) (fun c42 => ?_)
      · rw [if_pos c42] at hf
        refine lv_iconst (v := 0) X.1.1 X.1.2.1 dX9_round_49 (by decide) ?_
        refine lv_istore_n (lv' := [(2, .int 0), (0, .ref (E.1 89)), (1, .int y1), (3, .int y3)]) X.1.1 X.1.2.1 dX9_round_50 rfl hl (by decide) rfl (fun ls hl => ?_)
        refine lv_iinc (v := (y3 + 1)) (lv' := [(3, .int (y3 + 1)), (2, .int 0), (0, .ref (E.1 89)), (1, .int y1)]) X.1.1 X.1.2.1 dX9_round_51 hl (k := 3) rfl rfl (by decide) rfl (fun ls hl => ?_)
        refine lv_goto (tgt := 19) X.1.1 X.1.2.1 dX9_round_54 (by decide) ?_
        exact hrec19 y1 0 (y3 + 1) μ H locs ls hf hW hS (lv_sub hl [2, 3, 1, 0] rfl)
      · rw [if_neg c42] at hf
        refine lv_iconst (v := 1) X.1.1 X.1.2.1 dX9_round_45 (by decide) ?_
        refine lv_goto (tgt := 50) X.1.1 X.1.2.1 dX9_round_46 (by decide) ?_
        refine lv_istore_n (lv' := [(2, .int 1), (0, .ref (E.1 89)), (1, .int y1), (3, .int y3)]) X.1.1 X.1.2.1 dX9_round_50 rfl hl (by decide) rfl (fun ls hl => ?_)
        refine lv_iinc (v := (y3 + 1)) (lv' := [(3, .int (y3 + 1)), (2, .int 1), (0, .ref (E.1 89)), (1, .int y1)]) X.1.1 X.1.2.1 dX9_round_51 hl (k := 3) rfl rfl (by decide) rfl (fun ls hl => ?_)
        refine lv_goto (tgt := 19) X.1.1 X.1.2.1 dX9_round_54 (by decide) ?_
        exact hrec19 y1 1 (y3 + 1) μ H locs ls hf hW hS (lv_sub hl [2, 3, 1, 0] rfl)
theorem wfX9_round_19 {p : Program} {l : Launch} {e : Env} {s : State} {m : MethodId} {args : Array Value} {below : List Frame} {meth : Method} {c : Code} {E : Gv} {F : Nat}  {r : Int32} {u : Mem} (X : Fx p m c cX9_round 4 s args (Cond.code yX9_round cX9_round 4 (some .int)) "OvenHouseModel" meth (some .int) E)  (n : Nat) : ∀ (y1 : Int32) (y2 : Int32) (y3 : Int32) (μ : Mem) (H : Heap) (locs : List Loc) (ls : Array Slot) (_ : fX9_round_19 F   n y1 y2 y3 μ = some (r, u)) (_ : Wo E μ H) (_ : va_S (AE E) s.heap H locs) (_ : lv_has ls 4 [(0, .ref (E.1 89)), (1, .int y1), (2, .int y2), (3, .int y3)]), W0 p l e rmX9_round s m args below meth c H locs (QcI E r u) E (F0 m 19 ls []) := by
  induction n with
  | zero => intro y1 y2 y3 μ H locs ls hf hW hS hl; cases hf
  | succ n ih => intro y1 y2 y3 μ H locs ls hf hW hS hl; exact wfX9_round_19_b X  _ ih y1 y2 y3 μ H locs ls hf hW hS hl
set_option maxRecDepth 100000 in
set_option maxHeartbeats 4000000 in
theorem ctfX9_round {l : Launch} {E : Gv} (hD : Do E) (F : Nat)  (μ : Mem) : CtI l yX9_round ((Cond.code yX9_round cX9_round 4 (some .int)) :: GG) rmX9_round E [.ref (E.1 89)] μ (fX9_round F μ) := by
  intro r u hf
  refine of_entry (cc := cX9_round) (maxL := 4) (ret := (some .int)) (by decide +kernel) rfl hD (Nat.le_of_ble_eq_true rfl) (fun p e s m args below meth c X H locs hW hS ls hl => ?_)
  have hl : lv_has ls 4 [(0, .ref (E.1 89))] := hl
  unfold fX9_round at hf
  refine lv_aload_n X.1.1 X.1.2.1 dX9_round_0 rfl (lv_at hl 0 rfl) ?_
  refine e_getr X hW (C := RX9) (T := TX9) (N := 35) (j := 5) rfl (by decide) inX9 (by decide) (by decide) rfl (t := 94) rfl rfl mw_3_174 dX9_round_1 ?_
  refine lv_iconst (v := 0) X.1.1 X.1.2.1 dX9_round_4 (by decide) ?_
  refine e_ild X hW (by decide) rfl dX9_round_5 hf (fun v1 hf => ?_)
  refine lv_istore_n (lv' := [(1, .int v1), (0, .ref (E.1 89))]) X.1.1 X.1.2.1 dX9_round_6 rfl hl (by decide) rfl (fun ls hl => ?_)
  refine lv_iload_n X.1.1 X.1.2.1 dX9_round_7 rfl (lv_at hl 0 rfl) ?_
  refine lv_if_le (tgt := 15) X.1.1 X.1.2.1 dX9_round_8 (by decide) (fun c8 => ?_) (fun c8 => ?_)
  · rw [if_pos c8] at hf
    refine lv_iconst (v := 0) X.1.1 X.1.2.1 dX9_round_15 (by decide) ?_
    refine lv_istore_n (lv' := [(2, .int 0), (1, .int v1), (0, .ref (E.1 89))]) X.1.1 X.1.2.1 dX9_round_16 rfl hl (by decide) rfl (fun ls hl => ?_)
    refine lv_iconst (v := 0) X.1.1 X.1.2.1 dX9_round_17 (by decide) ?_
    refine lv_istore_n (lv' := [(3, .int 0), (2, .int 0), (1, .int v1), (0, .ref (E.1 89))]) X.1.1 X.1.2.1 dX9_round_18 rfl hl (by decide) rfl (fun ls hl => ?_)
    exact wfX9_round_19 X  F v1 0 0 μ H locs ls hf hW hS (lv_sub hl [3, 2, 1, 0] rfl)
  · rw [if_neg c8] at hf
    refine lv_iconst (v := 1) X.1.1 X.1.2.1 dX9_round_11 (by decide) ?_
    refine lv_goto (tgt := 16) X.1.1 X.1.2.1 dX9_round_12 (by decide) ?_
    refine lv_istore_n (lv' := [(2, .int 1), (1, .int v1), (0, .ref (E.1 89))]) X.1.1 X.1.2.1 dX9_round_16 rfl hl (by decide) rfl (fun ls hl => ?_)
    refine lv_iconst (v := 0) X.1.1 X.1.2.1 dX9_round_17 (by decide) ?_
    refine lv_istore_n (lv' := [(3, .int 0), (2, .int 1), (1, .int v1), (0, .ref (E.1 89))]) X.1.1 X.1.2.1 dX9_round_18 rfl hl (by decide) rfl (fun ls hl => ?_)
    exact wfX9_round_19 X  F v1 1 0 μ H locs ls hf hW hS (lv_sub hl [3, 2, 1, 0] rfl)
-- OvenHouseModel.through
def rmX9_through : Room := { frames := 3, cells := 0, slots := 0, locals := 73 }
set_option maxRecDepth 100000 in
set_option maxHeartbeats 4000000 in
theorem wfX9_through_39_b {p : Program} {l : Launch} {e : Env} {s : State} {m : MethodId} {args : Array Value} {below : List Frame} {meth : Method} {c : Code} {E : Gv} {F : Nat}  {r : Int32} {u : Mem} (X : Fx p m c cX9_through 3 s args (Cond.code yX9_through cX9_through 3 (some .int)) "OvenHouseModel" meth (some .int) E)  (rec39 : Int32 → Mem → Option (Int32 × Mem)) (hrec39 : ∀ (y1 : Int32) (μ : Mem) (H : Heap) (locs : List Loc) (ls : Array Slot), rec39 y1 μ = some (r, u) → Wo E μ H → va_S (AE E) s.heap H locs → lv_has ls 3 [(0, .ref (E.1 89)), (1, .int y1)] → W0 p l e rmX9_through s m args below meth c H locs (QcI E r u) E (F0 m 39 ls [])) (y1 : Int32) (μ : Mem) (H : Heap) (locs : List Loc) (ls : Array Slot) (hf : fX9_through_39_b F  rec39 y1 μ = some (r, u)) (hW : Wo E μ H) (hS : va_S (AE E) s.heap H locs) (hl : lv_has ls 3 [(0, .ref (E.1 89)), (1, .int y1)]) : W0 p l e rmX9_through s m args below meth c H locs (QcI E r u) E (F0 m 39 ls []) := by
  unfold fX9_through_39_b at hf
  refine lv_aload_n X.1.1 X.1.2.1 dX9_through_39 rfl (lv_at hl 0 rfl) ?_
  refine e_vi (rest := []) (As := []) X hl.1 hW hS (C := RX9) (T := TX9) (N := 35) rfl (by decide) (ctfX9_nextRow X.2.2.2.2 F μ) (cwV (rm := rmX9_nextRow) 0 X.1.2.2.2.2 (gd_V mw_4_238 mw_5_0 mw_0_40 mw_1_11 mw_5_1) rfl rfl rfl (by decide +kernel) ⟨Nat.le_of_ble_eq_true rfl, Nat.le_of_ble_eq_true rfl⟩) rfl rfl (Nat.le_of_ble_eq_true rfl) dX9_through_40 ⟨Nat.zero_le _, Nat.zero_le _⟩ hf (fun r7 m6 H locs hf hW hS => ?_)
  refine lv_if_eq (tgt := 78) X.1.1 X.1.2.1 dX9_through_43 (by decide) (fun c43 => ?_) (fun c43 => ?_)
  · rw [if_pos c43] at hf
    refine lv_iload_n X.1.1 X.1.2.1 dX9_through_78 rfl (lv_at hl 1 rfl) ?_
    exact e_iret X hW hS hf dX9_through_79
  · rw [if_neg c43] at hf
    refine lv_aload_n X.1.1 X.1.2.1 dX9_through_46 rfl (lv_at hl 0 rfl) ?_
    refine e_getr X hW (C := RX9) (T := TX9) (N := 35) (j := 20) rfl (by decide) inX9 (by decide) (by decide) rfl (t := 105) rfl rfl mw_3_189 dX9_through_47 ?_
    refine lv_iconst (v := 0) X.1.1 X.1.2.1 dX9_through_50 (by decide) ?_
    refine e_ild X hW (by decide) rfl dX9_through_51 hf (fun v8 hf => ?_)
    refine lv_if_ne (tgt := 78) X.1.1 X.1.2.1 dX9_through_52 (by decide) (fun c52 => ?_) (fun c52 => ?_)
    · rw [if_neg c52] at hf
      refine lv_iload_n X.1.1 X.1.2.1 dX9_through_78 rfl (lv_at hl 1 rfl) ?_
      exact e_iret X hW hS hf dX9_through_79
    · rw [if_pos c52] at hf
      refine lv_aload_n X.1.1 X.1.2.1 dX9_through_55 rfl (lv_at hl 0 rfl) ?_
      refine lv_aload_n X.1.1 X.1.2.1 dX9_through_56 rfl (lv_at hl 0 rfl) ?_
      refine e_getr X hW (C := RX9) (T := TX9) (N := 35) (j := 20) rfl (by decide) inX9 (by decide) (by decide) rfl (t := 105) rfl rfl mw_3_189 dX9_through_57 ?_
      refine e_vi (rest := []) (As := [.ref (E.1 105)]) X hl.1 hW hS (C := RX9) (T := TX9) (N := 35) rfl (by decide) (ctfX9_roundCost X.2.2.2.2 F 105 ⟨(by decide), rfl⟩ m6) (cwV (rm := rmX9_roundCost) 1 X.1.2.2.2.2 (gd_V mw_5_26 mw_5_28 mw_0_42 mw_1_11 mw_5_29) rfl rfl rfl (by decide +kernel) ⟨Nat.le_of_ble_eq_true rfl, Nat.le_of_ble_eq_true rfl⟩) rfl rfl (Nat.le_of_ble_eq_true rfl) dX9_through_60 ⟨Nat.zero_le _, Nat.zero_le _⟩ hf (fun r10 m9 H locs hf hW hS => ?_)
      refine lv_istore_n (lv' := [(2, .int r10), (0, .ref (E.1 89)), (1, .int y1)]) X.1.1 X.1.2.1 dX9_through_63 rfl hl (by decide) rfl (fun ls hl => ?_)
      refine lv_iload_n X.1.1 X.1.2.1 dX9_through_64 rfl (lv_at hl 0 rfl) ?_
      refine lv_iload_n X.1.1 X.1.2.1 dX9_through_65 rfl (lv_at hl 2 rfl) ?_
      refine lv_icmp_ge (tgt := 73) X.1.1 X.1.2.1 dX9_through_66 (by decide) (fun c66 => ?_) (fun c66 => ?_)
      · rw [if_pos c66] at hf
        refine lv_iload_n X.1.1 X.1.2.1 dX9_through_73 rfl (lv_at hl 2 rfl) ?_
        refine lv_istore_n (lv' := [(1, .int y1), (2, .int r10), (0, .ref (E.1 89))]) X.1.1 X.1.2.1 dX9_through_74 rfl hl (by decide) rfl (fun ls hl => ?_)
        refine lv_goto (tgt := 39) X.1.1 X.1.2.1 dX9_through_75 (by decide) ?_
        exact hrec39 y1 m9 H locs ls hf hW hS (lv_sub hl [2, 0] rfl)
      · rw [if_neg c66] at hf
        refine lv_iload_n X.1.1 X.1.2.1 dX9_through_69 rfl (lv_at hl 0 rfl) ?_
        refine lv_goto (tgt := 74) X.1.1 X.1.2.1 dX9_through_70 (by decide) ?_
        refine lv_istore_n (lv' := [(1, .int r10), (2, .int r10), (0, .ref (E.1 89))]) X.1.1 X.1.2.1 dX9_through_74 rfl hl (by decide) rfl (fun ls hl => ?_)
        refine lv_goto (tgt := 39) X.1.1 X.1.2.1 dX9_through_75 (by decide) ?_
        exact hrec39 r10 m9 H locs ls hf hW hS (lv_sub hl [2, 0] rfl)
theorem wfX9_through_39 {p : Program} {l : Launch} {e : Env} {s : State} {m : MethodId} {args : Array Value} {below : List Frame} {meth : Method} {c : Code} {E : Gv} {F : Nat}  {r : Int32} {u : Mem} (X : Fx p m c cX9_through 3 s args (Cond.code yX9_through cX9_through 3 (some .int)) "OvenHouseModel" meth (some .int) E)  (n : Nat) : ∀ (y1 : Int32) (μ : Mem) (H : Heap) (locs : List Loc) (ls : Array Slot) (_ : fX9_through_39 F   n y1 μ = some (r, u)) (_ : Wo E μ H) (_ : va_S (AE E) s.heap H locs) (_ : lv_has ls 3 [(0, .ref (E.1 89)), (1, .int y1)]), W0 p l e rmX9_through s m args below meth c H locs (QcI E r u) E (F0 m 39 ls []) := by
  induction n with
  | zero => intro y1 μ H locs ls hf hW hS hl; cases hf
  | succ n ih => intro y1 μ H locs ls hf hW hS hl; exact wfX9_through_39_b X  _ ih y1 μ H locs ls hf hW hS hl
set_option maxRecDepth 100000 in
set_option maxHeartbeats 4000000 in
theorem ctfX9_through {l : Launch} {E : Gv} (hD : Do E) (F : Nat)  (μ : Mem) : CtI l yX9_through ((Cond.code yX9_through cX9_through 3 (some .int)) :: GG) rmX9_through E [.ref (E.1 89)] μ (fX9_through F μ) := by
  intro r u hf
  refine of_entry (cc := cX9_through) (maxL := 3) (ret := (some .int)) (by decide +kernel) rfl hD (Nat.le_of_ble_eq_true rfl) (fun p e s m args below meth c X H locs hW hS ls hl => ?_)
  have hl : lv_has ls 3 [(0, .ref (E.1 89))] := hl
  unfold fX9_through at hf
  refine lv_aload_n X.1.1 X.1.2.1 dX9_through_0 rfl (lv_at hl 0 rfl) ?_
  refine e_getr X hW (C := RX9) (T := TX9) (N := 35) (j := 5) rfl (by decide) inX9 (by decide) (by decide) rfl (t := 94) rfl rfl mw_3_174 dX9_through_1 ?_
  refine lv_iconst (v := 0) X.1.1 X.1.2.1 dX9_through_4 (by decide) ?_
  refine e_ild X hW (by decide) rfl dX9_through_5 hf (fun v1 hf => ?_)
  refine lv_if_ne (tgt := 12) X.1.1 X.1.2.1 dX9_through_6 (by decide) (fun c6 => ?_) (fun c6 => ?_)
  · rw [if_neg c6] at hf
    refine lv_aload_n X.1.1 X.1.2.1 dX9_through_12 rfl (lv_at hl 0 rfl) ?_
    refine e_getr X hW (C := RX9) (T := TX9) (N := 35) (j := 5) rfl (by decide) inX9 (by decide) (by decide) rfl (t := 94) rfl rfl mw_3_174 dX9_through_13 ?_
    refine lv_iconst (v := 0) X.1.1 X.1.2.1 dX9_through_16 (by decide) ?_
    refine e_ild X hW (by decide) rfl dX9_through_17 hf (fun v2 hf => ?_)
    refine lv_bipush (v := 8) X.1.1 X.1.2.1 dX9_through_18 (by decide) ?_
    refine lv_icmp_le (tgt := 26) X.1.1 X.1.2.1 dX9_through_20 (by decide) (fun c20 => ?_) (fun c20 => ?_)
    · rw [if_pos c20] at hf
      refine lv_aload_n X.1.1 X.1.2.1 dX9_through_26 rfl (lv_at hl 0 rfl) ?_
      refine e_vv (rest := []) (As := []) X hl.1 hW hS (C := RX9) (T := TX9) (N := 35) rfl (by decide) (ctfX9_firstRow X.2.2.2.2 F μ) (cwV (rm := rmX9_firstRow) 0 X.1.2.2.2.2 (gd_V mw_4_234 mw_4_236 mw_0_39 mw_1_11 mw_4_237) rfl rfl rfl (by decide +kernel) ⟨Nat.le_of_ble_eq_true rfl, Nat.le_of_ble_eq_true rfl⟩) rfl rfl (Nat.le_of_ble_eq_true rfl) dX9_through_27 ⟨Nat.zero_le _, Nat.zero_le _⟩ hf (fun m3 H locs hf hW hS => ?_)
      refine lv_aload_n X.1.1 X.1.2.1 dX9_through_30 rfl (lv_at hl 0 rfl) ?_
      refine lv_aload_n X.1.1 X.1.2.1 dX9_through_31 rfl (lv_at hl 0 rfl) ?_
      refine e_getr X hW (C := RX9) (T := TX9) (N := 35) (j := 20) rfl (by decide) inX9 (by decide) (by decide) rfl (t := 105) rfl rfl mw_3_189 dX9_through_32 ?_
      refine e_vi (rest := []) (As := [.ref (E.1 105)]) X hl.1 hW hS (C := RX9) (T := TX9) (N := 35) rfl (by decide) (ctfX9_roundCost X.2.2.2.2 F 105 ⟨(by decide), rfl⟩ m3) (cwV (rm := rmX9_roundCost) 1 X.1.2.2.2.2 (gd_V mw_5_26 mw_5_28 mw_0_42 mw_1_11 mw_5_29) rfl rfl rfl (by decide +kernel) ⟨Nat.le_of_ble_eq_true rfl, Nat.le_of_ble_eq_true rfl⟩) rfl rfl (Nat.le_of_ble_eq_true rfl) dX9_through_35 ⟨Nat.zero_le _, Nat.zero_le _⟩ hf (fun r5 m4 H locs hf hW hS => ?_)
      refine lv_istore_n (lv' := [(1, .int r5), (0, .ref (E.1 89))]) X.1.1 X.1.2.1 dX9_through_38 rfl hl (by decide) rfl (fun ls hl => ?_)
      exact wfX9_through_39 X  F r5 m4 H locs ls hf hW hS (lv_sub hl [1, 0] rfl)
    · rw [if_neg c20] at hf
      refine lv_bipush (v := (-4)) X.1.1 X.1.2.1 dX9_through_23 (by decide) ?_
      exact e_iret X hW hS hf dX9_through_25
  · rw [if_pos c6] at hf
    refine lv_bipush (v := (-5)) X.1.1 X.1.2.1 dX9_through_9 (by decide) ?_
    exact e_iret X hW hS hf dX9_through_11
-- OvenHouseModel.batches
def rmX9_batches : Room := { frames := 1, cells := 0, slots := 0, locals := 25 }
set_option maxRecDepth 100000 in
set_option maxHeartbeats 4000000 in
theorem wfX9_batches_70 {p : Program} {l : Launch} {e : Env} {s : State} {m : MethodId} {args : Array Value} {below : List Frame} {meth : Method} {c : Code} {E : Gv} {F : Nat}  {r : Int32} {u : Mem} (X : Fx p m c cX9_batches 4 s args (Cond.code yX9_batches cX9_batches 4 (some .int)) "OvenHouseModel" meth (some .int) E)  (rec17 : Int32 → Int32 → Mem → Option (Int32 × Mem)) (hrec17 : ∀ (y1 : Int32) (y2 : Int32) (μ : Mem) (H : Heap) (locs : List Loc) (ls : Array Slot), rec17 y1 y2 μ = some (r, u) → Wo E μ H → va_S (AE E) s.heap H locs → lv_has ls 4 [(0, .ref (E.1 89)), (1, .int y1), (2, .int y2)] → W0 p l e rmX9_batches s m args below meth c H locs (QcI E r u) E (F0 m 17 ls [])) (y1 : Int32) (y2 : Int32) (y3 : Int32) (μ : Mem) (H : Heap) (locs : List Loc) (ls : Array Slot) (hf : fX9_batches_70 F  rec17 y1 y2 y3 μ = some (r, u)) (hW : Wo E μ H) (hS : va_S (AE E) s.heap H locs) (hl : lv_has ls 4 [(0, .ref (E.1 89)), (1, .int y1), (2, .int y2), (3, .int y3)]) : W0 p l e rmX9_batches s m args below meth c H locs (QcI E r u) E (F0 m 70 ls []) := by
  unfold fX9_batches_70 at hf
  refine lv_aload_n X.1.1 X.1.2.1 dX9_batches_70 rfl (lv_at hl 0 rfl) ?_
  refine e_getr X hW (C := RX9) (T := TX9) (N := 35) (j := 34) rfl (by decide) inX9 (by decide) (by decide) rfl (t := 116) rfl rfl mw_3_203 dX9_batches_71 ?_
  refine lv_iload_n X.1.1 X.1.2.1 dX9_batches_74 rfl (lv_at hl 3 rfl) ?_
  refine lv_aload_n X.1.1 X.1.2.1 dX9_batches_75 rfl (lv_at hl 0 rfl) ?_
  refine e_getr X hW (C := RX9) (T := TX9) (N := 35) (j := 7) rfl (by decide) inX9 (by decide) (by decide) rfl (t := 96) rfl rfl mw_3_176 dX9_batches_76 ?_
  refine lv_iload_n X.1.1 X.1.2.1 dX9_batches_79 rfl (lv_at hl 2 rfl) ?_
  refine e_ild X hW (by decide) rfl dX9_batches_80 hf (fun v10 hf => ?_)
  refine e_ist X hW hS (by decide) rfl dX9_batches_81 hf (fun m11 H locs hf hW hS => ?_)
  refine lv_iinc (v := (y2 + 1)) (lv' := [(2, .int (y2 + 1)), (0, .ref (E.1 89)), (1, .int y1), (3, .int y3)]) X.1.1 X.1.2.1 dX9_batches_82 hl (k := 2) rfl rfl (by decide) rfl (fun ls hl => ?_)
  refine lv_goto (tgt := 17) X.1.1 X.1.2.1 dX9_batches_85 (by decide) ?_
  exact hrec17 y1 (y2 + 1) m11 H locs ls hf hW hS (lv_sub hl [1, 2, 0] rfl)
set_option maxRecDepth 100000 in
set_option maxHeartbeats 4000000 in
theorem wfX9_batches_29_b {p : Program} {l : Launch} {e : Env} {s : State} {m : MethodId} {args : Array Value} {below : List Frame} {meth : Method} {c : Code} {E : Gv} {F : Nat}  {r : Int32} {u : Mem} (X : Fx p m c cX9_batches 4 s args (Cond.code yX9_batches cX9_batches 4 (some .int)) "OvenHouseModel" meth (some .int) E)  (rec17 : Int32 → Int32 → Mem → Option (Int32 × Mem)) (hrec17 : ∀ (y1 : Int32) (y2 : Int32) (μ : Mem) (H : Heap) (locs : List Loc) (ls : Array Slot), rec17 y1 y2 μ = some (r, u) → Wo E μ H → va_S (AE E) s.heap H locs → lv_has ls 4 [(0, .ref (E.1 89)), (1, .int y1), (2, .int y2)] → W0 p l e rmX9_batches s m args below meth c H locs (QcI E r u) E (F0 m 17 ls [])) (rec29 : Int32 → Int32 → Int32 → Mem → Option (Int32 × Mem)) (hrec29 : ∀ (y1 : Int32) (y2 : Int32) (y3 : Int32) (μ : Mem) (H : Heap) (locs : List Loc) (ls : Array Slot), rec29 y1 y2 y3 μ = some (r, u) → Wo E μ H → va_S (AE E) s.heap H locs → lv_has ls 4 [(0, .ref (E.1 89)), (1, .int y1), (2, .int y2), (3, .int y3)] → W0 p l e rmX9_batches s m args below meth c H locs (QcI E r u) E (F0 m 29 ls [])) (y1 : Int32) (y2 : Int32) (y3 : Int32) (μ : Mem) (H : Heap) (locs : List Loc) (ls : Array Slot) (hf : fX9_batches_29_b F  rec17 rec29 y1 y2 y3 μ = some (r, u)) (hW : Wo E μ H) (hS : va_S (AE E) s.heap H locs) (hl : lv_has ls 4 [(0, .ref (E.1 89)), (1, .int y1), (2, .int y2), (3, .int y3)]) : W0 p l e rmX9_batches s m args below meth c H locs (QcI E r u) E (F0 m 29 ls []) := by
  unfold fX9_batches_29_b at hf
  refine lv_iload_n X.1.1 X.1.2.1 dX9_batches_29 rfl (lv_at hl 3 rfl) ?_
  refine lv_if_le (tgt := 70) X.1.1 X.1.2.1 dX9_batches_30 (by decide) (fun c30 => ?_) (fun c30 => ?_)
  · rw [if_pos c30] at hf
    exact wfX9_batches_70 X rec17 hrec17 y1 y2 y3 μ H locs ls hf hW hS (lv_sub hl [0, 1, 2, 3] rfl)
  · rw [if_neg c30] at hf
    refine lv_aload_n X.1.1 X.1.2.1 dX9_batches_33 rfl (lv_at hl 0 rfl) ?_
    refine e_getr X hW (C := RX9) (T := TX9) (N := 35) (j := 34) rfl (by decide) inX9 (by decide) (by decide) rfl (t := 116) rfl rfl mw_3_203 dX9_batches_34 ?_
    refine lv_iload_n X.1.1 X.1.2.1 dX9_batches_37 rfl (lv_at hl 3 rfl) ?_
    refine lv_iconst (v := 1) X.1.1 X.1.2.1 dX9_batches_38 (by decide) ?_
    refine lv_isub X.1.1 X.1.2.1 dX9_batches_39 ?_
    refine e_ild X hW (by decide) rfl dX9_batches_40 hf (fun v6 hf => ?_)
    refine lv_aload_n X.1.1 X.1.2.1 dX9_batches_41 rfl (lv_at hl 0 rfl) ?_
    refine e_getr X hW (C := RX9) (T := TX9) (N := 35) (j := 7) rfl (by decide) inX9 (by decide) (by decide) rfl (t := 96) rfl rfl mw_3_176 dX9_batches_42 ?_
    refine lv_iload_n X.1.1 X.1.2.1 dX9_batches_45 rfl (lv_at hl 2 rfl) ?_
    refine e_ild X hW (by decide) rfl dX9_batches_46 hf (fun v7 hf => ?_)
    refine lv_icmp_ge (tgt := 70) X.1.1 X.1.2.1 dX9_batches_47 (by decide) (fun c47 => ?_) (fun c47 => ?_)
    · rw [if_pos c47] at hf
      exact wfX9_batches_70 X rec17 hrec17 y1 y2 y3 μ H locs ls hf hW hS (lv_sub hl [0, 1, 2, 3] rfl)
    · rw [if_neg c47] at hf
      refine lv_aload_n X.1.1 X.1.2.1 dX9_batches_50 rfl (lv_at hl 0 rfl) ?_
      refine e_getr X hW (C := RX9) (T := TX9) (N := 35) (j := 34) rfl (by decide) inX9 (by decide) (by decide) rfl (t := 116) rfl rfl mw_3_203 dX9_batches_51 ?_
      refine lv_iload_n X.1.1 X.1.2.1 dX9_batches_54 rfl (lv_at hl 3 rfl) ?_
      refine lv_aload_n X.1.1 X.1.2.1 dX9_batches_55 rfl (lv_at hl 0 rfl) ?_
      refine e_getr X hW (C := RX9) (T := TX9) (N := 35) (j := 34) rfl (by decide) inX9 (by decide) (by decide) rfl (t := 116) rfl rfl mw_3_203 dX9_batches_56 ?_
      refine lv_iload_n X.1.1 X.1.2.1 dX9_batches_59 rfl (lv_at hl 3 rfl) ?_
      refine lv_iconst (v := 1) X.1.1 X.1.2.1 dX9_batches_60 (by decide) ?_
      refine lv_isub X.1.1 X.1.2.1 dX9_batches_61 ?_
      refine e_ild X hW (by decide) rfl dX9_batches_62 hf (fun v8 hf => ?_)
      refine e_ist X hW hS (by decide) rfl dX9_batches_63 hf (fun m9 H locs hf hW hS => ?_)
      refine lv_iinc (v := (y3 + (-1))) (lv' := [(3, .int (y3 + (-1))), (0, .ref (E.1 89)), (1, .int y1), (2, .int y2)]) X.1.1 X.1.2.1 dX9_batches_64 hl (k := 3) rfl rfl (by decide) rfl (fun ls hl => ?_)
      refine lv_goto (tgt := 29) X.1.1 X.1.2.1 dX9_batches_67 (by decide) ?_
      exact hrec29 y1 y2 (y3 + (-1)) m9 H locs ls hf hW hS (lv_sub hl [1, 2, 3, 0] rfl)
theorem wfX9_batches_29 {p : Program} {l : Launch} {e : Env} {s : State} {m : MethodId} {args : Array Value} {below : List Frame} {meth : Method} {c : Code} {E : Gv} {F : Nat}  {r : Int32} {u : Mem} (X : Fx p m c cX9_batches 4 s args (Cond.code yX9_batches cX9_batches 4 (some .int)) "OvenHouseModel" meth (some .int) E)  (rec17 : Int32 → Int32 → Mem → Option (Int32 × Mem)) (hrec17 : ∀ (y1 : Int32) (y2 : Int32) (μ : Mem) (H : Heap) (locs : List Loc) (ls : Array Slot), rec17 y1 y2 μ = some (r, u) → Wo E μ H → va_S (AE E) s.heap H locs → lv_has ls 4 [(0, .ref (E.1 89)), (1, .int y1), (2, .int y2)] → W0 p l e rmX9_batches s m args below meth c H locs (QcI E r u) E (F0 m 17 ls [])) (n : Nat) : ∀ (y1 : Int32) (y2 : Int32) (y3 : Int32) (μ : Mem) (H : Heap) (locs : List Loc) (ls : Array Slot) (_ : fX9_batches_29 F  rec17 n y1 y2 y3 μ = some (r, u)) (_ : Wo E μ H) (_ : va_S (AE E) s.heap H locs) (_ : lv_has ls 4 [(0, .ref (E.1 89)), (1, .int y1), (2, .int y2), (3, .int y3)]), W0 p l e rmX9_batches s m args below meth c H locs (QcI E r u) E (F0 m 29 ls []) := by
  induction n with
  | zero => intro y1 y2 y3 μ H locs ls hf hW hS hl; cases hf
  | succ n ih => intro y1 y2 y3 μ H locs ls hf hW hS hl; exact wfX9_batches_29_b X rec17 hrec17 _ ih y1 y2 y3 μ H locs ls hf hW hS hl
set_option maxRecDepth 100000 in
set_option maxHeartbeats 4000000 in
theorem wfX9_batches_92_b {p : Program} {l : Launch} {e : Env} {s : State} {m : MethodId} {args : Array Value} {below : List Frame} {meth : Method} {c : Code} {E : Gv} {F : Nat}  {r : Int32} {u : Mem} (X : Fx p m c cX9_batches 4 s args (Cond.code yX9_batches cX9_batches 4 (some .int)) "OvenHouseModel" meth (some .int) E)  (rec92 : Int32 → Int32 → Int32 → Mem → Option (Int32 × Mem)) (hrec92 : ∀ (y1 : Int32) (y2 : Int32) (y3 : Int32) (μ : Mem) (H : Heap) (locs : List Loc) (ls : Array Slot), rec92 y1 y2 y3 μ = some (r, u) → Wo E μ H → va_S (AE E) s.heap H locs → lv_has ls 4 [(0, .ref (E.1 89)), (1, .int y1), (2, .int y2), (3, .int y3)] → W0 p l e rmX9_batches s m args below meth c H locs (QcI E r u) E (F0 m 92 ls [])) (y1 : Int32) (y2 : Int32) (y3 : Int32) (μ : Mem) (H : Heap) (locs : List Loc) (ls : Array Slot) (hf : fX9_batches_92_b F  rec92 y1 y2 y3 μ = some (r, u)) (hW : Wo E μ H) (hS : va_S (AE E) s.heap H locs) (hl : lv_has ls 4 [(0, .ref (E.1 89)), (1, .int y1), (2, .int y2), (3, .int y3)]) : W0 p l e rmX9_batches s m args below meth c H locs (QcI E r u) E (F0 m 92 ls []) := by
  unfold fX9_batches_92_b at hf
  refine lv_iload_n X.1.1 X.1.2.1 dX9_batches_92 rfl (lv_at hl 3 rfl) ?_
  refine lv_aload_n X.1.1 X.1.2.1 dX9_batches_93 rfl (lv_at hl 0 rfl) ?_
  refine e_getr X hW (C := RX9) (T := TX9) (N := 35) (j := 5) rfl (by decide) inX9 (by decide) (by decide) rfl (t := 94) rfl rfl mw_3_174 dX9_batches_94 ?_
  refine lv_iconst (v := 0) X.1.1 X.1.2.1 dX9_batches_97 (by decide) ?_
  refine e_ild X hW (by decide) rfl dX9_batches_98 hf (fun v4 hf => ?_)
  refine lv_icmp_ge (tgt := 118) X.1.1 X.1.2.1 dX9_batches_99 (by decide) (fun c99 => ?_) (fun c99 => ?_)
  · rw [if_pos c99] at hf
    refine lv_iload_n X.1.1 X.1.2.1 dX9_batches_118 rfl (lv_at hl 2 rfl) ?_
    exact e_iret X hW hS hf dX9_batches_119
  · rw [if_neg c99] at hf
    refine lv_iload_n X.1.1 X.1.2.1 dX9_batches_102 rfl (lv_at hl 2 rfl) ?_
    refine lv_aload_n X.1.1 X.1.2.1 dX9_batches_103 rfl (lv_at hl 0 rfl) ?_
    refine e_getr X hW (C := RX9) (T := TX9) (N := 35) (j := 34) rfl (by decide) inX9 (by decide) (by decide) rfl (t := 116) rfl rfl mw_3_203 dX9_batches_104 ?_
    refine lv_iload_n X.1.1 X.1.2.1 dX9_batches_107 rfl (lv_at hl 3 rfl) ?_
    refine e_ild X hW (by decide) rfl dX9_batches_108 hf (fun v5 hf => ?_)
    refine lv_iadd X.1.1 X.1.2.1 dX9_batches_109 ?_
    refine lv_istore_n (lv' := [(2, .int (y2 + v5)), (0, .ref (E.1 89)), (1, .int y1), (3, .int y3)]) X.1.1 X.1.2.1 dX9_batches_110 rfl hl (by decide) rfl (fun ls hl => ?_)
    refine lv_iload_n X.1.1 X.1.2.1 dX9_batches_111 rfl (lv_at hl 3 rfl) ?_
    refine lv_iload_n X.1.1 X.1.2.1 dX9_batches_112 rfl (lv_at hl 2 rfl) ?_
    refine lv_iadd X.1.1 X.1.2.1 dX9_batches_113 ?_
    refine lv_istore_n (lv' := [(3, .int (y3 + y1)), (2, .int (y2 + v5)), (0, .ref (E.1 89)), (1, .int y1)]) X.1.1 X.1.2.1 dX9_batches_114 rfl hl (by decide) rfl (fun ls hl => ?_)
    refine lv_goto (tgt := 92) X.1.1 X.1.2.1 dX9_batches_115 (by decide) ?_
    exact hrec92 y1 (y2 + v5) (y3 + y1) μ H locs ls hf hW hS (lv_sub hl [2, 3, 1, 0] rfl)
theorem wfX9_batches_92 {p : Program} {l : Launch} {e : Env} {s : State} {m : MethodId} {args : Array Value} {below : List Frame} {meth : Method} {c : Code} {E : Gv} {F : Nat}  {r : Int32} {u : Mem} (X : Fx p m c cX9_batches 4 s args (Cond.code yX9_batches cX9_batches 4 (some .int)) "OvenHouseModel" meth (some .int) E)  (n : Nat) : ∀ (y1 : Int32) (y2 : Int32) (y3 : Int32) (μ : Mem) (H : Heap) (locs : List Loc) (ls : Array Slot) (_ : fX9_batches_92 F   n y1 y2 y3 μ = some (r, u)) (_ : Wo E μ H) (_ : va_S (AE E) s.heap H locs) (_ : lv_has ls 4 [(0, .ref (E.1 89)), (1, .int y1), (2, .int y2), (3, .int y3)]), W0 p l e rmX9_batches s m args below meth c H locs (QcI E r u) E (F0 m 92 ls []) := by
  induction n with
  | zero => intro y1 y2 y3 μ H locs ls hf hW hS hl; cases hf
  | succ n ih => intro y1 y2 y3 μ H locs ls hf hW hS hl; exact wfX9_batches_92_b X  _ ih y1 y2 y3 μ H locs ls hf hW hS hl
set_option maxRecDepth 100000 in
set_option maxHeartbeats 4000000 in
theorem wfX9_batches_17_b {p : Program} {l : Launch} {e : Env} {s : State} {m : MethodId} {args : Array Value} {below : List Frame} {meth : Method} {c : Code} {E : Gv} {F : Nat}  {r : Int32} {u : Mem} (X : Fx p m c cX9_batches 4 s args (Cond.code yX9_batches cX9_batches 4 (some .int)) "OvenHouseModel" meth (some .int) E)  (rec17 : Int32 → Int32 → Mem → Option (Int32 × Mem)) (hrec17 : ∀ (y1 : Int32) (y2 : Int32) (μ : Mem) (H : Heap) (locs : List Loc) (ls : Array Slot), rec17 y1 y2 μ = some (r, u) → Wo E μ H → va_S (AE E) s.heap H locs → lv_has ls 4 [(0, .ref (E.1 89)), (1, .int y1), (2, .int y2)] → W0 p l e rmX9_batches s m args below meth c H locs (QcI E r u) E (F0 m 17 ls [])) (y1 : Int32) (y2 : Int32) (μ : Mem) (H : Heap) (locs : List Loc) (ls : Array Slot) (hf : fX9_batches_17_b F  rec17 y1 y2 μ = some (r, u)) (hW : Wo E μ H) (hS : va_S (AE E) s.heap H locs) (hl : lv_has ls 4 [(0, .ref (E.1 89)), (1, .int y1), (2, .int y2)]) : W0 p l e rmX9_batches s m args below meth c H locs (QcI E r u) E (F0 m 17 ls []) := by
  unfold fX9_batches_17_b at hf
  refine lv_iload_n X.1.1 X.1.2.1 dX9_batches_17 rfl (lv_at hl 2 rfl) ?_
  refine lv_aload_n X.1.1 X.1.2.1 dX9_batches_18 rfl (lv_at hl 0 rfl) ?_
  refine e_getr X hW (C := RX9) (T := TX9) (N := 35) (j := 5) rfl (by decide) inX9 (by decide) (by decide) rfl (t := 94) rfl rfl mw_3_174 dX9_batches_19 ?_
  refine lv_iconst (v := 0) X.1.1 X.1.2.1 dX9_batches_22 (by decide) ?_
  refine e_ild X hW (by decide) rfl dX9_batches_23 hf (fun v3 hf => ?_)
  refine lv_icmp_ge (tgt := 88) X.1.1 X.1.2.1 dX9_batches_24 (by decide) (fun c24 => ?_) (fun c24 => ?_)
  · rw [if_pos c24] at hf
    refine lv_iconst (v := 0) X.1.1 X.1.2.1 dX9_batches_88 (by decide) ?_
    refine lv_istore_n (lv' := [(2, .int 0), (0, .ref (E.1 89)), (1, .int y1)]) X.1.1 X.1.2.1 dX9_batches_89 rfl hl (by decide) rfl (fun ls hl => ?_)
    refine lv_iconst (v := 0) X.1.1 X.1.2.1 dX9_batches_90 (by decide) ?_
    refine lv_istore_n (lv' := [(3, .int 0), (2, .int 0), (0, .ref (E.1 89)), (1, .int y1)]) X.1.1 X.1.2.1 dX9_batches_91 rfl hl (by decide) rfl (fun ls hl => ?_)
    exact wfX9_batches_92 X  F y1 0 0 μ H locs ls hf hW hS (lv_sub hl [2, 3, 1, 0] rfl)
  · rw [if_neg c24] at hf
    refine lv_iload_n X.1.1 X.1.2.1 dX9_batches_27 rfl (lv_at hl 2 rfl) ?_
    refine lv_istore_n (lv' := [(3, .int y2), (0, .ref (E.1 89)), (1, .int y1), (2, .int y2)]) X.1.1 X.1.2.1 dX9_batches_28 rfl hl (by decide) rfl (fun ls hl => ?_)
    exact wfX9_batches_29 X rec17 hrec17 F y1 y2 y2 μ H locs ls hf hW hS (lv_sub hl [1, 2, 3, 0] rfl)
theorem wfX9_batches_17 {p : Program} {l : Launch} {e : Env} {s : State} {m : MethodId} {args : Array Value} {below : List Frame} {meth : Method} {c : Code} {E : Gv} {F : Nat}  {r : Int32} {u : Mem} (X : Fx p m c cX9_batches 4 s args (Cond.code yX9_batches cX9_batches 4 (some .int)) "OvenHouseModel" meth (some .int) E)  (n : Nat) : ∀ (y1 : Int32) (y2 : Int32) (μ : Mem) (H : Heap) (locs : List Loc) (ls : Array Slot) (_ : fX9_batches_17 F   n y1 y2 μ = some (r, u)) (_ : Wo E μ H) (_ : va_S (AE E) s.heap H locs) (_ : lv_has ls 4 [(0, .ref (E.1 89)), (1, .int y1), (2, .int y2)]), W0 p l e rmX9_batches s m args below meth c H locs (QcI E r u) E (F0 m 17 ls []) := by
  induction n with
  | zero => intro y1 y2 μ H locs ls hf hW hS hl; cases hf
  | succ n ih => intro y1 y2 μ H locs ls hf hW hS hl; exact wfX9_batches_17_b X  _ ih y1 y2 μ H locs ls hf hW hS hl
set_option maxRecDepth 100000 in
set_option maxHeartbeats 4000000 in
theorem ctfX9_batches {l : Launch} {E : Gv} (hD : Do E) (F : Nat) (x1 : Int32)  (μ : Mem) : CtI l yX9_batches ((Cond.code yX9_batches cX9_batches 4 (some .int)) :: GG) rmX9_batches E [.ref (E.1 89), .int x1] μ (fX9_batches F x1 μ) := by
  intro r u hf
  refine of_entry (cc := cX9_batches) (maxL := 4) (ret := (some .int)) (by decide +kernel) rfl hD (Nat.le_of_ble_eq_true rfl) (fun p e s m args below meth c X H locs hW hS ls hl => ?_)
  have hl : lv_has ls 4 [(0, .ref (E.1 89)), (1, .int x1)] := hl
  unfold fX9_batches at hf
  refine lv_iload_n X.1.1 X.1.2.1 dX9_batches_0 rfl (lv_at hl 1 rfl) ?_
  refine lv_i2l X.1.1 X.1.2.1 dX9_batches_1 rfl ?_
  refine lv_lconst (v := 1) X.1.1 X.1.2.1 dX9_batches_2 (by decide) ?_
  refine lv_ldc2 X.1.1 X.1.2.1 X.1.2.2.2.1 (X.1.2.2.2.2 _ (List.mem_cons_of_mem _ mw_4_84)) dX9_batches_3 ?_
  refine e_si (rest := []) (As := [.long x1.toInt64, .long 1, .long 40]) X hl.1 hW hS (ctfX9_in X.2.2.2.2 F x1.toInt64 1 40 μ) (cwS (rm := rmX9_in) 3 X.1.2.2.2.2 (gd_S mw_4_43 mw_4_44 mw_1_11 mw_4_45) rfl rfl rfl (by decide +kernel) ⟨Nat.le_of_ble_eq_true rfl, Nat.le_of_ble_eq_true rfl⟩) rfl rfl (Nat.le_of_ble_eq_true rfl) dX9_batches_6 ⟨Nat.zero_le _, Nat.zero_le _⟩ hf (fun r2 m1 H locs hf hW hS => ?_)
  refine lv_if_ne (tgt := 15) X.1.1 X.1.2.1 dX9_batches_9 (by decide) (fun c9 => ?_) (fun c9 => ?_)
  · rw [if_neg c9] at hf
    refine lv_iconst (v := 0) X.1.1 X.1.2.1 dX9_batches_15 (by decide) ?_
    refine lv_istore_n (lv' := [(2, .int 0), (0, .ref (E.1 89)), (1, .int x1)]) X.1.1 X.1.2.1 dX9_batches_16 rfl hl (by decide) rfl (fun ls hl => ?_)
    exact wfX9_batches_17 X  F x1 0 m1 H locs ls hf hW hS (lv_sub hl [1, 2, 0] rfl)
  · rw [if_pos c9] at hf
    refine lv_bipush (v := (-2)) X.1.1 X.1.2.1 dX9_batches_12 (by decide) ?_
    exact e_iret X hW hS hf dX9_batches_14
-- OvenHouseModel.count
def rmX9_count : Room := { frames := 1, cells := 0, slots := 0, locals := 22 }
set_option maxRecDepth 100000 in
set_option maxHeartbeats 4000000 in
theorem ctfX9_count {l : Launch} {E : Gv} (hD : Do E) (F : Nat) (x1 : Int32)  (μ : Mem) : CtI l yX9_count ((Cond.code yX9_count cX9_count 2 (some .int)) :: GG) rmX9_count E [.ref (E.1 89), .int x1] μ (fX9_count F x1 μ) := by
  intro r u hf
  refine of_entry (cc := cX9_count) (maxL := 2) (ret := (some .int)) (by decide +kernel) rfl hD (Nat.le_of_ble_eq_true rfl) (fun p e s m args below meth c X H locs hW hS ls hl => ?_)
  have hl : lv_has ls 2 [(0, .ref (E.1 89)), (1, .int x1)] := hl
  unfold fX9_count at hf
  refine lv_iload_n X.1.1 X.1.2.1 dX9_count_0 rfl (lv_at hl 1 rfl) ?_
  by_cases c1_0 : x1 = 0
  · rw [if_pos c1_0] at hf
    refine lv_tableIn (off := 39) (tgt := 40) X.1.1 X.1.2.1 dX9_count_1 (by rw [c1_0]; decide) (by rw [c1_0]; decide) (by rw [c1_0]; rfl) (by decide) ?_
    refine lv_aload_n X.1.1 X.1.2.1 dX9_count_40 rfl (lv_at hl 0 rfl) ?_
    refine e_getr X hW (C := RX9) (T := TX9) (N := 35) (j := 5) rfl (by decide) inX9 (by decide) (by decide) rfl (t := 94) rfl rfl mw_3_174 dX9_count_41 ?_
    refine lv_iconst (v := 0) X.1.1 X.1.2.1 dX9_count_44 (by decide) ?_
    refine e_ild X hW (by decide) rfl dX9_count_45 hf (fun v1 hf => ?_)
    exact e_iret X hW hS hf dX9_count_46
  · rw [if_neg c1_0] at hf
    by_cases c1_1 : x1 = 1
    · rw [if_pos c1_1] at hf
      refine lv_tableIn (off := 46) (tgt := 47) X.1.1 X.1.2.1 dX9_count_1 (by rw [c1_1]; decide) (by rw [c1_1]; decide) (by rw [c1_1]; rfl) (by decide) ?_
      refine lv_aload_n X.1.1 X.1.2.1 dX9_count_47 rfl (lv_at hl 0 rfl) ?_
      refine e_vi (rest := []) (As := []) X hl.1 hW hS (C := RX9) (T := TX9) (N := 35) rfl (by decide) (ctfX9_allMix X.2.2.2.2 F μ) (cwV (rm := rmX9_allMix) 0 X.1.2.2.2.2 (gd_V mw_4_182 mw_4_184 mw_0_27 mw_1_11 mw_4_185) rfl rfl rfl (by decide +kernel) ⟨Nat.le_of_ble_eq_true rfl, Nat.le_of_ble_eq_true rfl⟩) rfl rfl (Nat.le_of_ble_eq_true rfl) dX9_count_48 ⟨Nat.zero_le _, Nat.zero_le _⟩ hf (fun r3 m2 H locs hf hW hS => ?_)
      exact e_iret X hW hS hf dX9_count_51
    · rw [if_neg c1_1] at hf
      by_cases c1_2 : x1 = 2
      · rw [if_pos c1_2] at hf
        refine lv_tableIn (off := 51) (tgt := 52) X.1.1 X.1.2.1 dX9_count_1 (by rw [c1_2]; decide) (by rw [c1_2]; decide) (by rw [c1_2]; rfl) (by decide) ?_
        refine lv_aload_n X.1.1 X.1.2.1 dX9_count_52 rfl (lv_at hl 0 rfl) ?_
        refine e_vi (rest := []) (As := []) X hl.1 hW hS (C := RX9) (T := TX9) (N := 35) rfl (by decide) (ctfX9_allBake X.2.2.2.2 F μ) (cwV (rm := rmX9_allBake) 0 X.1.2.2.2.2 (gd_V mw_4_174 mw_4_176 mw_0_26 mw_1_11 mw_4_177) rfl rfl rfl (by decide +kernel) ⟨Nat.le_of_ble_eq_true rfl, Nat.le_of_ble_eq_true rfl⟩) rfl rfl (Nat.le_of_ble_eq_true rfl) dX9_count_53 ⟨Nat.zero_le _, Nat.zero_le _⟩ hf (fun r5 m4 H locs hf hW hS => ?_)
        exact e_iret X hW hS hf dX9_count_56
      · rw [if_neg c1_2] at hf
        by_cases c1_3 : x1 = 3
        · rw [if_pos c1_3] at hf
          refine lv_tableIn (off := 56) (tgt := 57) X.1.1 X.1.2.1 dX9_count_1 (by rw [c1_3]; decide) (by rw [c1_3]; decide) (by rw [c1_3]; rfl) (by decide) ?_
          refine lv_aload_n X.1.1 X.1.2.1 dX9_count_57 rfl (lv_at hl 0 rfl) ?_
          refine e_geti X hW (C := RX9) (T := TX9) (N := 35) (j := 14) rfl (by decide) inX9 (by decide) (by decide) rfl rfl mw_3_183 dX9_count_58 ?_
          refine lv_if_eq (tgt := 75) X.1.1 X.1.2.1 dX9_count_61 (by decide) (fun c61 => ?_) (fun c61 => ?_)
          · rw [if_pos c61] at hf
            refine lv_iconst (v := 0) X.1.1 X.1.2.1 dX9_count_75 (by decide) ?_
            exact e_iret X hW hS hf dX9_count_76
          · rw [if_neg c61] at hf
            refine lv_aload_n X.1.1 X.1.2.1 dX9_count_64 rfl (lv_at hl 0 rfl) ?_
            refine e_geti X hW (C := RX9) (T := TX9) (N := 35) (j := 15) rfl (by decide) inX9 (by decide) (by decide) rfl rfl mw_3_184 dX9_count_65 ?_
            refine lv_if_eq (tgt := 75) X.1.1 X.1.2.1 dX9_count_68 (by decide) (fun c68 => ?_) (fun c68 => ?_)
            · rw [if_pos c68] at hf
              refine lv_iconst (v := 0) X.1.1 X.1.2.1 dX9_count_75 (by decide) ?_
              exact e_iret X hW hS hf dX9_count_76
            · rw [if_neg c68] at hf
              refine lv_iconst (v := 1) X.1.1 X.1.2.1 dX9_count_71 (by decide) ?_
              refine lv_goto (tgt := 76) X.1.1 X.1.2.1 dX9_count_72 (by decide) ?_
              exact e_iret X hW hS hf dX9_count_76
        · rw [if_neg c1_3] at hf
          by_cases c1_4 : x1 = 4
          · rw [if_pos c1_4] at hf
            refine lv_tableIn (off := 76) (tgt := 77) X.1.1 X.1.2.1 dX9_count_1 (by rw [c1_4]; decide) (by rw [c1_4]; decide) (by rw [c1_4]; rfl) (by decide) ?_
            refine lv_aload_n X.1.1 X.1.2.1 dX9_count_77 rfl (lv_at hl 0 rfl) ?_
            refine e_geti X hW (C := RX9) (T := TX9) (N := 35) (j := 11) rfl (by decide) inX9 (by decide) (by decide) rfl rfl mw_3_180 dX9_count_78 ?_
            exact e_iret X hW hS hf dX9_count_81
          · rw [if_neg c1_4] at hf
            by_cases c1_5 : x1 = 5
            · rw [if_pos c1_5] at hf
              refine lv_tableIn (off := 81) (tgt := 82) X.1.1 X.1.2.1 dX9_count_1 (by rw [c1_5]; decide) (by rw [c1_5]; decide) (by rw [c1_5]; rfl) (by decide) ?_
              refine lv_aload_n X.1.1 X.1.2.1 dX9_count_82 rfl (lv_at hl 0 rfl) ?_
              refine e_geti X hW (C := RX9) (T := TX9) (N := 35) (j := 0) rfl (by decide) inX9 (by decide) (by decide) rfl rfl mw_3_169 dX9_count_83 ?_
              exact e_iret X hW hS hf dX9_count_86
            · rw [if_neg c1_5] at hf
              refine lv_tableOut (tgt := 87) X.1.1 X.1.2.1 dX9_count_1 (by have e0 := lv_neT c1_0 (a := 0) rfl; have e1 := lv_neT c1_1 (a := 1) rfl; have e2 := lv_neT c1_2 (a := 2) rfl; have e3 := lv_neT c1_3 (a := 3) rfl; have e4 := lv_neT c1_4 (a := 4) rfl; have e5 := lv_neT c1_5 (a := 5) rfl; have e := e0; omega) (by decide) ?_
              refine lv_bipush (v := (-2)) X.1.1 X.1.2.1 dX9_count_87 (by decide) ?_
              exact e_iret X hW hS hf dX9_count_89
-- OvenHouseModel.digest
def rmX9_digest : Room := { frames := 3, cells := 0, slots := 0, locals := 68 }
set_option maxRecDepth 100000 in
set_option maxHeartbeats 4000000 in
theorem wfX9_digest_19_b {p : Program} {l : Launch} {e : Env} {s : State} {m : MethodId} {args : Array Value} {below : List Frame} {meth : Method} {c : Code} {E : Gv} {F : Nat}  {r : Int64} {u : Mem} (X : Fx p m c cX9_digest 5 s args (Cond.code yX9_digest cX9_digest 5 (some .long)) "OvenHouseModel" meth (some .long) E)  (rec6 : Int64 → Int32 → Mem → Option (Int64 × Mem)) (hrec6 : ∀ (y1 : Int64) (y3 : Int32) (μ : Mem) (H : Heap) (locs : List Loc) (ls : Array Slot), rec6 y1 y3 μ = some (r, u) → Wo E μ H → va_S (AE E) s.heap H locs → lv_has ls 5 [(0, .ref (E.1 89)), (1, .long y1), (3, .int y3)] → W0 p l e rmX9_digest s m args below meth c H locs (QcL E r u) E (F0 m 6 ls [])) (rec19 : Int64 → Int32 → Int32 → Mem → Option (Int64 × Mem)) (hrec19 : ∀ (y1 : Int64) (y3 : Int32) (y4 : Int32) (μ : Mem) (H : Heap) (locs : List Loc) (ls : Array Slot), rec19 y1 y3 y4 μ = some (r, u) → Wo E μ H → va_S (AE E) s.heap H locs → lv_has ls 5 [(0, .ref (E.1 89)), (1, .long y1), (3, .int y3), (4, .int y4)] → W0 p l e rmX9_digest s m args below meth c H locs (QcL E r u) E (F0 m 19 ls [])) (y1 : Int64) (y3 : Int32) (y4 : Int32) (μ : Mem) (H : Heap) (locs : List Loc) (ls : Array Slot) (hf : fX9_digest_19_b F  rec6 rec19 y1 y3 y4 μ = some (r, u)) (hW : Wo E μ H) (hS : va_S (AE E) s.heap H locs) (hl : lv_has ls 5 [(0, .ref (E.1 89)), (1, .long y1), (3, .int y3), (4, .int y4)]) : W0 p l e rmX9_digest s m args below meth c H locs (QcL E r u) E (F0 m 19 ls []) := by
  unfold fX9_digest_19_b at hf
  refine lv_iload X.1.1 X.1.2.1 dX9_digest_19 (lv_at hl 3 rfl) ?_
  refine lv_bipush (v := 6) X.1.1 X.1.2.1 dX9_digest_21 (by decide) ?_
  refine lv_icmp_ge (tgt := 47) X.1.1 X.1.2.1 dX9_digest_23 (by decide) (fun c23 => ?_) (fun c23 => ?_)
  · rw [if_pos c23] at hf
    refine lv_iinc (v := (y3 + 1)) (lv' := [(3, .int (y3 + 1)), (0, .ref (E.1 89)), (1, .long y1), (4, .int y4)]) X.1.1 X.1.2.1 dX9_digest_47 hl (k := 2) rfl rfl (by decide) rfl (fun ls hl => ?_)
    refine lv_goto (tgt := 6) X.1.1 X.1.2.1 dX9_digest_50 (by decide) ?_
    exact hrec6 y1 (y3 + 1) μ H locs ls hf hW hS (lv_sub hl [1, 2, 0] rfl)
  · rw [if_neg c23] at hf
    refine lv_ldc2 X.1.1 X.1.2.1 X.1.2.2.2.1 (X.1.2.2.2.2 _ (List.mem_cons_of_mem _ mw_5_51)) dX9_digest_26 ?_
    refine lv_lload_n X.1.1 X.1.2.1 dX9_digest_29 rfl (lv_at hl 1 rfl) ?_
    refine lv_lmul X.1.1 X.1.2.1 dX9_digest_30 ?_
    refine lv_aload_n X.1.1 X.1.2.1 dX9_digest_31 rfl (lv_at hl 0 rfl) ?_
    refine lv_iload_n X.1.1 X.1.2.1 dX9_digest_32 rfl (lv_at hl 2 rfl) ?_
    refine lv_iload X.1.1 X.1.2.1 dX9_digest_33 (lv_at hl 3 rfl) ?_
    refine e_vi (rest := [.long (31 * y1)]) (As := [.int y3, .int y4]) X hl.1 hW hS (C := RX9) (T := TX9) (N := 35) rfl (by decide) (ctfX9_of X.2.2.2.2 F y3 y4 μ) (cwV (rm := rmX9_of) 2 X.1.2.2.2.2 (gd_V mw_5_52 mw_4_99 mw_4_100 mw_1_11 mw_4_101) rfl rfl rfl (by decide +kernel) ⟨Nat.le_of_ble_eq_true rfl, Nat.le_of_ble_eq_true rfl⟩) rfl rfl (Nat.le_of_ble_eq_true rfl) dX9_digest_35 ⟨Nat.zero_le _, Nat.zero_le _⟩ hf (fun r5 m4 H locs hf hW hS => ?_)
    refine lv_i2l X.1.1 X.1.2.1 dX9_digest_38 rfl ?_
    refine lv_ladd X.1.1 X.1.2.1 dX9_digest_39 ?_
    refine lv_lstore_n (lv' := [(1, .long ((31 * y1) + r5.toInt64)), (0, .ref (E.1 89)), (3, .int y3), (4, .int y4)]) X.1.1 X.1.2.1 dX9_digest_40 rfl hl (by decide) rfl (fun ls hl => ?_)
    refine lv_iinc (v := (y4 + 1)) (lv' := [(4, .int (y4 + 1)), (1, .long ((31 * y1) + r5.toInt64)), (0, .ref (E.1 89)), (3, .int y3)]) X.1.1 X.1.2.1 dX9_digest_41 hl (k := 3) rfl rfl (by decide) rfl (fun ls hl => ?_)
    refine lv_goto (tgt := 19) X.1.1 X.1.2.1 dX9_digest_44 (by decide) ?_
    exact hrec19 ((31 * y1) + r5.toInt64) y3 (y4 + 1) m4 H locs ls hf hW hS (lv_sub hl [2, 1, 3, 0] rfl)
theorem wfX9_digest_19 {p : Program} {l : Launch} {e : Env} {s : State} {m : MethodId} {args : Array Value} {below : List Frame} {meth : Method} {c : Code} {E : Gv} {F : Nat}  {r : Int64} {u : Mem} (X : Fx p m c cX9_digest 5 s args (Cond.code yX9_digest cX9_digest 5 (some .long)) "OvenHouseModel" meth (some .long) E)  (rec6 : Int64 → Int32 → Mem → Option (Int64 × Mem)) (hrec6 : ∀ (y1 : Int64) (y3 : Int32) (μ : Mem) (H : Heap) (locs : List Loc) (ls : Array Slot), rec6 y1 y3 μ = some (r, u) → Wo E μ H → va_S (AE E) s.heap H locs → lv_has ls 5 [(0, .ref (E.1 89)), (1, .long y1), (3, .int y3)] → W0 p l e rmX9_digest s m args below meth c H locs (QcL E r u) E (F0 m 6 ls [])) (n : Nat) : ∀ (y1 : Int64) (y3 : Int32) (y4 : Int32) (μ : Mem) (H : Heap) (locs : List Loc) (ls : Array Slot) (_ : fX9_digest_19 F  rec6 n y1 y3 y4 μ = some (r, u)) (_ : Wo E μ H) (_ : va_S (AE E) s.heap H locs) (_ : lv_has ls 5 [(0, .ref (E.1 89)), (1, .long y1), (3, .int y3), (4, .int y4)]), W0 p l e rmX9_digest s m args below meth c H locs (QcL E r u) E (F0 m 19 ls []) := by
  induction n with
  | zero => intro y1 y3 y4 μ H locs ls hf hW hS hl; cases hf
  | succ n ih => intro y1 y3 y4 μ H locs ls hf hW hS hl; exact wfX9_digest_19_b X rec6 hrec6 _ ih y1 y3 y4 μ H locs ls hf hW hS hl
set_option maxRecDepth 100000 in
set_option maxHeartbeats 4000000 in
theorem wfX9_digest_87_b {p : Program} {l : Launch} {e : Env} {s : State} {m : MethodId} {args : Array Value} {below : List Frame} {meth : Method} {c : Code} {E : Gv} {F : Nat}  {r : Int64} {u : Mem} (X : Fx p m c cX9_digest 5 s args (Cond.code yX9_digest cX9_digest 5 (some .long)) "OvenHouseModel" meth (some .long) E)  (rec87 : Int64 → Int32 → Mem → Option (Int64 × Mem)) (hrec87 : ∀ (y1 : Int64) (y3 : Int32) (μ : Mem) (H : Heap) (locs : List Loc) (ls : Array Slot), rec87 y1 y3 μ = some (r, u) → Wo E μ H → va_S (AE E) s.heap H locs → lv_has ls 5 [(0, .ref (E.1 89)), (1, .long y1), (3, .int y3)] → W0 p l e rmX9_digest s m args below meth c H locs (QcL E r u) E (F0 m 87 ls [])) (y1 : Int64) (y3 : Int32) (μ : Mem) (H : Heap) (locs : List Loc) (ls : Array Slot) (hf : fX9_digest_87_b F  rec87 y1 y3 μ = some (r, u)) (hW : Wo E μ H) (hS : va_S (AE E) s.heap H locs) (hl : lv_has ls 5 [(0, .ref (E.1 89)), (1, .long y1), (3, .int y3)]) : W0 p l e rmX9_digest s m args below meth c H locs (QcL E r u) E (F0 m 87 ls []) := by
  unfold fX9_digest_87_b at hf
  refine lv_iload_n X.1.1 X.1.2.1 dX9_digest_87 rfl (lv_at hl 2 rfl) ?_
  refine lv_bipush (v := 8) X.1.1 X.1.2.1 dX9_digest_88 (by decide) ?_
  refine lv_icmp_ge (tgt := 125) X.1.1 X.1.2.1 dX9_digest_90 (by decide) (fun c90 => ?_) (fun c90 => ?_)
  · rw [if_pos c90] at hf
    refine lv_lload_n X.1.1 X.1.2.1 dX9_digest_125 rfl (lv_at hl 1 rfl) ?_
    exact e_lret X hW hS hf dX9_digest_126
  · rw [if_neg c90] at hf
    refine lv_ldc2 X.1.1 X.1.2.1 X.1.2.2.2.1 (X.1.2.2.2.2 _ (List.mem_cons_of_mem _ mw_5_51)) dX9_digest_93 ?_
    refine lv_ldc2 X.1.1 X.1.2.1 X.1.2.2.2.1 (X.1.2.2.2.2 _ (List.mem_cons_of_mem _ mw_5_51)) dX9_digest_96 ?_
    refine lv_lload_n X.1.1 X.1.2.1 dX9_digest_99 rfl (lv_at hl 1 rfl) ?_
    refine lv_lmul X.1.1 X.1.2.1 dX9_digest_100 ?_
    refine lv_aload_n X.1.1 X.1.2.1 dX9_digest_101 rfl (lv_at hl 0 rfl) ?_
    refine e_getr X hW (C := RX9) (T := TX9) (N := 35) (j := 16) rfl (by decide) inX9 (by decide) (by decide) rfl (t := 101) rfl rfl mw_3_185 dX9_digest_102 ?_
    refine lv_iload_n X.1.1 X.1.2.1 dX9_digest_105 rfl (lv_at hl 2 rfl) ?_
    refine e_ild X hW (by decide) rfl dX9_digest_106 hf (fun v6 hf => ?_)
    refine lv_i2l X.1.1 X.1.2.1 dX9_digest_107 rfl ?_
    refine lv_ladd X.1.1 X.1.2.1 dX9_digest_108 ?_
    refine lv_lmul X.1.1 X.1.2.1 dX9_digest_109 ?_
    refine lv_aload_n X.1.1 X.1.2.1 dX9_digest_110 rfl (lv_at hl 0 rfl) ?_
    refine e_getr X hW (C := RX9) (T := TX9) (N := 35) (j := 17) rfl (by decide) inX9 (by decide) (by decide) rfl (t := 102) rfl rfl mw_3_186 dX9_digest_111 ?_
    refine lv_iload_n X.1.1 X.1.2.1 dX9_digest_114 rfl (lv_at hl 2 rfl) ?_
    refine e_ild X hW (by decide) rfl dX9_digest_115 hf (fun v7 hf => ?_)
    refine lv_i2l X.1.1 X.1.2.1 dX9_digest_116 rfl ?_
    refine lv_ladd X.1.1 X.1.2.1 dX9_digest_117 ?_
    refine lv_lstore_n (lv' := [(1, .long ((31 * ((31 * y1) + v6.toInt64)) + v7.toInt64)), (0, .ref (E.1 89)), (3, .int y3)]) X.1.1 X.1.2.1 dX9_digest_118 rfl hl (by decide) rfl (fun ls hl => ?_)
    refine lv_iinc (v := (y3 + 1)) (lv' := [(3, .int (y3 + 1)), (1, .long ((31 * ((31 * y1) + v6.toInt64)) + v7.toInt64)), (0, .ref (E.1 89))]) X.1.1 X.1.2.1 dX9_digest_119 hl (k := 2) rfl rfl (by decide) rfl (fun ls hl => ?_)
    refine lv_goto (tgt := 87) X.1.1 X.1.2.1 dX9_digest_122 (by decide) ?_
    exact hrec87 ((31 * ((31 * y1) + v6.toInt64)) + v7.toInt64) (y3 + 1) μ H locs ls hf hW hS (lv_sub hl [2, 1, 0] rfl)
theorem wfX9_digest_87 {p : Program} {l : Launch} {e : Env} {s : State} {m : MethodId} {args : Array Value} {below : List Frame} {meth : Method} {c : Code} {E : Gv} {F : Nat}  {r : Int64} {u : Mem} (X : Fx p m c cX9_digest 5 s args (Cond.code yX9_digest cX9_digest 5 (some .long)) "OvenHouseModel" meth (some .long) E)  (n : Nat) : ∀ (y1 : Int64) (y3 : Int32) (μ : Mem) (H : Heap) (locs : List Loc) (ls : Array Slot) (_ : fX9_digest_87 F   n y1 y3 μ = some (r, u)) (_ : Wo E μ H) (_ : va_S (AE E) s.heap H locs) (_ : lv_has ls 5 [(0, .ref (E.1 89)), (1, .long y1), (3, .int y3)]), W0 p l e rmX9_digest s m args below meth c H locs (QcL E r u) E (F0 m 87 ls []) := by
  induction n with
  | zero => intro y1 y3 μ H locs ls hf hW hS hl; cases hf
  | succ n ih => intro y1 y3 μ H locs ls hf hW hS hl; exact wfX9_digest_87_b X  _ ih y1 y3 μ H locs ls hf hW hS hl
set_option maxRecDepth 100000 in
set_option maxHeartbeats 4000000 in
theorem wfX9_digest_55_b {p : Program} {l : Launch} {e : Env} {s : State} {m : MethodId} {args : Array Value} {below : List Frame} {meth : Method} {c : Code} {E : Gv} {F : Nat}  {r : Int64} {u : Mem} (X : Fx p m c cX9_digest 5 s args (Cond.code yX9_digest cX9_digest 5 (some .long)) "OvenHouseModel" meth (some .long) E)  (rec55 : Int64 → Int32 → Mem → Option (Int64 × Mem)) (hrec55 : ∀ (y1 : Int64) (y3 : Int32) (μ : Mem) (H : Heap) (locs : List Loc) (ls : Array Slot), rec55 y1 y3 μ = some (r, u) → Wo E μ H → va_S (AE E) s.heap H locs → lv_has ls 5 [(0, .ref (E.1 89)), (1, .long y1), (3, .int y3)] → W0 p l e rmX9_digest s m args below meth c H locs (QcL E r u) E (F0 m 55 ls [])) (y1 : Int64) (y3 : Int32) (μ : Mem) (H : Heap) (locs : List Loc) (ls : Array Slot) (hf : fX9_digest_55_b F  rec55 y1 y3 μ = some (r, u)) (hW : Wo E μ H) (hS : va_S (AE E) s.heap H locs) (hl : lv_has ls 5 [(0, .ref (E.1 89)), (1, .long y1), (3, .int y3)]) : W0 p l e rmX9_digest s m args below meth c H locs (QcL E r u) E (F0 m 55 ls []) := by
  unfold fX9_digest_55_b at hf
  refine lv_iload_n X.1.1 X.1.2.1 dX9_digest_55 rfl (lv_at hl 2 rfl) ?_
  refine lv_aload_n X.1.1 X.1.2.1 dX9_digest_56 rfl (lv_at hl 0 rfl) ?_
  refine e_getr X hW (C := RX9) (T := TX9) (N := 35) (j := 5) rfl (by decide) inX9 (by decide) (by decide) rfl (t := 94) rfl rfl mw_3_174 dX9_digest_57 ?_
  refine lv_iconst (v := 0) X.1.1 X.1.2.1 dX9_digest_60 (by decide) ?_
  refine e_ild X hW (by decide) rfl dX9_digest_61 hf (fun v2 hf => ?_)
  refine lv_icmp_ge (tgt := 85) X.1.1 X.1.2.1 dX9_digest_62 (by decide) (fun c62 => ?_) (fun c62 => ?_)
  · rw [if_pos c62] at hf
    refine lv_iconst (v := 0) X.1.1 X.1.2.1 dX9_digest_85 (by decide) ?_
    refine lv_istore_n (lv' := [(3, .int 0), (0, .ref (E.1 89)), (1, .long y1)]) X.1.1 X.1.2.1 dX9_digest_86 rfl hl (by decide) rfl (fun ls hl => ?_)
    exact wfX9_digest_87 X  F y1 0 μ H locs ls hf hW hS (lv_sub hl [1, 2, 0] rfl)
  · rw [if_neg c62] at hf
    refine lv_ldc2 X.1.1 X.1.2.1 X.1.2.2.2.1 (X.1.2.2.2.2 _ (List.mem_cons_of_mem _ mw_5_51)) dX9_digest_65 ?_
    refine lv_lload_n X.1.1 X.1.2.1 dX9_digest_68 rfl (lv_at hl 1 rfl) ?_
    refine lv_lmul X.1.1 X.1.2.1 dX9_digest_69 ?_
    refine lv_aload_n X.1.1 X.1.2.1 dX9_digest_70 rfl (lv_at hl 0 rfl) ?_
    refine e_getr X hW (C := RX9) (T := TX9) (N := 35) (j := 10) rfl (by decide) inX9 (by decide) (by decide) rfl (t := 99) rfl rfl mw_3_179 dX9_digest_71 ?_
    refine lv_iload_n X.1.1 X.1.2.1 dX9_digest_74 rfl (lv_at hl 2 rfl) ?_
    refine e_ild X hW (by decide) rfl dX9_digest_75 hf (fun v3 hf => ?_)
    refine lv_i2l X.1.1 X.1.2.1 dX9_digest_76 rfl ?_
    refine lv_ladd X.1.1 X.1.2.1 dX9_digest_77 ?_
    refine lv_lstore_n (lv' := [(1, .long ((31 * y1) + v3.toInt64)), (0, .ref (E.1 89)), (3, .int y3)]) X.1.1 X.1.2.1 dX9_digest_78 rfl hl (by decide) rfl (fun ls hl => ?_)
    refine lv_iinc (v := (y3 + 1)) (lv' := [(3, .int (y3 + 1)), (1, .long ((31 * y1) + v3.toInt64)), (0, .ref (E.1 89))]) X.1.1 X.1.2.1 dX9_digest_79 hl (k := 2) rfl rfl (by decide) rfl (fun ls hl => ?_)
    refine lv_goto (tgt := 55) X.1.1 X.1.2.1 dX9_digest_82 (by decide) ?_
    exact hrec55 ((31 * y1) + v3.toInt64) (y3 + 1) μ H locs ls hf hW hS (lv_sub hl [2, 1, 0] rfl)
theorem wfX9_digest_55 {p : Program} {l : Launch} {e : Env} {s : State} {m : MethodId} {args : Array Value} {below : List Frame} {meth : Method} {c : Code} {E : Gv} {F : Nat}  {r : Int64} {u : Mem} (X : Fx p m c cX9_digest 5 s args (Cond.code yX9_digest cX9_digest 5 (some .long)) "OvenHouseModel" meth (some .long) E)  (n : Nat) : ∀ (y1 : Int64) (y3 : Int32) (μ : Mem) (H : Heap) (locs : List Loc) (ls : Array Slot) (_ : fX9_digest_55 F   n y1 y3 μ = some (r, u)) (_ : Wo E μ H) (_ : va_S (AE E) s.heap H locs) (_ : lv_has ls 5 [(0, .ref (E.1 89)), (1, .long y1), (3, .int y3)]), W0 p l e rmX9_digest s m args below meth c H locs (QcL E r u) E (F0 m 55 ls []) := by
  induction n with
  | zero => intro y1 y3 μ H locs ls hf hW hS hl; cases hf
  | succ n ih => intro y1 y3 μ H locs ls hf hW hS hl; exact wfX9_digest_55_b X  _ ih y1 y3 μ H locs ls hf hW hS hl
set_option maxRecDepth 100000 in
set_option maxHeartbeats 4000000 in
theorem wfX9_digest_6_b {p : Program} {l : Launch} {e : Env} {s : State} {m : MethodId} {args : Array Value} {below : List Frame} {meth : Method} {c : Code} {E : Gv} {F : Nat}  {r : Int64} {u : Mem} (X : Fx p m c cX9_digest 5 s args (Cond.code yX9_digest cX9_digest 5 (some .long)) "OvenHouseModel" meth (some .long) E)  (rec6 : Int64 → Int32 → Mem → Option (Int64 × Mem)) (hrec6 : ∀ (y1 : Int64) (y3 : Int32) (μ : Mem) (H : Heap) (locs : List Loc) (ls : Array Slot), rec6 y1 y3 μ = some (r, u) → Wo E μ H → va_S (AE E) s.heap H locs → lv_has ls 5 [(0, .ref (E.1 89)), (1, .long y1), (3, .int y3)] → W0 p l e rmX9_digest s m args below meth c H locs (QcL E r u) E (F0 m 6 ls [])) (y1 : Int64) (y3 : Int32) (μ : Mem) (H : Heap) (locs : List Loc) (ls : Array Slot) (hf : fX9_digest_6_b F  rec6 y1 y3 μ = some (r, u)) (hW : Wo E μ H) (hS : va_S (AE E) s.heap H locs) (hl : lv_has ls 5 [(0, .ref (E.1 89)), (1, .long y1), (3, .int y3)]) : W0 p l e rmX9_digest s m args below meth c H locs (QcL E r u) E (F0 m 6 ls []) := by
  unfold fX9_digest_6_b at hf
  refine lv_iload_n X.1.1 X.1.2.1 dX9_digest_6 rfl (lv_at hl 2 rfl) ?_
  refine lv_aload_n X.1.1 X.1.2.1 dX9_digest_7 rfl (lv_at hl 0 rfl) ?_
  refine e_getr X hW (C := RX9) (T := TX9) (N := 35) (j := 5) rfl (by decide) inX9 (by decide) (by decide) rfl (t := 94) rfl rfl mw_3_174 dX9_digest_8 ?_
  refine lv_iconst (v := 0) X.1.1 X.1.2.1 dX9_digest_11 (by decide) ?_
  refine e_ild X hW (by decide) rfl dX9_digest_12 hf (fun v1 hf => ?_)
  refine lv_icmp_ge (tgt := 53) X.1.1 X.1.2.1 dX9_digest_13 (by decide) (fun c13 => ?_) (fun c13 => ?_)
  · rw [if_pos c13] at hf
    refine lv_iconst (v := 0) X.1.1 X.1.2.1 dX9_digest_53 (by decide) ?_
    refine lv_istore_n (lv' := [(3, .int 0), (0, .ref (E.1 89)), (1, .long y1)]) X.1.1 X.1.2.1 dX9_digest_54 rfl hl (by decide) rfl (fun ls hl => ?_)
    exact wfX9_digest_55 X  F y1 0 μ H locs ls hf hW hS (lv_sub hl [1, 2, 0] rfl)
  · rw [if_neg c13] at hf
    refine lv_iconst (v := 0) X.1.1 X.1.2.1 dX9_digest_16 (by decide) ?_
    refine lv_istore (lv' := [(4, .int 0), (0, .ref (E.1 89)), (1, .long y1), (3, .int y3)]) X.1.1 X.1.2.1 dX9_digest_17 hl (by decide) rfl (fun ls hl => ?_)
    exact wfX9_digest_19 X rec6 hrec6 F y1 y3 0 μ H locs ls hf hW hS (lv_sub hl [1, 2, 3, 0] rfl)
theorem wfX9_digest_6 {p : Program} {l : Launch} {e : Env} {s : State} {m : MethodId} {args : Array Value} {below : List Frame} {meth : Method} {c : Code} {E : Gv} {F : Nat}  {r : Int64} {u : Mem} (X : Fx p m c cX9_digest 5 s args (Cond.code yX9_digest cX9_digest 5 (some .long)) "OvenHouseModel" meth (some .long) E)  (n : Nat) : ∀ (y1 : Int64) (y3 : Int32) (μ : Mem) (H : Heap) (locs : List Loc) (ls : Array Slot) (_ : fX9_digest_6 F   n y1 y3 μ = some (r, u)) (_ : Wo E μ H) (_ : va_S (AE E) s.heap H locs) (_ : lv_has ls 5 [(0, .ref (E.1 89)), (1, .long y1), (3, .int y3)]), W0 p l e rmX9_digest s m args below meth c H locs (QcL E r u) E (F0 m 6 ls []) := by
  induction n with
  | zero => intro y1 y3 μ H locs ls hf hW hS hl; cases hf
  | succ n ih => intro y1 y3 μ H locs ls hf hW hS hl; exact wfX9_digest_6_b X  _ ih y1 y3 μ H locs ls hf hW hS hl
set_option maxRecDepth 100000 in
set_option maxHeartbeats 4000000 in
theorem ctfX9_digest {l : Launch} {E : Gv} (hD : Do E) (F : Nat)  (μ : Mem) : CtL l yX9_digest ((Cond.code yX9_digest cX9_digest 5 (some .long)) :: GG) rmX9_digest E [.ref (E.1 89)] μ (fX9_digest F μ) := by
  intro r u hf
  refine of_entry (cc := cX9_digest) (maxL := 5) (ret := (some .long)) (by decide +kernel) rfl hD (Nat.le_of_ble_eq_true rfl) (fun p e s m args below meth c X H locs hW hS ls hl => ?_)
  have hl : lv_has ls 5 [(0, .ref (E.1 89))] := hl
  unfold fX9_digest at hf
  refine lv_ldc2 X.1.1 X.1.2.1 X.1.2.2.2.1 (X.1.2.2.2.2 _ (List.mem_cons_of_mem _ mw_5_50)) dX9_digest_0 ?_
  refine lv_lstore_n (lv' := [(1, .long 17), (0, .ref (E.1 89))]) X.1.1 X.1.2.1 dX9_digest_3 rfl hl (by decide) rfl (fun ls hl => ?_)
  refine lv_iconst (v := 0) X.1.1 X.1.2.1 dX9_digest_4 (by decide) ?_
  refine lv_istore_n (lv' := [(3, .int 0), (1, .long 17), (0, .ref (E.1 89))]) X.1.1 X.1.2.1 dX9_digest_5 rfl hl (by decide) rfl (fun ls hl => ?_)
  exact wfX9_digest_6 X  F 17 0 μ H locs ls hf hW hS (lv_sub hl [2, 1, 0] rfl)
