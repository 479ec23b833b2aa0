-- OvenHouse$Rings.nameRing
def rmX5_nameRing : Room := { frames := 0, cells := 0, slots := 0, locals := 0 }
set_option maxRecDepth 100000 in
set_option maxHeartbeats 4000000 in
theorem wfX5_nameRing_5_b {p : Program} {l : Launch} {e : Env} {s : State} {m : MethodId} {args : Array Value} {below : List Frame} {meth : Method} {c : Code} {E : Gv} {F : Nat}  {u : Mem} (X : Fx p m c cX5_nameRing 5 s args (Cond.code yX5_nameRing cX5_nameRing 5 none) "OvenHouse$Rings" meth none E)  (rec5 : Int32 → Int32 → Int32 → Mem → Option Mem) (hrec5 : ∀ (y2 : Int32) (y3 : Int32) (y4 : Int32) (μ : Mem) (H : Heap) (locs : List Loc) (ls : Array Slot), rec5 y2 y3 y4 μ = some u → Wo E μ H → va_S (AE E) s.heap H locs → lv_has ls 5 [(0, .ref (E.1 61)), (2, .int y2), (3, .int y3), (4, .int y4)] → W0 p l e rmX5_nameRing s m args below meth c H locs (QcN E u) E (F0 m 5 ls [])) (y2 : Int32) (y3 : Int32) (y4 : Int32) (μ : Mem) (H : Heap) (locs : List Loc) (ls : Array Slot) (hf : fX5_nameRing_5_b F  rec5 y2 y3 y4 μ = some u) (hW : Wo E μ H) (hS : va_S (AE E) s.heap H locs) (hl : lv_has ls 5 [(0, .ref (E.1 61)), (2, .int y2), (3, .int y3), (4, .int y4)]) : W0 p l e rmX5_nameRing s m args below meth c H locs (QcN E u) E (F0 m 5 ls []) := by
  unfold fX5_nameRing_5_b at hf
  refine lv_iload X.1.1 X.1.2.1 dX5_nameRing_5 (lv_at hl 3 rfl) ?_
  refine lv_aload_n X.1.1 X.1.2.1 dX5_nameRing_7 rfl (lv_at hl 0 rfl) ?_
  refine e_geti X hW (C := RX5) (T := TX5) (N := 15) (j := 9) rfl (by decide) inX5 (by decide) (by decide) rfl rfl mw_1_177 dX5_nameRing_8 ?_
  refine lv_icmp_ge (tgt := 44) X.1.1 X.1.2.1 dX5_nameRing_11 (by decide) (fun c11 => ?_) (fun c11 => ?_)
  · rw [if_pos c11] at hf
    exact e_vret X hW hS hf dX5_nameRing_44
  · rw [if_neg c11] at hf
    refine lv_aload_n X.1.1 X.1.2.1 dX5_nameRing_14 rfl (lv_at hl 0 rfl) ?_
    refine e_getr X hW (C := RX5) (T := TX5) (N := 15) (j := 5) rfl (by decide) inX5 (by decide) (by decide) rfl (t := 67) rfl rfl mw_1_173 dX5_nameRing_15 ?_
    refine lv_iload_n X.1.1 X.1.2.1 dX5_nameRing_18 rfl (lv_at hl 2 rfl) ?_
    refine e_ild X hW (by decide) rfl dX5_nameRing_19 hf (fun v1 hf => ?_)
    refine lv_iconst (v := (-1)) X.1.1 X.1.2.1 dX5_nameRing_20 (by decide) ?_
    refine lv_icmp_ne (tgt := 44) X.1.1 X.1.2.1 dX5_nameRing_21 (by decide) (fun c21 => ?_) (fun c21 => ?_)
    · rw [if_neg c21] at hf
      exact e_vret X hW hS hf dX5_nameRing_44
    · rw [if_pos c21] at hf
      refine lv_aload_n X.1.1 X.1.2.1 dX5_nameRing_24 rfl (lv_at hl 0 rfl) ?_
      refine e_getr X hW (C := RX5) (T := TX5) (N := 15) (j := 5) rfl (by decide) inX5 (by decide) (by decide) rfl (t := 67) rfl rfl mw_1_173 dX5_nameRing_25 ?_
      refine lv_iload_n X.1.1 X.1.2.1 dX5_nameRing_28 rfl (lv_at hl 2 rfl) ?_
      refine lv_iload_n X.1.1 X.1.2.1 dX5_nameRing_29 rfl (lv_at hl 1 rfl) ?_
      refine e_ist X hW hS (by decide) rfl dX5_nameRing_30 hf (fun m2 H locs hf hW hS => ?_)
      refine lv_aload_n X.1.1 X.1.2.1 dX5_nameRing_31 rfl (lv_at hl 0 rfl) ?_
      refine e_getr X hW (C := RX5) (T := TX5) (N := 15) (j := 4) rfl (by decide) inX5 (by decide) (by decide) rfl (t := 66) rfl rfl mw_1_171 dX5_nameRing_32 ?_
      refine lv_iload_n X.1.1 X.1.2.1 dX5_nameRing_35 rfl (lv_at hl 2 rfl) ?_
      refine e_ild X hW (by decide) rfl dX5_nameRing_36 hf (fun v3 hf => ?_)
      refine lv_istore_n (lv' := [(3, .int v3), (0, .ref (E.1 61)), (2, .int y2), (4, .int y4)]) X.1.1 X.1.2.1 dX5_nameRing_37 rfl hl (by decide) rfl (fun ls hl => ?_)
      refine lv_iinc (v := (y4 + 1)) (lv' := [(4, .int (y4 + 1)), (3, .int v3), (0, .ref (E.1 61)), (2, .int y2)]) X.1.1 X.1.2.1 dX5_nameRing_38 hl (k := 3) rfl rfl (by decide) rfl (fun ls hl => ?_)
      refine lv_goto (tgt := 5) X.1.1 X.1.2.1 dX5_nameRing_41 (by decide) ?_
      exact hrec5 y2 v3 (y4 + 1) m2 H locs ls hf hW hS (lv_sub hl [2, 3, 1, 0] rfl)
theorem wfX5_nameRing_5 {p : Program} {l : Launch} {e : Env} {s : State} {m : MethodId} {args : Array Value} {below : List Frame} {meth : Method} {c : Code} {E : Gv} {F : Nat}  {u : Mem} (X : Fx p m c cX5_nameRing 5 s args (Cond.code yX5_nameRing cX5_nameRing 5 none) "OvenHouse$Rings" meth none E)  (n : Nat) : ∀ (y2 : Int32) (y3 : Int32) (y4 : Int32) (μ : Mem) (H : Heap) (locs : List Loc) (ls : Array Slot) (_ : fX5_nameRing_5 F   n y2 y3 y4 μ = some u) (_ : Wo E μ H) (_ : va_S (AE E) s.heap H locs) (_ : lv_has ls 5 [(0, .ref (E.1 61)), (2, .int y2), (3, .int y3), (4, .int y4)]), W0 p l e rmX5_nameRing s m args below meth c H locs (QcN E u) E (F0 m 5 ls []) := by
  induction n with
  | zero => intro y2 y3 y4 μ H locs ls hf hW hS hl; cases hf
  | succ n ih => intro y2 y3 y4 μ H locs ls hf hW hS hl; exact wfX5_nameRing_5_b X  _ ih y2 y3 y4 μ H locs ls hf hW hS hl
set_option maxRecDepth 100000 in
set_option maxHeartbeats 4000000 in
theorem ctfX5_nameRing {l : Launch} {E : Gv} (hD : Do E) (F : Nat) (x1 : Int32) (x2 : Int32)  (μ : Mem) : CtV l yX5_nameRing ((Cond.code yX5_nameRing cX5_nameRing 5 none) :: GG) rmX5_nameRing E [.ref (E.1 61), .int x1, .int x2] μ (fX5_nameRing F x1 x2 μ) := by
  intro u hf
  refine of_entry (cc := cX5_nameRing) (maxL := 5) (ret := none) (by decide +kernel) rfl hD (Nat.le_of_ble_eq_true rfl) (fun p e s m args below meth c X H locs hW hS ls hl => ?_)
  have hl : lv_has ls 5 [(0, .ref (E.1 61)), (1, .int x1), (2, .int x2)] := hl
  unfold fX5_nameRing at hf
  refine lv_iload_n X.1.1 X.1.2.1 dX5_nameRing_0 rfl (lv_at hl 1 rfl) ?_
  refine lv_istore_n (lv' := [(3, .int x1), (0, .ref (E.1 61)), (1, .int x1), (2, .int x2)]) X.1.1 X.1.2.1 dX5_nameRing_1 rfl hl (by decide) rfl (fun ls hl => ?_)
  refine lv_iconst (v := 0) X.1.1 X.1.2.1 dX5_nameRing_2 (by decide) ?_
  refine lv_istore (lv' := [(4, .int 0), (3, .int x1), (0, .ref (E.1 61)), (1, .int x1), (2, .int x2)]) X.1.1 X.1.2.1 dX5_nameRing_3 hl (by decide) rfl (fun ls hl => ?_)
  exact wfX5_nameRing_5 X  F x2 x1 0 μ H locs ls hf hW hS (lv_sub hl [2, 4, 1, 0] rfl)
-- OvenHouse$Rings.nameRings
def rmX5_nameRings : Room := { frames := 1, cells := 0, slots := 0, locals := 24 }
set_option maxRecDepth 100000 in
set_option maxHeartbeats 4000000 in
theorem wfX5_nameRings_15_b {p : Program} {l : Launch} {e : Env} {s : State} {m : MethodId} {args : Array Value} {below : List Frame} {meth : Method} {c : Code} {E : Gv} {F : Nat}  {u : Mem} (X : Fx p m c cX5_nameRings 2 s args (Cond.code yX5_nameRings cX5_nameRings 2 none) "OvenHouse$Rings" meth none E)  (rec15 : Int32 → Mem → Option Mem) (hrec15 : ∀ (y1 : Int32) (μ : Mem) (H : Heap) (locs : List Loc) (ls : Array Slot), rec15 y1 μ = some u → Wo E μ H → va_S (AE E) s.heap H locs → lv_has ls 2 [(0, .ref (E.1 61)), (1, .int y1)] → W0 p l e rmX5_nameRings s m args below meth c H locs (QcN E u) E (F0 m 15 ls [])) (y1 : Int32) (μ : Mem) (H : Heap) (locs : List Loc) (ls : Array Slot) (hf : fX5_nameRings_15_b F  rec15 y1 μ = some u) (hW : Wo E μ H) (hS : va_S (AE E) s.heap H locs) (hl : lv_has ls 2 [(0, .ref (E.1 61)), (1, .int y1)]) : W0 p l e rmX5_nameRings s m args below meth c H locs (QcN E u) E (F0 m 15 ls []) := by
  unfold fX5_nameRings_15_b at hf
  refine lv_iload_n X.1.1 X.1.2.1 dX5_nameRings_15 rfl (lv_at hl 1 rfl) ?_
  refine lv_aload_n X.1.1 X.1.2.1 dX5_nameRings_16 rfl (lv_at hl 0 rfl) ?_
  refine e_geti X hW (C := RX5) (T := TX5) (N := 15) (j := 9) rfl (by decide) inX5 (by decide) (by decide) rfl rfl mw_1_177 dX5_nameRings_17 ?_
  refine lv_icmp_ge (tgt := 58) X.1.1 X.1.2.1 dX5_nameRings_20 (by decide) (fun c20 => ?_) (fun c20 => ?_)
  · rw [if_pos c20] at hf
    exact e_vret X hW hS hf dX5_nameRings_58
  · rw [if_neg c20] at hf
    refine lv_aload_n X.1.1 X.1.2.1 dX5_nameRings_23 rfl (lv_at hl 0 rfl) ?_
    refine e_getr X hW (C := RX5) (T := TX5) (N := 15) (j := 5) rfl (by decide) inX5 (by decide) (by decide) rfl (t := 67) rfl rfl mw_1_173 dX5_nameRings_24 ?_
    refine lv_iload_n X.1.1 X.1.2.1 dX5_nameRings_27 rfl (lv_at hl 1 rfl) ?_
    refine e_ild X hW (by decide) rfl dX5_nameRings_28 hf (fun v3 hf => ?_)
    refine lv_iconst (v := (-1)) X.1.1 X.1.2.1 dX5_nameRings_29 (by decide) ?_
    refine lv_icmp_ne (tgt := 52) X.1.1 X.1.2.1 dX5_nameRings_30 (by decide) (fun c30 => ?_) (fun c30 => ?_)
    · rw [if_neg c30] at hf
      refine lv_iinc (v := (y1 + 1)) (lv' := [(1, .int (y1 + 1)), (0, .ref (E.1 61))]) X.1.1 X.1.2.1 dX5_nameRings_52 hl (k := 1) rfl rfl (by decide) rfl (fun ls hl => ?_)
      refine lv_goto (tgt := 15) X.1.1 X.1.2.1 dX5_nameRings_55 (by decide) ?_
      exact hrec15 (y1 + 1) μ H locs ls hf hW hS (lv_sub hl [1, 0] rfl)
    · rw [if_pos c30] at hf
      refine lv_aload_n X.1.1 X.1.2.1 dX5_nameRings_33 rfl (lv_at hl 0 rfl) ?_
      refine lv_iload_n X.1.1 X.1.2.1 dX5_nameRings_34 rfl (lv_at hl 1 rfl) ?_
      refine lv_aload_n X.1.1 X.1.2.1 dX5_nameRings_35 rfl (lv_at hl 0 rfl) ?_
      refine e_geti X hW (C := RX5) (T := TX5) (N := 15) (j := 11) rfl (by decide) inX5 (by decide) (by decide) rfl rfl mw_1_181 dX5_nameRings_36 ?_
      refine e_vv (rest := []) (As := [.int y1, .int (μ 61 11)]) X hl.1 hW hS (C := RX5) (T := TX5) (N := 15) rfl (by decide) (ctfX5_nameRing X.2.2.2.2 F y1 (μ 61 11) μ) (cwV (rm := rmX5_nameRing) 2 X.1.2.2.2.2 (gd_V mw_3_42 mw_3_44 mw_0_4 mw_1_8 mw_3_45) rfl rfl rfl (by decide +kernel) ⟨Nat.le_of_ble_eq_true rfl, Nat.le_of_ble_eq_true rfl⟩) rfl rfl (Nat.le_of_ble_eq_true rfl) dX5_nameRings_39 ⟨Nat.zero_le _, Nat.zero_le _⟩ hf (fun m4 H locs hf hW hS => ?_)
      refine lv_aload_n X.1.1 X.1.2.1 dX5_nameRings_42 rfl (lv_at hl 0 rfl) ?_
      refine lv_dup X.1.1 X.1.2.1 dX5_nameRings_43 rfl ?_
      refine e_geti X hW (C := RX5) (T := TX5) (N := 15) (j := 11) rfl (by decide) inX5 (by decide) (by decide) rfl rfl mw_1_181 dX5_nameRings_44 ?_
      refine lv_iconst (v := 1) X.1.1 X.1.2.1 dX5_nameRings_47 (by decide) ?_
      refine lv_iadd X.1.1 X.1.2.1 dX5_nameRings_48 ?_
      refine e_put X hW hS (C := RX5) (T := TX5) (N := 15) (j := 11) (tyF := tyX5) rfl (by decide) inX5 tyX5_ok nmX5 (by decide) (by decide) rfl rfl mw_1_181 rfl rfl rfl dX5_nameRings_49 hf (fun m5 H locs hf hW hS => ?_)
      refine lv_iinc (v := (y1 + 1)) (lv' := [(1, .int (y1 + 1)), (0, .ref (E.1 61))]) X.1.1 X.1.2.1 dX5_nameRings_52 hl (k := 1) rfl rfl (by decide) rfl (fun ls hl => ?_)
      refine lv_goto (tgt := 15) X.1.1 X.1.2.1 dX5_nameRings_55 (by decide) ?_
      exact hrec15 (y1 + 1) m5 H locs ls hf hW hS (lv_sub hl [1, 0] rfl)
theorem wfX5_nameRings_15 {p : Program} {l : Launch} {e : Env} {s : State} {m : MethodId} {args : Array Value} {below : List Frame} {meth : Method} {c : Code} {E : Gv} {F : Nat}  {u : Mem} (X : Fx p m c cX5_nameRings 2 s args (Cond.code yX5_nameRings cX5_nameRings 2 none) "OvenHouse$Rings" meth none E)  (n : Nat) : ∀ (y1 : Int32) (μ : Mem) (H : Heap) (locs : List Loc) (ls : Array Slot) (_ : fX5_nameRings_15 F   n y1 μ = some u) (_ : Wo E μ H) (_ : va_S (AE E) s.heap H locs) (_ : lv_has ls 2 [(0, .ref (E.1 61)), (1, .int y1)]), W0 p l e rmX5_nameRings s m args below meth c H locs (QcN E u) E (F0 m 15 ls []) := by
  induction n with
  | zero => intro y1 μ H locs ls hf hW hS hl; cases hf
  | succ n ih => intro y1 μ H locs ls hf hW hS hl; exact wfX5_nameRings_15_b X  _ ih y1 μ H locs ls hf hW hS hl
set_option maxRecDepth 100000 in
set_option maxHeartbeats 4000000 in
theorem ctfX5_nameRings {l : Launch} {E : Gv} (hD : Do E) (F : Nat)  (μ : Mem) : CtV l yX5_nameRings ((Cond.code yX5_nameRings cX5_nameRings 2 none) :: GG) rmX5_nameRings E [.ref (E.1 61)] μ (fX5_nameRings F μ) := by
  intro u hf
  refine of_entry (cc := cX5_nameRings) (maxL := 2) (ret := none) (by decide +kernel) rfl hD (Nat.le_of_ble_eq_true rfl) (fun p e s m args below meth c X H locs hW hS ls hl => ?_)
  have hl : lv_has ls 2 [(0, .ref (E.1 61))] := hl
  unfold fX5_nameRings at hf
  refine lv_aload_n X.1.1 X.1.2.1 dX5_nameRings_0 rfl (lv_at hl 0 rfl) ?_
  refine e_getr X hW (C := RX5) (T := TX5) (N := 15) (j := 5) rfl (by decide) inX5 (by decide) (by decide) rfl (t := 67) rfl rfl mw_1_173 dX5_nameRings_1 ?_
  refine lv_iconst (v := (-1)) X.1.1 X.1.2.1 dX5_nameRings_4 (by decide) ?_
  refine e_sv (rest := []) (As := [.ref (E.1 67), .int (-1)]) X hl.1 hW hS (ctfJ7_fill_53178 X.2.2.2.2 F 67 (-1) ⟨(by decide), rfl⟩ μ) ⟨callB_of (rm := rmJ7_fill_53178) 2 X.1.2.2.2.2 (gd_N mw_1_32) rfl rfl rfl (X.1.2.2.2.2 _ (List.mem_cons_of_mem _ mw_1_3)) (X.1.2.2.2.2 _ (List.mem_cons_of_mem _ mw_3_41)) (by decide +kernel) ⟨Nat.le_of_ble_eq_true rfl, Nat.le_of_ble_eq_true rfl⟩, X.1.2.2.2.2 _ (List.mem_cons_of_mem _ mw_1_31)⟩ rfl rfl (Nat.le_of_ble_eq_true rfl) dX5_nameRings_5 ⟨Nat.zero_le _, Nat.zero_le _⟩ hf (fun m1 H locs hf hW hS => ?_)
  refine lv_aload_n X.1.1 X.1.2.1 dX5_nameRings_8 rfl (lv_at hl 0 rfl) ?_
  refine lv_iconst (v := 0) X.1.1 X.1.2.1 dX5_nameRings_9 (by decide) ?_
  refine e_put X hW hS (C := RX5) (T := TX5) (N := 15) (j := 11) (tyF := tyX5) rfl (by decide) inX5 tyX5_ok nmX5 (by decide) (by decide) rfl rfl mw_1_181 rfl rfl rfl dX5_nameRings_10 hf (fun m2 H locs hf hW hS => ?_)
  refine lv_iconst (v := 0) X.1.1 X.1.2.1 dX5_nameRings_13 (by decide) ?_
  refine lv_istore_n (lv' := [(1, .int 0), (0, .ref (E.1 61))]) X.1.1 X.1.2.1 dX5_nameRings_14 rfl hl (by decide) rfl (fun ls hl => ?_)
  exact wfX5_nameRings_15 X  F 0 m2 H locs ls hf hW hS (lv_sub hl [1, 0] rfl)
-- OvenHouse$Rings.weightOf
def rmX5_weightOf : Room := { frames := 3, cells := 0, slots := 0, locals := 62 }
set_option maxRecDepth 100000 in
set_option maxHeartbeats 4000000 in
theorem ctfX5_weightOf {l : Launch} {E : Gv} (hD : Do E) (F : Nat) (x1 : Int32) (k2 : Nat) (h2 : isPr k2) (μ : Mem) : CtI l yX5_weightOf ((Cond.code yX5_weightOf cX5_weightOf 5 (some .int)) :: GG) rmX5_weightOf E [.ref (E.1 61), .int x1, .ref (E.1 k2)] μ (fX5_weightOf F x1 k2 μ) := by
  intro r u hf
  refine of_entry (cc := cX5_weightOf) (maxL := 5) (ret := (some .int)) (by decide +kernel) rfl hD (Nat.le_of_ble_eq_true rfl) (fun p e s m args below meth c X H locs hW hS ls hl => ?_)
  have hl : lv_has ls 5 [(0, .ref (E.1 61)), (1, .int x1), (2, .ref (E.1 k2))] := hl
  unfold fX5_weightOf at hf
  refine lv_aload_n X.1.1 X.1.2.1 dX5_weightOf_0 rfl (lv_at hl 0 rfl) ?_
  refine e_getr X hW (C := RX5) (T := TX5) (N := 15) (j := 1) rfl (by decide) inX5 (by decide) (by decide) rfl (t := 63) rfl rfl mw_1_167 dX5_weightOf_1 ?_
  refine lv_aload_n X.1.1 X.1.2.1 dX5_weightOf_4 rfl (lv_at hl 0 rfl) ?_
  refine e_getr X hW (C := RX5) (T := TX5) (N := 15) (j := 2) rfl (by decide) inX5 (by decide) (by decide) rfl (t := 64) rfl rfl mw_1_169 dX5_weightOf_5 ?_
  refine lv_iload_n X.1.1 X.1.2.1 dX5_weightOf_8 rfl (lv_at hl 1 rfl) ?_
  refine e_ild X hW (by decide) rfl dX5_weightOf_9 hf (fun v1 hf => ?_)
  refine e_ild X hW (by decide) rfl dX5_weightOf_10 hf (fun v2 hf => ?_)
  refine lv_aload_n X.1.1 X.1.2.1 dX5_weightOf_11 rfl (lv_at hl 0 rfl) ?_
  refine e_getr X hW (C := RX5) (T := TX5) (N := 15) (j := 0) rfl (by decide) inX5 (by decide) (by decide) rfl (t := 62) rfl rfl mw_1_165 dX5_weightOf_12 ?_
  refine lv_aload_n X.1.1 X.1.2.1 dX5_weightOf_15 rfl (lv_at hl 0 rfl) ?_
  refine e_getr X hW (C := RX5) (T := TX5) (N := 15) (j := 3) rfl (by decide) inX5 (by decide) (by decide) rfl (t := 65) rfl rfl mw_1_170 dX5_weightOf_16 ?_
  refine lv_iload_n X.1.1 X.1.2.1 dX5_weightOf_19 rfl (lv_at hl 1 rfl) ?_
  refine e_ild X hW (by decide) rfl dX5_weightOf_20 hf (fun v3 hf => ?_)
  refine e_ild X hW (by decide) rfl dX5_weightOf_21 hf (fun v4 hf => ?_)
  refine e_max X hl.1 mw_3_50 mw_2_198 mw_1_13 mw_2_199 ⟨Nat.le_of_ble_eq_true rfl, Nat.le_of_ble_eq_true rfl⟩ ⟨Nat.zero_le _, Nat.zero_le _⟩ dX5_weightOf_22 ?_
  refine lv_istore_n (lv' := [(3, .int (imax v2 v4)), (0, .ref (E.1 61)), (1, .int x1), (2, .ref (E.1 k2))]) X.1.1 X.1.2.1 dX5_weightOf_25 rfl hl (by decide) rfl (fun ls hl => ?_)
  refine lv_aload_n X.1.1 X.1.2.1 dX5_weightOf_26 rfl (lv_at hl 1 rfl) ?_
  refine e_getr X hW (C := RX5) (T := TX5) (N := 15) (j := 1) rfl (by decide) inX5 (by decide) (by decide) rfl (t := 63) rfl rfl mw_1_167 dX5_weightOf_27 ?_
  refine lv_aload_n X.1.1 X.1.2.1 dX5_weightOf_30 rfl (lv_at hl 1 rfl) ?_
  refine e_getr X hW (C := RX5) (T := TX5) (N := 15) (j := 2) rfl (by decide) inX5 (by decide) (by decide) rfl (t := 64) rfl rfl mw_1_169 dX5_weightOf_31 ?_
  refine lv_iload_n X.1.1 X.1.2.1 dX5_weightOf_34 rfl (lv_at hl 2 rfl) ?_
  refine lv_iconst (v := 1) X.1.1 X.1.2.1 dX5_weightOf_35 (by decide) ?_
  refine lv_iadd X.1.1 X.1.2.1 dX5_weightOf_36 ?_
  refine e_ild X hW (by decide) rfl dX5_weightOf_37 hf (fun v5 hf => ?_)
  refine e_ild X hW (by decide) rfl dX5_weightOf_38 hf (fun v6 hf => ?_)
  refine lv_aload_n X.1.1 X.1.2.1 dX5_weightOf_39 rfl (lv_at hl 1 rfl) ?_
  refine e_getr X hW (C := RX5) (T := TX5) (N := 15) (j := 0) rfl (by decide) inX5 (by decide) (by decide) rfl (t := 62) rfl rfl mw_1_165 dX5_weightOf_40 ?_
  refine lv_aload_n X.1.1 X.1.2.1 dX5_weightOf_43 rfl (lv_at hl 1 rfl) ?_
  refine e_getr X hW (C := RX5) (T := TX5) (N := 15) (j := 3) rfl (by decide) inX5 (by decide) (by decide) rfl (t := 65) rfl rfl mw_1_170 dX5_weightOf_44 ?_
  refine lv_iload_n X.1.1 X.1.2.1 dX5_weightOf_47 rfl (lv_at hl 2 rfl) ?_
  refine lv_iconst (v := 1) X.1.1 X.1.2.1 dX5_weightOf_48 (by decide) ?_
  refine lv_iadd X.1.1 X.1.2.1 dX5_weightOf_49 ?_
  refine e_ild X hW (by decide) rfl dX5_weightOf_50 hf (fun v7 hf => ?_)
  refine e_ild X hW (by decide) rfl dX5_weightOf_51 hf (fun v8 hf => ?_)
  refine e_min X hl.1 mw_3_51 mw_2_122 mw_1_13 mw_2_123 ⟨Nat.le_of_ble_eq_true rfl, Nat.le_of_ble_eq_true rfl⟩ ⟨Nat.zero_le _, Nat.zero_le _⟩ dX5_weightOf_52 ?_
  refine lv_istore (lv' := [(4, .int (imin v6 v8)), (3, .int (imax v2 v4)), (0, .ref (E.1 61)), (1, .int x1), (2, .ref (E.1 k2))]) X.1.1 X.1.2.1 dX5_weightOf_55 hl (by decide) rfl (fun ls hl => ?_)
  refine lv_iload_n X.1.1 X.1.2.1 dX5_weightOf_57 rfl (lv_at hl 1 rfl) ?_
  refine lv_iload X.1.1 X.1.2.1 dX5_weightOf_58 (lv_at hl 0 rfl) ?_
  refine lv_icmp_ge (tgt := 81) X.1.1 X.1.2.1 dX5_weightOf_60 (by decide) (fun c60 => ?_) (fun c60 => ?_)
  · rw [if_pos c60] at hf
    refine lv_iconst (v := 0) X.1.1 X.1.2.1 dX5_weightOf_81 (by decide) ?_
    exact e_iret X hW hS hf dX5_weightOf_82
  · rw [if_neg c60] at hf
    refine lv_aload_n X.1.1 X.1.2.1 dX5_weightOf_63 rfl (lv_at hl 4 rfl) ?_
    refine lv_iload_n X.1.1 X.1.2.1 dX5_weightOf_64 rfl (lv_at hl 1 rfl) ?_
    refine lv_iload X.1.1 X.1.2.1 dX5_weightOf_65 (lv_at hl 0 rfl) ?_
    refine e_vi (rest := []) (As := [.int (imax v2 v4), .int (imin v6 v8)]) X hl.1 hW hS (C := RX4) (T := TX4) (N := 2) (by rw [h2.2.1]; rfl) h2.1 (ctfX4_going X.2.2.2.2 F k2 (imax v2 v4) (imin v6 v8) h2 μ) (cwV (rm := rmX4_going) 2 X.1.2.2.2.2 (gd_V mw_3_28 mw_3_29 mw_3_30 mw_1_10 mw_3_31) rfl rfl rfl (by decide +kernel) ⟨Nat.le_of_ble_eq_true rfl, Nat.le_of_ble_eq_true rfl⟩) rfl rfl (Nat.le_of_ble_eq_true rfl) dX5_weightOf_67 ⟨Nat.zero_le _, Nat.zero_le _⟩ hf (fun r10 m9 H locs hf hW hS => ?_)
    refine lv_aload_n X.1.1 X.1.2.1 dX5_weightOf_70 rfl (lv_at hl 4 rfl) ?_
    refine lv_iload X.1.1 X.1.2.1 dX5_weightOf_71 (lv_at hl 0 rfl) ?_
    refine lv_iload_n X.1.1 X.1.2.1 dX5_weightOf_73 rfl (lv_at hl 1 rfl) ?_
    refine e_vi (rest := [.int r10]) (As := [.int (imin v6 v8), .int (imax v2 v4)]) X hl.1 hW hS (C := RX4) (T := TX4) (N := 2) (by rw [h2.2.1]; rfl) h2.1 (ctfX4_going X.2.2.2.2 F k2 (imin v6 v8) (imax v2 v4) h2 m9) (cwV (rm := rmX4_going) 2 X.1.2.2.2.2 (gd_V mw_3_28 mw_3_29 mw_3_30 mw_1_10 mw_3_31) rfl rfl rfl (by decide +kernel) ⟨Nat.le_of_ble_eq_true rfl, Nat.le_of_ble_eq_true rfl⟩) rfl rfl (Nat.le_of_ble_eq_true rfl) dX5_weightOf_74 ⟨Nat.zero_le _, Nat.zero_le _⟩ hf (fun r12 m11 H locs hf hW hS => ?_)
    refine lv_iadd X.1.1 X.1.2.1 dX5_weightOf_77 ?_
    refine lv_goto (tgt := 82) X.1.1 X.1.2.1 dX5_weightOf_78 (by decide) ?_
    exact e_iret X hW hS hf dX5_weightOf_82
-- OvenHouse$Rings.rename
def rmX5_rename : Room := { frames := 0, cells := 0, slots := 0, locals := 0 }
set_option maxRecDepth 100000 in
set_option maxHeartbeats 4000000 in
theorem wfX5_rename_2_b {p : Program} {l : Launch} {e : Env} {s : State} {m : MethodId} {args : Array Value} {below : List Frame} {meth : Method} {c : Code} {E : Gv} {F : Nat}  {u : Mem} (X : Fx p m c cX5_rename 4 s args (Cond.code yX5_rename cX5_rename 4 none) "OvenHouse$Rings" meth none E)  (rec2 : Int32 → Int32 → Int32 → Mem → Option Mem) (hrec2 : ∀ (y1 : Int32) (y2 : Int32) (y3 : Int32) (μ : Mem) (H : Heap) (locs : List Loc) (ls : Array Slot), rec2 y1 y2 y3 μ = some u → Wo E μ H → va_S (AE E) s.heap H locs → lv_has ls 4 [(0, .ref (E.1 61)), (1, .int y1), (2, .int y2), (3, .int y3)] → W0 p l e rmX5_rename s m args below meth c H locs (QcN E u) E (F0 m 2 ls [])) (y1 : Int32) (y2 : Int32) (y3 : Int32) (μ : Mem) (H : Heap) (locs : List Loc) (ls : Array Slot) (hf : fX5_rename_2_b F  rec2 y1 y2 y3 μ = some u) (hW : Wo E μ H) (hS : va_S (AE E) s.heap H locs) (hl : lv_has ls 4 [(0, .ref (E.1 61)), (1, .int y1), (2, .int y2), (3, .int y3)]) : W0 p l e rmX5_rename s m args below meth c H locs (QcN E u) E (F0 m 2 ls []) := by
  unfold fX5_rename_2_b at hf
  refine lv_iload_n X.1.1 X.1.2.1 dX5_rename_2 rfl (lv_at hl 3 rfl) ?_
  refine lv_aload_n X.1.1 X.1.2.1 dX5_rename_3 rfl (lv_at hl 0 rfl) ?_
  refine e_geti X hW (C := RX5) (T := TX5) (N := 15) (j := 9) rfl (by decide) inX5 (by decide) (by decide) rfl rfl mw_1_177 dX5_rename_4 ?_
  refine lv_icmp_ge (tgt := 33) X.1.1 X.1.2.1 dX5_rename_7 (by decide) (fun c7 => ?_) (fun c7 => ?_)
  · rw [if_pos c7] at hf
    exact e_vret X hW hS hf dX5_rename_33
  · rw [if_neg c7] at hf
    refine lv_aload_n X.1.1 X.1.2.1 dX5_rename_10 rfl (lv_at hl 0 rfl) ?_
    refine e_getr X hW (C := RX5) (T := TX5) (N := 15) (j := 5) rfl (by decide) inX5 (by decide) (by decide) rfl (t := 67) rfl rfl mw_1_173 dX5_rename_11 ?_
    refine lv_iload_n X.1.1 X.1.2.1 dX5_rename_14 rfl (lv_at hl 3 rfl) ?_
    refine e_ild X hW (by decide) rfl dX5_rename_15 hf (fun v1 hf => ?_)
    refine lv_iload_n X.1.1 X.1.2.1 dX5_rename_16 rfl (lv_at hl 1 rfl) ?_
    refine lv_icmp_ne (tgt := 27) X.1.1 X.1.2.1 dX5_rename_17 (by decide) (fun c17 => ?_) (fun c17 => ?_)
    · rw [if_neg c17] at hf
      refine lv_iinc (v := (y3 + 1)) (lv' := [(3, .int (y3 + 1)), (0, .ref (E.1 61)), (1, .int y1), (2, .int y2)]) X.1.1 X.1.2.1 dX5_rename_27 hl (k := 3) rfl rfl (by decide) rfl (fun ls hl => ?_)
      refine lv_goto (tgt := 2) X.1.1 X.1.2.1 dX5_rename_30 (by decide) ?_
      exact hrec2 y1 y2 (y3 + 1) μ H locs ls hf hW hS (lv_sub hl [1, 2, 3, 0] rfl)
    · rw [if_pos c17] at hf
      refine lv_aload_n X.1.1 X.1.2.1 dX5_rename_20 rfl (lv_at hl 0 rfl) ?_
      refine e_getr X hW (C := RX5) (T := TX5) (N := 15) (j := 5) rfl (by decide) inX5 (by decide) (by decide) rfl (t := 67) rfl rfl mw_1_173 dX5_rename_21 ?_
      refine lv_iload_n X.1.1 X.1.2.1 dX5_rename_24 rfl (lv_at hl 3 rfl) ?_
      refine lv_iload_n X.1.1 X.1.2.1 dX5_rename_25 rfl (lv_at hl 2 rfl) ?_
      refine e_ist X hW hS (by decide) rfl dX5_rename_26 hf (fun m2 H locs hf hW hS => ?_)
      refine lv_iinc (v := (y3 + 1)) (lv' := [(3, .int (y3 + 1)), (0, .ref (E.1 61)), (1, .int y1), (2, .int y2)]) X.1.1 X.1.2.1 dX5_rename_27 hl (k := 3) rfl rfl (by decide) rfl (fun ls hl => ?_)
      refine lv_goto (tgt := 2) X.1.1 X.1.2.1 dX5_rename_30 (by decide) ?_
      exact hrec2 y1 y2 (y3 + 1) m2 H locs ls hf hW hS (lv_sub hl [1, 2, 3, 0] rfl)
theorem wfX5_rename_2 {p : Program} {l : Launch} {e : Env} {s : State} {m : MethodId} {args : Array Value} {below : List Frame} {meth : Method} {c : Code} {E : Gv} {F : Nat}  {u : Mem} (X : Fx p m c cX5_rename 4 s args (Cond.code yX5_rename cX5_rename 4 none) "OvenHouse$Rings" meth none E)  (n : Nat) : ∀ (y1 : Int32) (y2 : Int32) (y3 : Int32) (μ : Mem) (H : Heap) (locs : List Loc) (ls : Array Slot) (_ : fX5_rename_2 F   n y1 y2 y3 μ = some u) (_ : Wo E μ H) (_ : va_S (AE E) s.heap H locs) (_ : lv_has ls 4 [(0, .ref (E.1 61)), (1, .int y1), (2, .int y2), (3, .int y3)]), W0 p l e rmX5_rename s m args below meth c H locs (QcN E u) E (F0 m 2 ls []) := by
  induction n with
  | zero => intro y1 y2 y3 μ H locs ls hf hW hS hl; cases hf
  | succ n ih => intro y1 y2 y3 μ H locs ls hf hW hS hl; exact wfX5_rename_2_b X  _ ih y1 y2 y3 μ H locs ls hf hW hS hl
set_option maxRecDepth 100000 in
set_option maxHeartbeats 4000000 in
theorem ctfX5_rename {l : Launch} {E : Gv} (hD : Do E) (F : Nat) (x1 : Int32) (x2 : Int32)  (μ : Mem) : CtV l yX5_rename ((Cond.code yX5_rename cX5_rename 4 none) :: GG) rmX5_rename E [.ref (E.1 61), .int x1, .int x2] μ (fX5_rename F x1 x2 μ) := by
  intro u hf
  refine of_entry (cc := cX5_rename) (maxL := 4) (ret := none) (by decide +kernel) rfl hD (Nat.le_of_ble_eq_true rfl) (fun p e s m args below meth c X H locs hW hS ls hl => ?_)
  have hl : lv_has ls 4 [(0, .ref (E.1 61)), (1, .int x1), (2, .int x2)] := hl
  unfold fX5_rename at hf
  refine lv_iconst (v := 0) X.1.1 X.1.2.1 dX5_rename_0 (by decide) ?_
  refine lv_istore_n (lv' := [(3, .int 0), (0, .ref (E.1 61)), (1, .int x1), (2, .int x2)]) X.1.1 X.1.2.1 dX5_rename_1 rfl hl (by decide) rfl (fun ls hl => ?_)
  exact wfX5_rename_2 X  F x1 x2 0 μ H locs ls hf hW hS (lv_sub hl [1, 2, 3, 0] rfl)
-- OvenHouse$Rings.takeJoins
def rmX5_takeJoins : Room := { frames := 1, cells := 0, slots := 0, locals := 23 }
set_option maxRecDepth 100000 in
set_option maxHeartbeats 4000000 in
theorem wfX5_takeJoins_72 {p : Program} {l : Launch} {e : Env} {s : State} {m : MethodId} {args : Array Value} {below : List Frame} {meth : Method} {c : Code} {E : Gv} {F : Nat}  {u : Mem} (X : Fx p m c cX5_takeJoins 5 s args (Cond.code yX5_takeJoins cX5_takeJoins 5 none) "OvenHouse$Rings" meth none E)  (rec12 : Int32 → Mem → Option Mem) (hrec12 : ∀ (y1 : Int32) (μ : Mem) (H : Heap) (locs : List Loc) (ls : Array Slot), rec12 y1 μ = some u → Wo E μ H → va_S (AE E) s.heap H locs → lv_has ls 5 [(0, .ref (E.1 61)), (1, .int y1)] → W0 p l e rmX5_takeJoins s m args below meth c H locs (QcN E u) E (F0 m 12 ls [])) (y1 : Int32) (y2 : Int32) (y3 : Int32) (y4 : Int32) (z0 : Int32) (z1 : Int32) (μ : Mem) (H : Heap) (locs : List Loc) (ls : Array Slot) (hf : fX5_takeJoins_72 F  rec12 y1 y2 y3 y4 z0 z1 μ = some u) (hW : Wo E μ H) (hS : va_S (AE E) s.heap H locs) (hl : lv_has ls 5 [(0, .ref (E.1 61)), (1, .int y1), (2, .int y2), (3, .int y3), (4, .int y4)]) : W0 p l e rmX5_takeJoins s m args below meth c H locs (QcN E u) E (F0 m 72 ls [.int z0, .int z1, .ref (E.1 70)]) := by
  unfold fX5_takeJoins_72 at hf
  refine e_zst X hW hS (by decide) rfl dX5_takeJoins_72 hf (fun m8 H locs hf hW hS => ?_)
  refine lv_aload_n X.1.1 X.1.2.1 dX5_takeJoins_73 rfl (lv_at hl 0 rfl) ?_
  refine e_getr X hW (C := RX5) (T := TX5) (N := 15) (j := 8) rfl (by decide) inX5 (by decide) (by decide) rfl (t := 70) rfl rfl mw_1_176 dX5_takeJoins_74 ?_
  refine lv_iload_n X.1.1 X.1.2.1 dX5_takeJoins_77 rfl (lv_at hl 2 rfl) ?_
  refine e_zld X hW (by decide) rfl dX5_takeJoins_78 hf (fun v9 hf => ?_)
  refine lv_if_eq (tgt := 114) X.1.1 X.1.2.1 dX5_takeJoins_79 (by decide) (fun c79 => ?_) (fun c79 => ?_)
  · rw [if_pos c79] at hf
    refine lv_iinc (v := (y1 + 1)) (lv' := [(1, .int (y1 + 1)), (0, .ref (E.1 61)), (2, .int y2), (3, .int y3), (4, .int y4)]) X.1.1 X.1.2.1 dX5_takeJoins_114 hl (k := 1) rfl rfl (by decide) rfl (fun ls hl => ?_)
    refine lv_goto (tgt := 12) X.1.1 X.1.2.1 dX5_takeJoins_117 (by decide) ?_
    exact hrec12 (y1 + 1) m8 H locs ls hf hW hS (lv_sub hl [1, 0] rfl)
  · rw [if_neg c79] at hf
    refine lv_aload_n X.1.1 X.1.2.1 dX5_takeJoins_82 rfl (lv_at hl 0 rfl) ?_
    refine lv_dup X.1.1 X.1.2.1 dX5_takeJoins_83 rfl ?_
    refine e_geti X hW (C := RX5) (T := TX5) (N := 15) (j := 13) rfl (by decide) inX5 (by decide) (by decide) rfl rfl mw_1_185 dX5_takeJoins_84 ?_
    refine lv_iconst (v := 1) X.1.1 X.1.2.1 dX5_takeJoins_87 (by decide) ?_
    refine lv_iadd X.1.1 X.1.2.1 dX5_takeJoins_88 ?_
    refine e_put X hW hS (C := RX5) (T := TX5) (N := 15) (j := 13) (tyF := tyX5) rfl (by decide) inX5 tyX5_ok nmX5 (by decide) (by decide) rfl rfl mw_1_185 rfl rfl rfl dX5_takeJoins_89 hf (fun m10 H locs hf hW hS => ?_)
    refine lv_aload_n X.1.1 X.1.2.1 dX5_takeJoins_92 rfl (lv_at hl 0 rfl) ?_
    refine lv_dup X.1.1 X.1.2.1 dX5_takeJoins_93 rfl ?_
    refine e_geti X hW (C := RX5) (T := TX5) (N := 15) (j := 14) rfl (by decide) inX5 (by decide) (by decide) rfl rfl mw_1_187 dX5_takeJoins_94 ?_
    refine lv_aload_n X.1.1 X.1.2.1 dX5_takeJoins_97 rfl (lv_at hl 0 rfl) ?_
    refine e_getr X hW (C := RX5) (T := TX5) (N := 15) (j := 6) rfl (by decide) inX5 (by decide) (by decide) rfl (t := 68) rfl rfl mw_1_174 dX5_takeJoins_98 ?_
    refine lv_iload_n X.1.1 X.1.2.1 dX5_takeJoins_101 rfl (lv_at hl 2 rfl) ?_
    refine e_ild X hW (by decide) rfl dX5_takeJoins_102 hf (fun v11 hf => ?_)
    refine lv_iadd X.1.1 X.1.2.1 dX5_takeJoins_103 ?_
    refine e_put X hW hS (C := RX5) (T := TX5) (N := 15) (j := 14) (tyF := tyX5) rfl (by decide) inX5 tyX5_ok nmX5 (by decide) (by decide) rfl rfl mw_1_187 rfl rfl rfl dX5_takeJoins_104 hf (fun m12 H locs hf hW hS => ?_)
    refine lv_aload_n X.1.1 X.1.2.1 dX5_takeJoins_107 rfl (lv_at hl 0 rfl) ?_
    refine lv_iload X.1.1 X.1.2.1 dX5_takeJoins_108 (lv_at hl 4 rfl) ?_
    refine lv_iload_n X.1.1 X.1.2.1 dX5_takeJoins_110 rfl (lv_at hl 3 rfl) ?_
    refine e_vv (rest := []) (As := [.int y4, .int y3]) X hl.1 hW hS (C := RX5) (T := TX5) (N := 15) rfl (by decide) (ctfX5_rename X.2.2.2.2 F y4 y3 m12) (cwV (rm := rmX5_rename) 2 X.1.2.2.2.2 (gd_V mw_3_56 mw_3_58 mw_0_7 mw_1_8 mw_3_59) rfl rfl rfl (by decide +kernel) ⟨Nat.le_of_ble_eq_true rfl, Nat.le_of_ble_eq_true rfl⟩) rfl rfl (Nat.le_of_ble_eq_true rfl) dX5_takeJoins_111 ⟨Nat.zero_le _, Nat.zero_le _⟩ hf (fun m13 H locs hf hW hS => ?_)
    refine lv_iinc (v := (y1 + 1)) (lv' := [(1, .int (y1 + 1)), (0, .ref (E.1 61)), (2, .int y2), (3, .int y3), (4, .int y4)]) X.1.1 X.1.2.1 dX5_takeJoins_114 hl (k := 1) rfl rfl (by decide) rfl (fun ls hl => ?_)
    refine lv_goto (tgt := 12) X.1.1 X.1.2.1 dX5_takeJoins_117 (by decide) ?_
    exact hrec12 (y1 + 1) m13 H locs ls hf hW hS (lv_sub hl [1, 0] rfl)
set_option maxRecDepth 100000 in
set_option maxHeartbeats 4000000 in
theorem wfX5_takeJoins_12_b {p : Program} {l : Launch} {e : Env} {s : State} {m : MethodId} {args : Array Value} {below : List Frame} {meth : Method} {c : Code} {E : Gv} {F : Nat}  {u : Mem} (X : Fx p m c cX5_takeJoins 5 s args (Cond.code yX5_takeJoins cX5_takeJoins 5 none) "OvenHouse$Rings" meth none E)  (rec12 : Int32 → Mem → Option Mem) (hrec12 : ∀ (y1 : Int32) (μ : Mem) (H : Heap) (locs : List Loc) (ls : Array Slot), rec12 y1 μ = some u → Wo E μ H → va_S (AE E) s.heap H locs → lv_has ls 5 [(0, .ref (E.1 61)), (1, .int y1)] → W0 p l e rmX5_takeJoins s m args below meth c H locs (QcN E u) E (F0 m 12 ls [])) (y1 : Int32) (μ : Mem) (H : Heap) (locs : List Loc) (ls : Array Slot) (hf : fX5_takeJoins_12_b F  rec12 y1 μ = some u) (hW : Wo E μ H) (hS : va_S (AE E) s.heap H locs) (hl : lv_has ls 5 [(0, .ref (E.1 61)), (1, .int y1)]) : W0 p l e rmX5_takeJoins s m args below meth c H locs (QcN E u) E (F0 m 12 ls []) := by
  unfold fX5_takeJoins_12_b at hf
  refine lv_iload_n X.1.1 X.1.2.1 dX5_takeJoins_12 rfl (lv_at hl 1 rfl) ?_
  refine lv_iconst (v := 1) X.1.1 X.1.2.1 dX5_takeJoins_13 (by decide) ?_
  refine lv_iadd X.1.1 X.1.2.1 dX5_takeJoins_14 ?_
  refine lv_aload_n X.1.1 X.1.2.1 dX5_takeJoins_15 rfl (lv_at hl 0 rfl) ?_
  refine e_geti X hW (C := RX5) (T := TX5) (N := 15) (j := 9) rfl (by decide) inX5 (by decide) (by decide) rfl rfl mw_1_177 dX5_takeJoins_16 ?_
  refine lv_icmp_ge (tgt := 120) X.1.1 X.1.2.1 dX5_takeJoins_19 (by decide) (fun c19 => ?_) (fun c19 => ?_)
  · rw [if_pos c19] at hf
    exact e_vret X hW hS hf dX5_takeJoins_120
  · rw [if_neg c19] at hf
    refine lv_aload_n X.1.1 X.1.2.1 dX5_takeJoins_22 rfl (lv_at hl 0 rfl) ?_
    refine e_getr X hW (C := RX5) (T := TX5) (N := 15) (j := 7) rfl (by decide) inX5 (by decide) (by decide) rfl (t := 69) rfl rfl mw_1_175 dX5_takeJoins_23 ?_
    refine lv_iload_n X.1.1 X.1.2.1 dX5_takeJoins_26 rfl (lv_at hl 1 rfl) ?_
    refine e_ild X hW (by decide) rfl dX5_takeJoins_27 hf (fun v3 hf => ?_)
    refine lv_istore_n (lv' := [(2, .int v3), (0, .ref (E.1 61)), (1, .int y1)]) X.1.1 X.1.2.1 dX5_takeJoins_28 rfl hl (by decide) rfl (fun ls hl => ?_)
    refine lv_aload_n X.1.1 X.1.2.1 dX5_takeJoins_29 rfl (lv_at hl 1 rfl) ?_
    refine e_getr X hW (C := RX5) (T := TX5) (N := 15) (j := 5) rfl (by decide) inX5 (by decide) (by decide) rfl (t := 67) rfl rfl mw_1_173 dX5_takeJoins_30 ?_
    refine lv_aload_n X.1.1 X.1.2.1 dX5_takeJoins_33 rfl (lv_at hl 1 rfl) ?_
    refine e_getr X hW (C := RX5) (T := TX5) (N := 15) (j := 2) rfl (by decide) inX5 (by decide) (by decide) rfl (t := 64) rfl rfl mw_1_169 dX5_takeJoins_34 ?_
    refine lv_iload_n X.1.1 X.1.2.1 dX5_takeJoins_37 rfl (lv_at hl 0 rfl) ?_
    refine e_ild X hW (by decide) rfl dX5_takeJoins_38 hf (fun v4 hf => ?_)
    refine e_ild X hW (by decide) rfl dX5_takeJoins_39 hf (fun v5 hf => ?_)
    refine lv_istore_n (lv' := [(3, .int v5), (2, .int v3), (0, .ref (E.1 61)), (1, .int y1)]) X.1.1 X.1.2.1 dX5_takeJoins_40 rfl hl (by decide) rfl (fun ls hl => ?_)
    refine lv_aload_n X.1.1 X.1.2.1 dX5_takeJoins_41 rfl (lv_at hl 2 rfl) ?_
    refine e_getr X hW (C := RX5) (T := TX5) (N := 15) (j := 5) rfl (by decide) inX5 (by decide) (by decide) rfl (t := 67) rfl rfl mw_1_173 dX5_takeJoins_42 ?_
    refine lv_aload_n X.1.1 X.1.2.1 dX5_takeJoins_45 rfl (lv_at hl 2 rfl) ?_
    refine e_getr X hW (C := RX5) (T := TX5) (N := 15) (j := 2) rfl (by decide) inX5 (by decide) (by decide) rfl (t := 64) rfl rfl mw_1_169 dX5_takeJoins_46 ?_
    refine lv_iload_n X.1.1 X.1.2.1 dX5_takeJoins_49 rfl (lv_at hl 1 rfl) ?_
    refine lv_iconst (v := 1) X.1.1 X.1.2.1 dX5_takeJoins_50 (by decide) ?_
    refine lv_iadd X.1.1 X.1.2.1 dX5_takeJoins_51 ?_
    refine e_ild X hW (by decide) rfl dX5_takeJoins_52 hf (fun v6 hf => ?_)
    refine e_ild X hW (by decide) rfl dX5_takeJoins_53 hf (fun v7 hf => ?_)
    refine lv_istore (lv' := [(4, .int v7), (3, .int v5), (2, .int v3), (0, .ref (E.1 61)), (1, .int y1)]) X.1.1 X.1.2.1 dX5_takeJoins_54 hl (by decide) rfl (fun ls hl => ?_)
    refine lv_aload_n X.1.1 X.1.2.1 dX5_takeJoins_56 rfl (lv_at hl 3 rfl) ?_
    refine e_getr X hW (C := RX5) (T := TX5) (N := 15) (j := 8) rfl (by decide) inX5 (by decide) (by decide) rfl (t := 70) rfl rfl mw_1_176 dX5_takeJoins_57 ?_
    refine lv_iload_n X.1.1 X.1.2.1 dX5_takeJoins_60 rfl (lv_at hl 2 rfl) ?_
    refine lv_iload_n X.1.1 X.1.2.1 dX5_takeJoins_61 rfl (lv_at hl 1 rfl) ?_
    refine lv_iload X.1.1 X.1.2.1 dX5_takeJoins_62 (lv_at hl 0 rfl) ?_
    refine lv_icmp_eq (tgt := 71) X.1.1 X.1.2.1 dX5_takeJoins_64 (by decide) (fun c64 => ?_) (fun c64 => ?_)
    · rw [if_pos c64] at hf
      refine lv_iconst (v := 0) X.1.1 X.1.2.1 dX5_takeJoins_71 (by decide) ?_
      exact wfX5_takeJoins_72 X rec12 hrec12 y1 v3 v5 v7 0 v3 μ H locs ls hf hW hS (lv_sub hl [3, 4, 2, 1, 0] rfl)
    · rw [if_neg c64] at hf
      refine lv_iconst (v := 1) X.1.1 X.1.2.1 dX5_takeJoins_67 (by decide) ?_
      refine lv_goto (tgt := 72) X.1.1 X.1.2.1 dX5_takeJoins_68 (by decide) ?_
      exact wfX5_takeJoins_72 X rec12 hrec12 y1 v3 v5 v7 1 v3 μ H locs ls hf hW hS (lv_sub hl [3, 4, 2, 1, 0] rfl)
theorem wfX5_takeJoins_12 {p : Program} {l : Launch} {e : Env} {s : State} {m : MethodId} {args : Array Value} {below : List Frame} {meth : Method} {c : Code} {E : Gv} {F : Nat}  {u : Mem} (X : Fx p m c cX5_takeJoins 5 s args (Cond.code yX5_takeJoins cX5_takeJoins 5 none) "OvenHouse$Rings" meth none E)  (n : Nat) : ∀ (y1 : Int32) (μ : Mem) (H : Heap) (locs : List Loc) (ls : Array Slot) (_ : fX5_takeJoins_12 F   n y1 μ = some u) (_ : Wo E μ H) (_ : va_S (AE E) s.heap H locs) (_ : lv_has ls 5 [(0, .ref (E.1 61)), (1, .int y1)]), W0 p l e rmX5_takeJoins s m args below meth c H locs (QcN E u) E (F0 m 12 ls []) := by
  induction n with
  | zero => intro y1 μ H locs ls hf hW hS hl; cases hf
  | succ n ih => intro y1 μ H locs ls hf hW hS hl; exact wfX5_takeJoins_12_b X  _ ih y1 μ H locs ls hf hW hS hl
set_option maxRecDepth 100000 in
set_option maxHeartbeats 4000000 in
theorem ctfX5_takeJoins {l : Launch} {E : Gv} (hD : Do E) (F : Nat)  (μ : Mem) : CtV l yX5_takeJoins ((Cond.code yX5_takeJoins cX5_takeJoins 5 none) :: GG) rmX5_takeJoins E [.ref (E.1 61)] μ (fX5_takeJoins F μ) := by
  intro u hf
  refine of_entry (cc := cX5_takeJoins) (maxL := 5) (ret := none) (by decide +kernel) rfl hD (Nat.le_of_ble_eq_true rfl) (fun p e s m args below meth c X H locs hW hS ls hl => ?_)
  have hl : lv_has ls 5 [(0, .ref (E.1 61))] := hl
  unfold fX5_takeJoins at hf
  refine lv_aload_n X.1.1 X.1.2.1 dX5_takeJoins_0 rfl (lv_at hl 0 rfl) ?_
  refine lv_iconst (v := 0) X.1.1 X.1.2.1 dX5_takeJoins_1 (by decide) ?_
  refine e_put X hW hS (C := RX5) (T := TX5) (N := 15) (j := 13) (tyF := tyX5) rfl (by decide) inX5 tyX5_ok nmX5 (by decide) (by decide) rfl rfl mw_1_185 rfl rfl rfl dX5_takeJoins_2 hf (fun m1 H locs hf hW hS => ?_)
  refine lv_aload_n X.1.1 X.1.2.1 dX5_takeJoins_5 rfl (lv_at hl 0 rfl) ?_
  refine lv_iconst (v := 0) X.1.1 X.1.2.1 dX5_takeJoins_6 (by decide) ?_
  refine e_put X hW hS (C := RX5) (T := TX5) (N := 15) (j := 14) (tyF := tyX5) rfl (by decide) inX5 tyX5_ok nmX5 (by decide) (by decide) rfl rfl mw_1_187 rfl rfl rfl dX5_takeJoins_7 hf (fun m2 H locs hf hW hS => ?_)
  refine lv_iconst (v := 0) X.1.1 X.1.2.1 dX5_takeJoins_10 (by decide) ?_
  refine lv_istore_n (lv' := [(1, .int 0), (0, .ref (E.1 61))]) X.1.1 X.1.2.1 dX5_takeJoins_11 rfl hl (by decide) rfl (fun ls hl => ?_)
  exact wfX5_takeJoins_12 X  F 0 m2 H locs ls hf hW hS (lv_sub hl [1, 0] rfl)
-- OvenHouse$Rings.endsAbove
def rmX5_endsAbove : Room := { frames := 0, cells := 0, slots := 0, locals := 0 }
set_option maxRecDepth 100000 in
set_option maxHeartbeats 4000000 in
theorem ctfX5_endsAbove {l : Launch} {E : Gv} (hD : Do E) (F : Nat) (x1 : Int32)  (μ : Mem) : CtI l yX5_endsAbove ((Cond.code yX5_endsAbove cX5_endsAbove 2 (some .boolean)) :: GG) rmX5_endsAbove E [.ref (E.1 61), .int x1] μ (fX5_endsAbove F x1 μ) := by
  intro r u hf
  refine of_entry (cc := cX5_endsAbove) (maxL := 2) (ret := (some .boolean)) (by decide +kernel) rfl hD (Nat.le_of_ble_eq_true rfl) (fun p e s m args below meth c X H locs hW hS ls hl => ?_)
  have hl : lv_has ls 2 [(0, .ref (E.1 61)), (1, .int x1)] := hl
  unfold fX5_endsAbove at hf
  refine lv_aload_n X.1.1 X.1.2.1 dX5_endsAbove_0 rfl (lv_at hl 0 rfl) ?_
  refine e_getr X hW (C := RX5) (T := TX5) (N := 15) (j := 1) rfl (by decide) inX5 (by decide) (by decide) rfl (t := 63) rfl rfl mw_1_167 dX5_endsAbove_1 ?_
  refine lv_aload_n X.1.1 X.1.2.1 dX5_endsAbove_4 rfl (lv_at hl 0 rfl) ?_
  refine e_getr X hW (C := RX5) (T := TX5) (N := 15) (j := 2) rfl (by decide) inX5 (by decide) (by decide) rfl (t := 64) rfl rfl mw_1_169 dX5_endsAbove_5 ?_
  refine lv_iload_n X.1.1 X.1.2.1 dX5_endsAbove_8 rfl (lv_at hl 1 rfl) ?_
  refine e_ild X hW (by decide) rfl dX5_endsAbove_9 hf (fun v1 hf => ?_)
  refine e_ild X hW (by decide) rfl dX5_endsAbove_10 hf (fun v2 hf => ?_)
  refine lv_aload_n X.1.1 X.1.2.1 dX5_endsAbove_11 rfl (lv_at hl 0 rfl) ?_
  refine e_getr X hW (C := RX5) (T := TX5) (N := 15) (j := 0) rfl (by decide) inX5 (by decide) (by decide) rfl (t := 62) rfl rfl mw_1_165 dX5_endsAbove_12 ?_
  refine lv_aload_n X.1.1 X.1.2.1 dX5_endsAbove_15 rfl (lv_at hl 0 rfl) ?_
  refine e_getr X hW (C := RX5) (T := TX5) (N := 15) (j := 3) rfl (by decide) inX5 (by decide) (by decide) rfl (t := 65) rfl rfl mw_1_170 dX5_endsAbove_16 ?_
  refine lv_iload_n X.1.1 X.1.2.1 dX5_endsAbove_19 rfl (lv_at hl 1 rfl) ?_
  refine e_ild X hW (by decide) rfl dX5_endsAbove_20 hf (fun v3 hf => ?_)
  refine e_ild X hW (by decide) rfl dX5_endsAbove_21 hf (fun v4 hf => ?_)
  refine lv_icmp_le (tgt := 29) X.1.1 X.1.2.1 dX5_endsAbove_22 (by decide) (fun c22 => ?_) (fun c22 => ?_)
  · rw [if_pos c22] at hf
    refine lv_iconst (v := 0) X.1.1 X.1.2.1 dX5_endsAbove_29 (by decide) ?_
    exact e_zret X hW hS hf dX5_endsAbove_30
  · rw [if_neg c22] at hf
    refine lv_iconst (v := 1) X.1.1 X.1.2.1 dX5_endsAbove_25 (by decide) ?_
    refine lv_goto (tgt := 30) X.1.1 X.1.2.1 dX5_endsAbove_26 (by decide) ?_
    exact e_zret X hW hS hf dX5_endsAbove_30
-- OvenHouse$Rings.exchangeTaken
def rmX5_exchangeTaken : Room := { frames := 1, cells := 0, slots := 0, locals := 23 }
set_option maxRecDepth 100000 in
set_option maxHeartbeats 4000000 in
theorem wfX5_exchangeTaken_57_b {p : Program} {l : Launch} {e : Env} {s : State} {m : MethodId} {args : Array Value} {below : List Frame} {meth : Method} {c : Code} {E : Gv} {F : Nat}  {u : Mem} (X : Fx p m c cX5_exchangeTaken 2 s args (Cond.code yX5_exchangeTaken cX5_exchangeTaken 2 none) "OvenHouse$Rings" meth none E)  (rec57 : Int32 → Mem → Option Mem) (hrec57 : ∀ (y1 : Int32) (μ : Mem) (H : Heap) (locs : List Loc) (ls : Array Slot), rec57 y1 μ = some u → Wo E μ H → va_S (AE E) s.heap H locs → lv_has ls 2 [(0, .ref (E.1 61)), (1, .int y1)] → W0 p l e rmX5_exchangeTaken s m args below meth c H locs (QcN E u) E (F0 m 57 ls [])) (y1 : Int32) (μ : Mem) (H : Heap) (locs : List Loc) (ls : Array Slot) (hf : fX5_exchangeTaken_57_b F  rec57 y1 μ = some u) (hW : Wo E μ H) (hS : va_S (AE E) s.heap H locs) (hl : lv_has ls 2 [(0, .ref (E.1 61)), (1, .int y1)]) : W0 p l e rmX5_exchangeTaken s m args below meth c H locs (QcN E u) E (F0 m 57 ls []) := by
  unfold fX5_exchangeTaken_57_b at hf
  refine lv_iload_n X.1.1 X.1.2.1 dX5_exchangeTaken_57 rfl (lv_at hl 1 rfl) ?_
  refine lv_iconst (v := 1) X.1.1 X.1.2.1 dX5_exchangeTaken_58 (by decide) ?_
  refine lv_iadd X.1.1 X.1.2.1 dX5_exchangeTaken_59 ?_
  refine lv_aload_n X.1.1 X.1.2.1 dX5_exchangeTaken_60 rfl (lv_at hl 0 rfl) ?_
  refine e_geti X hW (C := RX5) (T := TX5) (N := 15) (j := 9) rfl (by decide) inX5 (by decide) (by decide) rfl rfl mw_1_177 dX5_exchangeTaken_61 ?_
  refine lv_icmp_ge (tgt := 111) X.1.1 X.1.2.1 dX5_exchangeTaken_64 (by decide) (fun c64 => ?_) (fun c64 => ?_)
  · rw [if_pos c64] at hf
    exact e_vret X hW hS hf dX5_exchangeTaken_111
  · rw [if_neg c64] at hf
    refine lv_aload_n X.1.1 X.1.2.1 dX5_exchangeTaken_67 rfl (lv_at hl 0 rfl) ?_
    refine e_getr X hW (C := RX5) (T := TX5) (N := 15) (j := 8) rfl (by decide) inX5 (by decide) (by decide) rfl (t := 70) rfl rfl mw_1_176 dX5_exchangeTaken_68 ?_
    refine lv_iload_n X.1.1 X.1.2.1 dX5_exchangeTaken_71 rfl (lv_at hl 1 rfl) ?_
    refine e_zld X hW (by decide) rfl dX5_exchangeTaken_72 hf (fun v7 hf => ?_)
    refine lv_if_eq (tgt := 105) X.1.1 X.1.2.1 dX5_exchangeTaken_73 (by decide) (fun c73 => ?_) (fun c73 => ?_)
    · rw [if_pos c73] at hf
      refine lv_iinc (v := (y1 + 1)) (lv' := [(1, .int (y1 + 1)), (0, .ref (E.1 61))]) X.1.1 X.1.2.1 dX5_exchangeTaken_105 hl (k := 1) rfl rfl (by decide) rfl (fun ls hl => ?_)
      refine lv_goto (tgt := 57) X.1.1 X.1.2.1 dX5_exchangeTaken_108 (by decide) ?_
      exact hrec57 (y1 + 1) μ H locs ls hf hW hS (lv_sub hl [1, 0] rfl)
    · rw [if_neg c73] at hf
      refine lv_aload_n X.1.1 X.1.2.1 dX5_exchangeTaken_76 rfl (lv_at hl 0 rfl) ?_
      refine lv_iload_n X.1.1 X.1.2.1 dX5_exchangeTaken_77 rfl (lv_at hl 1 rfl) ?_
      refine e_vi (rest := []) (As := [.int y1]) X hl.1 hW hS (C := RX5) (T := TX5) (N := 15) rfl (by decide) (ctfX5_endsAbove X.2.2.2.2 F y1 μ) (cwV (rm := rmX5_endsAbove) 1 X.1.2.2.2.2 (gd_V mw_3_64 mw_3_66 mw_0_9 mw_1_8 mw_3_67) rfl rfl rfl (by decide +kernel) ⟨Nat.le_of_ble_eq_true rfl, Nat.le_of_ble_eq_true rfl⟩) rfl rfl (Nat.le_of_ble_eq_true rfl) dX5_exchangeTaken_78 ⟨Nat.zero_le _, Nat.zero_le _⟩ hf (fun r9 m8 H locs hf hW hS => ?_)
      refine lv_if_eq (tgt := 105) X.1.1 X.1.2.1 dX5_exchangeTaken_81 (by decide) (fun c81 => ?_) (fun c81 => ?_)
      · rw [if_pos c81] at hf
        refine lv_iinc (v := (y1 + 1)) (lv' := [(1, .int (y1 + 1)), (0, .ref (E.1 61))]) X.1.1 X.1.2.1 dX5_exchangeTaken_105 hl (k := 1) rfl rfl (by decide) rfl (fun ls hl => ?_)
        refine lv_goto (tgt := 57) X.1.1 X.1.2.1 dX5_exchangeTaken_108 (by decide) ?_
        exact hrec57 (y1 + 1) m8 H locs ls hf hW hS (lv_sub hl [1, 0] rfl)
      · rw [if_neg c81] at hf
        refine lv_aload_n X.1.1 X.1.2.1 dX5_exchangeTaken_84 rfl (lv_at hl 0 rfl) ?_
        refine e_getr X hW (C := RX5) (T := TX5) (N := 15) (j := 4) rfl (by decide) inX5 (by decide) (by decide) rfl (t := 66) rfl rfl mw_1_171 dX5_exchangeTaken_85 ?_
        refine lv_aload_n X.1.1 X.1.2.1 dX5_exchangeTaken_88 rfl (lv_at hl 0 rfl) ?_
        refine e_getr X hW (C := RX5) (T := TX5) (N := 15) (j := 2) rfl (by decide) inX5 (by decide) (by decide) rfl (t := 64) rfl rfl mw_1_169 dX5_exchangeTaken_89 ?_
        refine lv_iload_n X.1.1 X.1.2.1 dX5_exchangeTaken_92 rfl (lv_at hl 1 rfl) ?_
        refine e_ild X hW (by decide) rfl dX5_exchangeTaken_93 hf (fun v10 hf => ?_)
        refine lv_aload_n X.1.1 X.1.2.1 dX5_exchangeTaken_94 rfl (lv_at hl 0 rfl) ?_
        refine e_getr X hW (C := RX5) (T := TX5) (N := 15) (j := 2) rfl (by decide) inX5 (by decide) (by decide) rfl (t := 64) rfl rfl mw_1_169 dX5_exchangeTaken_95 ?_
        refine lv_iload_n X.1.1 X.1.2.1 dX5_exchangeTaken_98 rfl (lv_at hl 1 rfl) ?_
        refine lv_iconst (v := 1) X.1.1 X.1.2.1 dX5_exchangeTaken_99 (by decide) ?_
        refine lv_iadd X.1.1 X.1.2.1 dX5_exchangeTaken_100 ?_
        refine e_ild X hW (by decide) rfl dX5_exchangeTaken_101 hf (fun v11 hf => ?_)
        refine e_snv (rest := []) (As := [.ref (E.1 66), .int v10, .int v11]) X hl.1 hW hS (ctfX8_exchange X.2.2.2.2 F 66 v10 v11 ⟨(by decide), rfl⟩ m8) ⟨va_cnB (rm := rmX8_exchange) (own := "OvenHouse$Rings") (host := "OvenHouse") (index := 112) 3 X.1.2.2.2.2 (gd_N mw_2_172) rfl rfl rfl (X.2.2.2.1.2 ("OvenHouse$Rings", 112, yX8_exchange, "OvenHouse") (by decide +kernel)) (X.1.2.2.2.2 _ (List.mem_cons_of_mem _ mw_1_1)) (by decide +kernel) ⟨Nat.le_of_ble_eq_true rfl, Nat.le_of_ble_eq_true rfl⟩, X.1.2.2.2.2 _ (List.mem_cons_of_mem _ mw_2_171), trivial⟩ rfl rfl (Nat.le_of_ble_eq_true rfl) dX5_exchangeTaken_102 ⟨Nat.zero_le _, Nat.zero_le _⟩ hf (fun m12 H locs hf hW hS => ?_)
        refine lv_iinc (v := (y1 + 1)) (lv' := [(1, .int (y1 + 1)), (0, .ref (E.1 61))]) X.1.1 X.1.2.1 dX5_exchangeTaken_105 hl (k := 1) rfl rfl (by decide) rfl (fun ls hl => ?_)
        refine lv_goto (tgt := 57) X.1.1 X.1.2.1 dX5_exchangeTaken_108 (by decide) ?_
        exact hrec57 (y1 + 1) m12 H locs ls hf hW hS (lv_sub hl [1, 0] rfl)
theorem wfX5_exchangeTaken_57 {p : Program} {l : Launch} {e : Env} {s : State} {m : MethodId} {args : Array Value} {below : List Frame} {meth : Method} {c : Code} {E : Gv} {F : Nat}  {u : Mem} (X : Fx p m c cX5_exchangeTaken 2 s args (Cond.code yX5_exchangeTaken cX5_exchangeTaken 2 none) "OvenHouse$Rings" meth none E)  (n : Nat) : ∀ (y1 : Int32) (μ : Mem) (H : Heap) (locs : List Loc) (ls : Array Slot) (_ : fX5_exchangeTaken_57 F   n y1 μ = some u) (_ : Wo E μ H) (_ : va_S (AE E) s.heap H locs) (_ : lv_has ls 2 [(0, .ref (E.1 61)), (1, .int y1)]), W0 p l e rmX5_exchangeTaken s m args below meth c H locs (QcN E u) E (F0 m 57 ls []) := by
  induction n with
  | zero => intro y1 μ H locs ls hf hW hS hl; cases hf
  | succ n ih => intro y1 μ H locs ls hf hW hS hl; exact wfX5_exchangeTaken_57_b X  _ ih y1 μ H locs ls hf hW hS hl
set_option maxRecDepth 100000 in
set_option maxHeartbeats 4000000 in
theorem wfX5_exchangeTaken_7_b {p : Program} {l : Launch} {e : Env} {s : State} {m : MethodId} {args : Array Value} {below : List Frame} {meth : Method} {c : Code} {E : Gv} {F : Nat}  {u : Mem} (X : Fx p m c cX5_exchangeTaken 2 s args (Cond.code yX5_exchangeTaken cX5_exchangeTaken 2 none) "OvenHouse$Rings" meth none E)  (rec7 : Int32 → Mem → Option Mem) (hrec7 : ∀ (y1 : Int32) (μ : Mem) (H : Heap) (locs : List Loc) (ls : Array Slot), rec7 y1 μ = some u → Wo E μ H → va_S (AE E) s.heap H locs → lv_has ls 2 [(0, .ref (E.1 61)), (1, .int y1)] → W0 p l e rmX5_exchangeTaken s m args below meth c H locs (QcN E u) E (F0 m 7 ls [])) (y1 : Int32) (μ : Mem) (H : Heap) (locs : List Loc) (ls : Array Slot) (hf : fX5_exchangeTaken_7_b F  rec7 y1 μ = some u) (hW : Wo E μ H) (hS : va_S (AE E) s.heap H locs) (hl : lv_has ls 2 [(0, .ref (E.1 61)), (1, .int y1)]) : W0 p l e rmX5_exchangeTaken s m args below meth c H locs (QcN E u) E (F0 m 7 ls []) := by
  unfold fX5_exchangeTaken_7_b at hf
  refine lv_iload_n X.1.1 X.1.2.1 dX5_exchangeTaken_7 rfl (lv_at hl 1 rfl) ?_
  refine lv_if_lt (tgt := 55) X.1.1 X.1.2.1 dX5_exchangeTaken_8 (by decide) (fun c8 => ?_) (fun c8 => ?_)
  · rw [if_pos c8] at hf
    refine lv_iconst (v := 0) X.1.1 X.1.2.1 dX5_exchangeTaken_55 (by decide) ?_
    refine lv_istore_n (lv' := [(1, .int 0), (0, .ref (E.1 61))]) X.1.1 X.1.2.1 dX5_exchangeTaken_56 rfl hl (by decide) rfl (fun ls hl => ?_)
    exact wfX5_exchangeTaken_57 X  F 0 μ H locs ls hf hW hS (lv_sub hl [1, 0] rfl)
  · rw [if_neg c8] at hf
    refine lv_aload_n X.1.1 X.1.2.1 dX5_exchangeTaken_11 rfl (lv_at hl 0 rfl) ?_
    refine e_getr X hW (C := RX5) (T := TX5) (N := 15) (j := 8) rfl (by decide) inX5 (by decide) (by decide) rfl (t := 70) rfl rfl mw_1_176 dX5_exchangeTaken_12 ?_
    refine lv_iload_n X.1.1 X.1.2.1 dX5_exchangeTaken_15 rfl (lv_at hl 1 rfl) ?_
    refine e_zld X hW (by decide) rfl dX5_exchangeTaken_16 hf (fun v1 hf => ?_)
    refine lv_if_eq (tgt := 49) X.1.1 X.1.2.1 dX5_exchangeTaken_17 (by decide) (fun c17 => ?_) (fun c17 => ?_)
    · rw [if_pos c17] at hf
      refine lv_iinc (v := (y1 + (-1))) (lv' := [(1, .int (y1 + (-1))), (0, .ref (E.1 61))]) X.1.1 X.1.2.1 dX5_exchangeTaken_49 hl (k := 1) rfl rfl (by decide) rfl (fun ls hl => ?_)
      refine lv_goto (tgt := 7) X.1.1 X.1.2.1 dX5_exchangeTaken_52 (by decide) ?_
      exact hrec7 (y1 + (-1)) μ H locs ls hf hW hS (lv_sub hl [1, 0] rfl)
    · rw [if_neg c17] at hf
      refine lv_aload_n X.1.1 X.1.2.1 dX5_exchangeTaken_20 rfl (lv_at hl 0 rfl) ?_
      refine lv_iload_n X.1.1 X.1.2.1 dX5_exchangeTaken_21 rfl (lv_at hl 1 rfl) ?_
      refine e_vi (rest := []) (As := [.int y1]) X hl.1 hW hS (C := RX5) (T := TX5) (N := 15) rfl (by decide) (ctfX5_endsAbove X.2.2.2.2 F y1 μ) (cwV (rm := rmX5_endsAbove) 1 X.1.2.2.2.2 (gd_V mw_3_64 mw_3_66 mw_0_9 mw_1_8 mw_3_67) rfl rfl rfl (by decide +kernel) ⟨Nat.le_of_ble_eq_true rfl, Nat.le_of_ble_eq_true rfl⟩) rfl rfl (Nat.le_of_ble_eq_true rfl) dX5_exchangeTaken_22 ⟨Nat.zero_le _, Nat.zero_le _⟩ hf (fun r3 m2 H locs hf hW hS => ?_)
      refine lv_if_ne (tgt := 49) X.1.1 X.1.2.1 dX5_exchangeTaken_25 (by decide) (fun c25 => ?_) (fun c25 => ?_)
      · rw [if_neg c25] at hf
        refine lv_iinc (v := (y1 + (-1))) (lv' := [(1, .int (y1 + (-1))), (0, .ref (E.1 61))]) X.1.1 X.1.2.1 dX5_exchangeTaken_49 hl (k := 1) rfl rfl (by decide) rfl (fun ls hl => ?_)
        refine lv_goto (tgt := 7) X.1.1 X.1.2.1 dX5_exchangeTaken_52 (by decide) ?_
        exact hrec7 (y1 + (-1)) m2 H locs ls hf hW hS (lv_sub hl [1, 0] rfl)
      · rw [if_pos c25] at hf
        refine lv_aload_n X.1.1 X.1.2.1 dX5_exchangeTaken_28 rfl (lv_at hl 0 rfl) ?_
        refine e_getr X hW (C := RX5) (T := TX5) (N := 15) (j := 4) rfl (by decide) inX5 (by decide) (by decide) rfl (t := 66) rfl rfl mw_1_171 dX5_exchangeTaken_29 ?_
        refine lv_aload_n X.1.1 X.1.2.1 dX5_exchangeTaken_32 rfl (lv_at hl 0 rfl) ?_
        refine e_getr X hW (C := RX5) (T := TX5) (N := 15) (j := 2) rfl (by decide) inX5 (by decide) (by decide) rfl (t := 64) rfl rfl mw_1_169 dX5_exchangeTaken_33 ?_
        refine lv_iload_n X.1.1 X.1.2.1 dX5_exchangeTaken_36 rfl (lv_at hl 1 rfl) ?_
        refine e_ild X hW (by decide) rfl dX5_exchangeTaken_37 hf (fun v4 hf => ?_)
        refine lv_aload_n X.1.1 X.1.2.1 dX5_exchangeTaken_38 rfl (lv_at hl 0 rfl) ?_
        refine e_getr X hW (C := RX5) (T := TX5) (N := 15) (j := 2) rfl (by decide) inX5 (by decide) (by decide) rfl (t := 64) rfl rfl mw_1_169 dX5_exchangeTaken_39 ?_
        refine lv_iload_n X.1.1 X.1.2.1 dX5_exchangeTaken_42 rfl (lv_at hl 1 rfl) ?_
        refine lv_iconst (v := 1) X.1.1 X.1.2.1 dX5_exchangeTaken_43 (by decide) ?_
        refine lv_iadd X.1.1 X.1.2.1 dX5_exchangeTaken_44 ?_
        refine e_ild X hW (by decide) rfl dX5_exchangeTaken_45 hf (fun v5 hf => ?_)
        refine e_snv (rest := []) (As := [.ref (E.1 66), .int v4, .int v5]) X hl.1 hW hS (ctfX8_exchange X.2.2.2.2 F 66 v4 v5 ⟨(by decide), rfl⟩ m2) ⟨va_cnB (rm := rmX8_exchange) (own := "OvenHouse$Rings") (host := "OvenHouse") (index := 112) 3 X.1.2.2.2.2 (gd_N mw_2_172) rfl rfl rfl (X.2.2.2.1.2 ("OvenHouse$Rings", 112, yX8_exchange, "OvenHouse") (by decide +kernel)) (X.1.2.2.2.2 _ (List.mem_cons_of_mem _ mw_1_1)) (by decide +kernel) ⟨Nat.le_of_ble_eq_true rfl, Nat.le_of_ble_eq_true rfl⟩, X.1.2.2.2.2 _ (List.mem_cons_of_mem _ mw_2_171), trivial⟩ rfl rfl (Nat.le_of_ble_eq_true rfl) dX5_exchangeTaken_46 ⟨Nat.zero_le _, Nat.zero_le _⟩ hf (fun m6 H locs hf hW hS => ?_)
        refine lv_iinc (v := (y1 + (-1))) (lv' := [(1, .int (y1 + (-1))), (0, .ref (E.1 61))]) X.1.1 X.1.2.1 dX5_exchangeTaken_49 hl (k := 1) rfl rfl (by decide) rfl (fun ls hl => ?_)
        refine lv_goto (tgt := 7) X.1.1 X.1.2.1 dX5_exchangeTaken_52 (by decide) ?_
        exact hrec7 (y1 + (-1)) m6 H locs ls hf hW hS (lv_sub hl [1, 0] rfl)
theorem wfX5_exchangeTaken_7 {p : Program} {l : Launch} {e : Env} {s : State} {m : MethodId} {args : Array Value} {below : List Frame} {meth : Method} {c : Code} {E : Gv} {F : Nat}  {u : Mem} (X : Fx p m c cX5_exchangeTaken 2 s args (Cond.code yX5_exchangeTaken cX5_exchangeTaken 2 none) "OvenHouse$Rings" meth none E)  (n : Nat) : ∀ (y1 : Int32) (μ : Mem) (H : Heap) (locs : List Loc) (ls : Array Slot) (_ : fX5_exchangeTaken_7 F   n y1 μ = some u) (_ : Wo E μ H) (_ : va_S (AE E) s.heap H locs) (_ : lv_has ls 2 [(0, .ref (E.1 61)), (1, .int y1)]), W0 p l e rmX5_exchangeTaken s m args below meth c H locs (QcN E u) E (F0 m 7 ls []) := by
  induction n with
  | zero => intro y1 μ H locs ls hf hW hS hl; cases hf
  | succ n ih => intro y1 μ H locs ls hf hW hS hl; exact wfX5_exchangeTaken_7_b X  _ ih y1 μ H locs ls hf hW hS hl
set_option maxRecDepth 100000 in
set_option maxHeartbeats 4000000 in
theorem ctfX5_exchangeTaken {l : Launch} {E : Gv} (hD : Do E) (F : Nat)  (μ : Mem) : CtV l yX5_exchangeTaken ((Cond.code yX5_exchangeTaken cX5_exchangeTaken 2 none) :: GG) rmX5_exchangeTaken E [.ref (E.1 61)] μ (fX5_exchangeTaken F μ) := by
  intro u hf
  refine of_entry (cc := cX5_exchangeTaken) (maxL := 2) (ret := none) (by decide +kernel) rfl hD (Nat.le_of_ble_eq_true rfl) (fun p e s m args below meth c X H locs hW hS ls hl => ?_)
  have hl : lv_has ls 2 [(0, .ref (E.1 61))] := hl
  unfold fX5_exchangeTaken at hf
  refine lv_aload_n X.1.1 X.1.2.1 dX5_exchangeTaken_0 rfl (lv_at hl 0 rfl) ?_
  refine e_geti X hW (C := RX5) (T := TX5) (N := 15) (j := 9) rfl (by decide) inX5 (by decide) (by decide) rfl rfl mw_1_177 dX5_exchangeTaken_1 ?_
  refine lv_iconst (v := 2) X.1.1 X.1.2.1 dX5_exchangeTaken_4 (by decide) ?_
  refine lv_isub X.1.1 X.1.2.1 dX5_exchangeTaken_5 ?_
  refine lv_istore_n (lv' := [(1, .int ((μ 61 9) - 2)), (0, .ref (E.1 61))]) X.1.1 X.1.2.1 dX5_exchangeTaken_6 rfl hl (by decide) rfl (fun ls hl => ?_)
  exact wfX5_exchangeTaken_7 X  F ((μ 61 9) - 2) μ H locs ls hf hW hS (lv_sub hl [1, 0] rfl)
-- OvenHouse$Rings.joinAll
def rmX5_joinAll : Room := { frames := 4, cells := 0, slots := 0, locals := 86 }
set_option maxRecDepth 100000 in
set_option maxHeartbeats 4000000 in
theorem wfX5_joinAll_83_b {p : Program} {l : Launch} {e : Env} {s : State} {m : MethodId} {args : Array Value} {below : List Frame} {meth : Method} {c : Code} {E : Gv} {F : Nat} {k1 : Nat} {r : Int32} {u : Mem} (X : Fx p m c cX5_joinAll 3 s args (Cond.code yX5_joinAll cX5_joinAll 3 (some .int)) "OvenHouse$Rings" meth (some .int) E) (h1 : isPr k1) (rec83 : Int32 → Mem → Option (Int32 × Mem)) (hrec83 : ∀ (y2 : Int32) (μ : Mem) (H : Heap) (locs : List Loc) (ls : Array Slot), rec83 y2 μ = some (r, u) → Wo E μ H → va_S (AE E) s.heap H locs → lv_has ls 3 [(0, .ref (E.1 61)), (1, .ref (E.1 k1)), (2, .int y2)] → W0 p l e rmX5_joinAll s m args below meth c H locs (QcI E r u) E (F0 m 83 ls [])) (y2 : Int32) (μ : Mem) (H : Heap) (locs : List Loc) (ls : Array Slot) (hf : fX5_joinAll_83_b F k1 rec83 y2 μ = some (r, u)) (hW : Wo E μ H) (hS : va_S (AE E) s.heap H locs) (hl : lv_has ls 3 [(0, .ref (E.1 61)), (1, .ref (E.1 k1)), (2, .int y2)]) : W0 p l e rmX5_joinAll s m args below meth c H locs (QcI E r u) E (F0 m 83 ls []) := by
  unfold fX5_joinAll_83_b at hf
  refine lv_iload_n X.1.1 X.1.2.1 dX5_joinAll_83 rfl (lv_at hl 2 rfl) ?_
  refine lv_iconst (v := 1) X.1.1 X.1.2.1 dX5_joinAll_84 (by decide) ?_
  refine lv_iadd X.1.1 X.1.2.1 dX5_joinAll_85 ?_
  refine lv_aload_n X.1.1 X.1.2.1 dX5_joinAll_86 rfl (lv_at hl 0 rfl) ?_
  refine e_geti X hW (C := RX5) (T := TX5) (N := 15) (j := 9) rfl (by decide) inX5 (by decide) (by decide) rfl rfl mw_1_177 dX5_joinAll_87 ?_
  refine lv_icmp_ge (tgt := 111) X.1.1 X.1.2.1 dX5_joinAll_90 (by decide) (fun c90 => ?_) (fun c90 => ?_)
  · rw [if_pos c90] at hf
    refine lv_aload_n X.1.1 X.1.2.1 dX5_joinAll_111 rfl (lv_at hl 0 rfl) ?_
    refine e_getr X hW (C := RX5) (T := TX5) (N := 15) (j := 6) rfl (by decide) inX5 (by decide) (by decide) rfl (t := 68) rfl rfl mw_1_174 dX5_joinAll_112 ?_
    refine lv_aload_n X.1.1 X.1.2.1 dX5_joinAll_115 rfl (lv_at hl 0 rfl) ?_
    refine e_geti X hW (C := RX5) (T := TX5) (N := 15) (j := 9) rfl (by decide) inX5 (by decide) (by decide) rfl rfl mw_1_177 dX5_joinAll_116 ?_
    refine lv_iconst (v := 1) X.1.1 X.1.2.1 dX5_joinAll_119 (by decide) ?_
    refine lv_isub X.1.1 X.1.2.1 dX5_joinAll_120 ?_
    refine lv_aload_n X.1.1 X.1.2.1 dX5_joinAll_121 rfl (lv_at hl 0 rfl) ?_
    refine e_getr X hW (C := RX5) (T := TX5) (N := 15) (j := 7) rfl (by decide) inX5 (by decide) (by decide) rfl (t := 69) rfl rfl mw_1_175 dX5_joinAll_122 ?_
    refine e_snv (rest := []) (As := [.ref (E.1 68), .int ((μ 61 9) - 1), .ref (E.1 69)]) X hl.1 hW hS (ctfX8_rank X.2.2.2.2 F 68 ((μ 61 9) - 1) 69 ⟨(by decide), rfl⟩ ⟨(by decide), rfl⟩ μ) ⟨va_cnB (rm := rmX8_rank) (own := "OvenHouse$Rings") (host := "OvenHouse") (index := 60) 3 X.1.2.2.2.2 (gd_N mw_2_184) rfl rfl rfl (X.2.2.2.1.2 ("OvenHouse$Rings", 60, yX8_rank, "OvenHouse") (by decide +kernel)) (X.1.2.2.2.2 _ (List.mem_cons_of_mem _ mw_1_1)) (by decide +kernel) ⟨Nat.le_of_ble_eq_true rfl, Nat.le_of_ble_eq_true rfl⟩, X.1.2.2.2.2 _ (List.mem_cons_of_mem _ mw_2_183), trivial⟩ rfl rfl (Nat.le_of_ble_eq_true rfl) dX5_joinAll_125 ⟨Nat.zero_le _, Nat.zero_le _⟩ hf (fun m11 H locs hf hW hS => ?_)
    refine lv_aload_n X.1.1 X.1.2.1 dX5_joinAll_128 rfl (lv_at hl 0 rfl) ?_
    refine e_vv (rest := []) (As := []) X hl.1 hW hS (C := RX5) (T := TX5) (N := 15) rfl (by decide) (ctfX5_takeJoins X.2.2.2.2 F m11) (cwV (rm := rmX5_takeJoins) 0 X.1.2.2.2.2 (gd_V mw_3_52 mw_3_54 mw_0_6 mw_1_8 mw_3_55) rfl rfl rfl (by decide +kernel) ⟨Nat.le_of_ble_eq_true rfl, Nat.le_of_ble_eq_true rfl⟩) rfl rfl (Nat.le_of_ble_eq_true rfl) dX5_joinAll_129 ⟨Nat.zero_le _, Nat.zero_le _⟩ hf (fun m12 H locs hf hW hS => ?_)
    refine lv_aload_n X.1.1 X.1.2.1 dX5_joinAll_132 rfl (lv_at hl 0 rfl) ?_
    refine e_vv (rest := []) (As := []) X hl.1 hW hS (C := RX5) (T := TX5) (N := 15) rfl (by decide) (ctfX5_exchangeTaken X.2.2.2.2 F m12) (cwV (rm := rmX5_exchangeTaken) 0 X.1.2.2.2.2 (gd_V mw_3_60 mw_3_62 mw_0_8 mw_1_8 mw_3_63) rfl rfl rfl (by decide +kernel) ⟨Nat.le_of_ble_eq_true rfl, Nat.le_of_ble_eq_true rfl⟩) rfl rfl (Nat.le_of_ble_eq_true rfl) dX5_joinAll_133 ⟨Nat.zero_le _, Nat.zero_le _⟩ hf (fun m13 H locs hf hW hS => ?_)
    refine lv_aload_n X.1.1 X.1.2.1 dX5_joinAll_136 rfl (lv_at hl 0 rfl) ?_
    refine lv_aload_n X.1.1 X.1.2.1 dX5_joinAll_137 rfl (lv_at hl 1 rfl) ?_
    refine e_vi (rest := []) (As := [.ref (E.1 k1)]) X hl.1 hW hS (C := RX5) (T := TX5) (N := 15) rfl (by decide) (ctfX5_costOfAll X.2.2.2.2 F k1 h1 m13) (cwV (rm := rmX5_costOfAll) 1 X.1.2.2.2.2 (gd_V mw_3_24 mw_3_26 mw_0_2 mw_1_8 mw_3_27) rfl rfl rfl (by decide +kernel) ⟨Nat.le_of_ble_eq_true rfl, Nat.le_of_ble_eq_true rfl⟩) rfl rfl (Nat.le_of_ble_eq_true rfl) dX5_joinAll_138 ⟨Nat.zero_le _, Nat.zero_le _⟩ hf (fun r15 m14 H locs hf hW hS => ?_)
    exact e_iret X hW hS hf dX5_joinAll_141
  · rw [if_neg c90] at hf
    refine lv_aload_n X.1.1 X.1.2.1 dX5_joinAll_93 rfl (lv_at hl 0 rfl) ?_
    refine e_getr X hW (C := RX5) (T := TX5) (N := 15) (j := 6) rfl (by decide) inX5 (by decide) (by decide) rfl (t := 68) rfl rfl mw_1_174 dX5_joinAll_94 ?_
    refine lv_iload_n X.1.1 X.1.2.1 dX5_joinAll_97 rfl (lv_at hl 2 rfl) ?_
    refine lv_aload_n X.1.1 X.1.2.1 dX5_joinAll_98 rfl (lv_at hl 0 rfl) ?_
    refine lv_iload_n X.1.1 X.1.2.1 dX5_joinAll_99 rfl (lv_at hl 2 rfl) ?_
    refine lv_aload_n X.1.1 X.1.2.1 dX5_joinAll_100 rfl (lv_at hl 1 rfl) ?_
    refine e_vi (rest := [.int y2, .ref (E.1 68)]) (As := [.int y2, .ref (E.1 k1)]) X hl.1 hW hS (C := RX5) (T := TX5) (N := 15) rfl (by decide) (ctfX5_weightOf X.2.2.2.2 F y2 k1 h1 μ) (cwV (rm := rmX5_weightOf) 2 X.1.2.2.2.2 (gd_V mw_3_46 mw_3_48 mw_0_5 mw_1_8 mw_3_49) rfl rfl rfl (by decide +kernel) ⟨Nat.le_of_ble_eq_true rfl, Nat.le_of_ble_eq_true rfl⟩) rfl rfl (Nat.le_of_ble_eq_true rfl) dX5_joinAll_101 ⟨Nat.zero_le _, Nat.zero_le _⟩ hf (fun r17 m16 H locs hf hW hS => ?_)
    refine e_ist X hW hS (by decide) rfl dX5_joinAll_104 hf (fun m18 H locs hf hW hS => ?_)
    refine lv_iinc (v := (y2 + 1)) (lv' := [(2, .int (y2 + 1)), (0, .ref (E.1 61)), (1, .ref (E.1 k1))]) X.1.1 X.1.2.1 dX5_joinAll_105 hl (k := 2) rfl rfl (by decide) rfl (fun ls hl => ?_)
    refine lv_goto (tgt := 83) X.1.1 X.1.2.1 dX5_joinAll_108 (by decide) ?_
    exact hrec83 (y2 + 1) m18 H locs ls hf hW hS (lv_sub hl [1, 2, 0] rfl)
theorem wfX5_joinAll_83 {p : Program} {l : Launch} {e : Env} {s : State} {m : MethodId} {args : Array Value} {below : List Frame} {meth : Method} {c : Code} {E : Gv} {F : Nat} {k1 : Nat} {r : Int32} {u : Mem} (X : Fx p m c cX5_joinAll 3 s args (Cond.code yX5_joinAll cX5_joinAll 3 (some .int)) "OvenHouse$Rings" meth (some .int) E) (h1 : isPr k1) (n : Nat) : ∀ (y2 : Int32) (μ : Mem) (H : Heap) (locs : List Loc) (ls : Array Slot) (_ : fX5_joinAll_83 F k1  n y2 μ = some (r, u)) (_ : Wo E μ H) (_ : va_S (AE E) s.heap H locs) (_ : lv_has ls 3 [(0, .ref (E.1 61)), (1, .ref (E.1 k1)), (2, .int y2)]), W0 p l e rmX5_joinAll s m args below meth c H locs (QcI E r u) E (F0 m 83 ls []) := by
  induction n with
  | zero => intro y2 μ H locs ls hf hW hS hl; cases hf
  | succ n ih => intro y2 μ H locs ls hf hW hS hl; exact wfX5_joinAll_83_b X h1 _ ih y2 μ H locs ls hf hW hS hl
set_option maxRecDepth 100000 in
set_option maxHeartbeats 4000000 in
theorem wfX5_joinAll_32_b {p : Program} {l : Launch} {e : Env} {s : State} {m : MethodId} {args : Array Value} {below : List Frame} {meth : Method} {c : Code} {E : Gv} {F : Nat} {k1 : Nat} {r : Int32} {u : Mem} (X : Fx p m c cX5_joinAll 3 s args (Cond.code yX5_joinAll cX5_joinAll 3 (some .int)) "OvenHouse$Rings" meth (some .int) E) (h1 : isPr k1) (rec32 : Int32 → Mem → Option (Int32 × Mem)) (hrec32 : ∀ (y2 : Int32) (μ : Mem) (H : Heap) (locs : List Loc) (ls : Array Slot), rec32 y2 μ = some (r, u) → Wo E μ H → va_S (AE E) s.heap H locs → lv_has ls 3 [(0, .ref (E.1 61)), (1, .ref (E.1 k1)), (2, .int y2)] → W0 p l e rmX5_joinAll s m args below meth c H locs (QcI E r u) E (F0 m 32 ls [])) (y2 : Int32) (μ : Mem) (H : Heap) (locs : List Loc) (ls : Array Slot) (hf : fX5_joinAll_32_b F k1 rec32 y2 μ = some (r, u)) (hW : Wo E μ H) (hS : va_S (AE E) s.heap H locs) (hl : lv_has ls 3 [(0, .ref (E.1 61)), (1, .ref (E.1 k1)), (2, .int y2)]) : W0 p l e rmX5_joinAll s m args below meth c H locs (QcI E r u) E (F0 m 32 ls []) := by
  unfold fX5_joinAll_32_b at hf
  refine lv_iload_n X.1.1 X.1.2.1 dX5_joinAll_32 rfl (lv_at hl 2 rfl) ?_
  refine lv_aload_n X.1.1 X.1.2.1 dX5_joinAll_33 rfl (lv_at hl 0 rfl) ?_
  refine e_geti X hW (C := RX5) (T := TX5) (N := 15) (j := 9) rfl (by decide) inX5 (by decide) (by decide) rfl rfl mw_1_177 dX5_joinAll_34 ?_
  refine lv_icmp_ge (tgt := 63) X.1.1 X.1.2.1 dX5_joinAll_37 (by decide) (fun c37 => ?_) (fun c37 => ?_)
  · rw [if_pos c37] at hf
    refine lv_aload_n X.1.1 X.1.2.1 dX5_joinAll_63 rfl (lv_at hl 0 rfl) ?_
    refine lv_iconst (v := 1) X.1.1 X.1.2.1 dX5_joinAll_64 (by decide) ?_
    refine e_put X hW hS (C := RX5) (T := TX5) (N := 15) (j := 10) (tyF := tyX5) rfl (by decide) inX5 tyX5_ok nmX5 (by decide) (by decide) rfl rfl mw_1_179 rfl rfl rfl dX5_joinAll_65 hf (fun m3 H locs hf hW hS => ?_)
    refine lv_aload_n X.1.1 X.1.2.1 dX5_joinAll_68 rfl (lv_at hl 0 rfl) ?_
    refine lv_aload_n X.1.1 X.1.2.1 dX5_joinAll_69 rfl (lv_at hl 0 rfl) ?_
    refine lv_aload_n X.1.1 X.1.2.1 dX5_joinAll_70 rfl (lv_at hl 1 rfl) ?_
    refine e_vi (rest := [.ref (E.1 61)]) (As := [.ref (E.1 k1)]) X hl.1 hW hS (C := RX5) (T := TX5) (N := 15) rfl (by decide) (ctfX5_costOfAll X.2.2.2.2 F k1 h1 m3) (cwV (rm := rmX5_costOfAll) 1 X.1.2.2.2.2 (gd_V mw_3_24 mw_3_26 mw_0_2 mw_1_8 mw_3_27) rfl rfl rfl (by decide +kernel) ⟨Nat.le_of_ble_eq_true rfl, Nat.le_of_ble_eq_true rfl⟩) rfl rfl (Nat.le_of_ble_eq_true rfl) dX5_joinAll_71 ⟨Nat.zero_le _, Nat.zero_le _⟩ hf (fun r5 m4 H locs hf hW hS => ?_)
    refine e_put X hW hS (C := RX5) (T := TX5) (N := 15) (j := 12) (tyF := tyX5) rfl (by decide) inX5 tyX5_ok nmX5 (by decide) (by decide) rfl rfl mw_1_183 rfl rfl rfl dX5_joinAll_74 hf (fun m6 H locs hf hW hS => ?_)
    refine lv_aload_n X.1.1 X.1.2.1 dX5_joinAll_77 rfl (lv_at hl 0 rfl) ?_
    refine e_vv (rest := []) (As := []) X hl.1 hW hS (C := RX5) (T := TX5) (N := 15) rfl (by decide) (ctfX5_nameRings X.2.2.2.2 F m6) (cwV (rm := rmX5_nameRings) 0 X.1.2.2.2.2 (gd_V mw_3_37 mw_3_39 mw_0_3 mw_1_8 mw_3_40) rfl rfl rfl (by decide +kernel) ⟨Nat.le_of_ble_eq_true rfl, Nat.le_of_ble_eq_true rfl⟩) rfl rfl (Nat.le_of_ble_eq_true rfl) dX5_joinAll_78 ⟨Nat.zero_le _, Nat.zero_le _⟩ hf (fun m7 H locs hf hW hS => ?_)
    refine lv_iconst (v := 0) X.1.1 X.1.2.1 dX5_joinAll_81 (by decide) ?_
    refine lv_istore_n (lv' := [(2, .int 0), (0, .ref (E.1 61)), (1, .ref (E.1 k1))]) X.1.1 X.1.2.1 dX5_joinAll_82 rfl hl (by decide) rfl (fun ls hl => ?_)
    exact wfX5_joinAll_83 X h1 F 0 m7 H locs ls hf hW hS (lv_sub hl [1, 2, 0] rfl)
  · rw [if_neg c37] at hf
    refine lv_aload_n X.1.1 X.1.2.1 dX5_joinAll_40 rfl (lv_at hl 0 rfl) ?_
    refine e_getr X hW (C := RX5) (T := TX5) (N := 15) (j := 4) rfl (by decide) inX5 (by decide) (by decide) rfl (t := 66) rfl rfl mw_1_171 dX5_joinAll_41 ?_
    refine lv_aload_n X.1.1 X.1.2.1 dX5_joinAll_44 rfl (lv_at hl 0 rfl) ?_
    refine e_getr X hW (C := RX5) (T := TX5) (N := 15) (j := 2) rfl (by decide) inX5 (by decide) (by decide) rfl (t := 64) rfl rfl mw_1_169 dX5_joinAll_45 ?_
    refine lv_iload_n X.1.1 X.1.2.1 dX5_joinAll_48 rfl (lv_at hl 2 rfl) ?_
    refine e_ild X hW (by decide) rfl dX5_joinAll_49 hf (fun v8 hf => ?_)
    refine lv_aload_n X.1.1 X.1.2.1 dX5_joinAll_50 rfl (lv_at hl 0 rfl) ?_
    refine e_getr X hW (C := RX5) (T := TX5) (N := 15) (j := 3) rfl (by decide) inX5 (by decide) (by decide) rfl (t := 65) rfl rfl mw_1_170 dX5_joinAll_51 ?_
    refine lv_iload_n X.1.1 X.1.2.1 dX5_joinAll_54 rfl (lv_at hl 2 rfl) ?_
    refine e_ild X hW (by decide) rfl dX5_joinAll_55 hf (fun v9 hf => ?_)
    refine e_ist X hW hS (by decide) rfl dX5_joinAll_56 hf (fun m10 H locs hf hW hS => ?_)
    refine lv_iinc (v := (y2 + 1)) (lv' := [(2, .int (y2 + 1)), (0, .ref (E.1 61)), (1, .ref (E.1 k1))]) X.1.1 X.1.2.1 dX5_joinAll_57 hl (k := 2) rfl rfl (by decide) rfl (fun ls hl => ?_)
    refine lv_goto (tgt := 32) X.1.1 X.1.2.1 dX5_joinAll_60 (by decide) ?_
    exact hrec32 (y2 + 1) m10 H locs ls hf hW hS (lv_sub hl [1, 2, 0] rfl)
theorem wfX5_joinAll_32 {p : Program} {l : Launch} {e : Env} {s : State} {m : MethodId} {args : Array Value} {below : List Frame} {meth : Method} {c : Code} {E : Gv} {F : Nat} {k1 : Nat} {r : Int32} {u : Mem} (X : Fx p m c cX5_joinAll 3 s args (Cond.code yX5_joinAll cX5_joinAll 3 (some .int)) "OvenHouse$Rings" meth (some .int) E) (h1 : isPr k1) (n : Nat) : ∀ (y2 : Int32) (μ : Mem) (H : Heap) (locs : List Loc) (ls : Array Slot) (_ : fX5_joinAll_32 F k1  n y2 μ = some (r, u)) (_ : Wo E μ H) (_ : va_S (AE E) s.heap H locs) (_ : lv_has ls 3 [(0, .ref (E.1 61)), (1, .ref (E.1 k1)), (2, .int y2)]), W0 p l e rmX5_joinAll s m args below meth c H locs (QcI E r u) E (F0 m 32 ls []) := by
  induction n with
  | zero => intro y2 μ H locs ls hf hW hS hl; cases hf
  | succ n ih => intro y2 μ H locs ls hf hW hS hl; exact wfX5_joinAll_32_b X h1 _ ih y2 μ H locs ls hf hW hS hl
set_option maxRecDepth 100000 in
set_option maxHeartbeats 4000000 in
theorem ctfX5_joinAll {l : Launch} {E : Gv} (hD : Do E) (F : Nat) (k1 : Nat) (h1 : isPr k1) (μ : Mem) : CtI l yX5_joinAll ((Cond.code yX5_joinAll cX5_joinAll 3 (some .int)) :: GG) rmX5_joinAll E [.ref (E.1 61), .ref (E.1 k1)] μ (fX5_joinAll F k1 μ) := by
  intro r u hf
  refine of_entry (cc := cX5_joinAll) (maxL := 3) (ret := (some .int)) (by decide +kernel) rfl hD (Nat.le_of_ble_eq_true rfl) (fun p e s m args below meth c X H locs hW hS ls hl => ?_)
  have hl : lv_has ls 3 [(0, .ref (E.1 61)), (1, .ref (E.1 k1))] := hl
  unfold fX5_joinAll at hf
  refine lv_aload_n X.1.1 X.1.2.1 dX5_joinAll_0 rfl (lv_at hl 0 rfl) ?_
  refine e_getr X hW (C := RX5) (T := TX5) (N := 15) (j := 1) rfl (by decide) inX5 (by decide) (by decide) rfl (t := 63) rfl rfl mw_1_167 dX5_joinAll_1 ?_
  refine lv_aload_n X.1.1 X.1.2.1 dX5_joinAll_4 rfl (lv_at hl 0 rfl) ?_
  refine e_geti X hW (C := RX5) (T := TX5) (N := 15) (j := 9) rfl (by decide) inX5 (by decide) (by decide) rfl rfl mw_1_177 dX5_joinAll_5 ?_
  refine lv_aload_n X.1.1 X.1.2.1 dX5_joinAll_8 rfl (lv_at hl 0 rfl) ?_
  refine e_getr X hW (C := RX5) (T := TX5) (N := 15) (j := 2) rfl (by decide) inX5 (by decide) (by decide) rfl (t := 64) rfl rfl mw_1_169 dX5_joinAll_9 ?_
  refine e_snv (rest := []) (As := [.ref (E.1 63), .int (μ 61 9), .ref (E.1 64)]) X hl.1 hW hS (ctfX8_rank X.2.2.2.2 F 63 (μ 61 9) 64 ⟨(by decide), rfl⟩ ⟨(by decide), rfl⟩ μ) ⟨va_cnB (rm := rmX8_rank) (own := "OvenHouse$Rings") (host := "OvenHouse") (index := 60) 3 X.1.2.2.2.2 (gd_N mw_2_184) rfl rfl rfl (X.2.2.2.1.2 ("OvenHouse$Rings", 60, yX8_rank, "OvenHouse") (by decide +kernel)) (X.1.2.2.2.2 _ (List.mem_cons_of_mem _ mw_1_1)) (by decide +kernel) ⟨Nat.le_of_ble_eq_true rfl, Nat.le_of_ble_eq_true rfl⟩, X.1.2.2.2.2 _ (List.mem_cons_of_mem _ mw_2_183), trivial⟩ rfl rfl (Nat.le_of_ble_eq_true rfl) dX5_joinAll_12 ⟨Nat.zero_le _, Nat.zero_le _⟩ hf (fun m1 H locs hf hW hS => ?_)
  refine lv_aload_n X.1.1 X.1.2.1 dX5_joinAll_15 rfl (lv_at hl 0 rfl) ?_
  refine e_getr X hW (C := RX5) (T := TX5) (N := 15) (j := 0) rfl (by decide) inX5 (by decide) (by decide) rfl (t := 62) rfl rfl mw_1_165 dX5_joinAll_16 ?_
  refine lv_aload_n X.1.1 X.1.2.1 dX5_joinAll_19 rfl (lv_at hl 0 rfl) ?_
  refine e_geti X hW (C := RX5) (T := TX5) (N := 15) (j := 9) rfl (by decide) inX5 (by decide) (by decide) rfl rfl mw_1_177 dX5_joinAll_20 ?_
  refine lv_aload_n X.1.1 X.1.2.1 dX5_joinAll_23 rfl (lv_at hl 0 rfl) ?_
  refine e_getr X hW (C := RX5) (T := TX5) (N := 15) (j := 3) rfl (by decide) inX5 (by decide) (by decide) rfl (t := 65) rfl rfl mw_1_170 dX5_joinAll_24 ?_
  refine e_snv (rest := []) (As := [.ref (E.1 62), .int (m1 61 9), .ref (E.1 65)]) X hl.1 hW hS (ctfX8_rank X.2.2.2.2 F 62 (m1 61 9) 65 ⟨(by decide), rfl⟩ ⟨(by decide), rfl⟩ m1) ⟨va_cnB (rm := rmX8_rank) (own := "OvenHouse$Rings") (host := "OvenHouse") (index := 60) 3 X.1.2.2.2.2 (gd_N mw_2_184) rfl rfl rfl (X.2.2.2.1.2 ("OvenHouse$Rings", 60, yX8_rank, "OvenHouse") (by decide +kernel)) (X.1.2.2.2.2 _ (List.mem_cons_of_mem _ mw_1_1)) (by decide +kernel) ⟨Nat.le_of_ble_eq_true rfl, Nat.le_of_ble_eq_true rfl⟩, X.1.2.2.2.2 _ (List.mem_cons_of_mem _ mw_2_183), trivial⟩ rfl rfl (Nat.le_of_ble_eq_true rfl) dX5_joinAll_27 ⟨Nat.zero_le _, Nat.zero_le _⟩ hf (fun m2 H locs hf hW hS => ?_)
  refine lv_iconst (v := 0) X.1.1 X.1.2.1 dX5_joinAll_30 (by decide) ?_
  refine lv_istore_n (lv' := [(2, .int 0), (0, .ref (E.1 61)), (1, .ref (E.1 k1))]) X.1.1 X.1.2.1 dX5_joinAll_31 rfl hl (by decide) rfl (fun ls hl => ?_)
  exact wfX5_joinAll_32 X h1 F 0 m2 H locs ls hf hW hS (lv_sub hl [1, 2, 0] rfl)
-- OvenHouse$Rings.rowFrom
def rmX5_rowFrom : Room := { frames := 0, cells := 0, slots := 0, locals := 0 }
set_option maxRecDepth 100000 in
set_option maxHeartbeats 4000000 in
theorem wfX5_rowFrom_6_b {p : Program} {l : Launch} {e : Env} {s : State} {m : MethodId} {args : Array Value} {below : List Frame} {meth : Method} {c : Code} {E : Gv} {F : Nat} {k2 : Nat} {u : Mem} (X : Fx p m c cX5_rowFrom 6 s args (Cond.code yX5_rowFrom cX5_rowFrom 6 none) "OvenHouse$Rings" meth none E) (h2 : k2 < NC ∧ kd k2 = 10) (rec6 : Int32 → Int32 → Int32 → Mem → Option Mem) (hrec6 : ∀ (y3 : Int32) (y4 : Int32) (y5 : Int32) (μ : Mem) (H : Heap) (locs : List Loc) (ls : Array Slot), rec6 y3 y4 y5 μ = some u → Wo E μ H → va_S (AE E) s.heap H locs → lv_has ls 6 [(0, .ref (E.1 61)), (2, .ref (E.1 k2)), (3, .int y3), (4, .int y4), (5, .int y5)] → W0 p l e rmX5_rowFrom s m args below meth c H locs (QcN E u) E (F0 m 6 ls [])) (y3 : Int32) (y4 : Int32) (y5 : Int32) (μ : Mem) (H : Heap) (locs : List Loc) (ls : Array Slot) (hf : fX5_rowFrom_6_b F k2 rec6 y3 y4 y5 μ = some u) (hW : Wo E μ H) (hS : va_S (AE E) s.heap H locs) (hl : lv_has ls 6 [(0, .ref (E.1 61)), (2, .ref (E.1 k2)), (3, .int y3), (4, .int y4), (5, .int y5)]) : W0 p l e rmX5_rowFrom s m args below meth c H locs (QcN E u) E (F0 m 6 ls []) := by
  unfold fX5_rowFrom_6_b at hf
  refine lv_iload X.1.1 X.1.2.1 dX5_rowFrom_6 (lv_at hl 4 rfl) ?_
  refine lv_iload_n X.1.1 X.1.2.1 dX5_rowFrom_8 rfl (lv_at hl 2 rfl) ?_
  refine lv_icmp_ge (tgt := 33) X.1.1 X.1.2.1 dX5_rowFrom_9 (by decide) (fun c9 => ?_) (fun c9 => ?_)
  · rw [if_pos c9] at hf
    exact e_vret X hW hS hf dX5_rowFrom_33
  · rw [if_neg c9] at hf
    refine lv_aload_n X.1.1 X.1.2.1 dX5_rowFrom_12 rfl (lv_at hl 1 rfl) ?_
    refine lv_iload X.1.1 X.1.2.1 dX5_rowFrom_13 (lv_at hl 4 rfl) ?_
    refine lv_iload X.1.1 X.1.2.1 dX5_rowFrom_15 (lv_at hl 3 rfl) ?_
    refine e_ist X hW hS h2.1 h2.2 dX5_rowFrom_17 hf (fun m1 H locs hf hW hS => ?_)
    refine lv_aload_n X.1.1 X.1.2.1 dX5_rowFrom_18 rfl (lv_at hl 0 rfl) ?_
    refine e_getr X hW (C := RX5) (T := TX5) (N := 15) (j := 4) rfl (by decide) inX5 (by decide) (by decide) rfl (t := 66) rfl rfl mw_1_171 dX5_rowFrom_19 ?_
    refine lv_iload X.1.1 X.1.2.1 dX5_rowFrom_22 (lv_at hl 3 rfl) ?_
    refine e_ild X hW (by decide) rfl dX5_rowFrom_24 hf (fun v2 hf => ?_)
    refine lv_istore (lv' := [(4, .int v2), (0, .ref (E.1 61)), (2, .ref (E.1 k2)), (3, .int y3), (5, .int y5)]) X.1.1 X.1.2.1 dX5_rowFrom_25 hl (by decide) rfl (fun ls hl => ?_)
    refine lv_iinc (v := (y5 + 1)) (lv' := [(5, .int (y5 + 1)), (4, .int v2), (0, .ref (E.1 61)), (2, .ref (E.1 k2)), (3, .int y3)]) X.1.1 X.1.2.1 dX5_rowFrom_27 hl (k := 4) rfl rfl (by decide) rfl (fun ls hl => ?_)
    refine lv_goto (tgt := 6) X.1.1 X.1.2.1 dX5_rowFrom_30 (by decide) ?_
    exact hrec6 y3 v2 (y5 + 1) m1 H locs ls hf hW hS (lv_sub hl [2, 3, 4, 1, 0] rfl)
theorem wfX5_rowFrom_6 {p : Program} {l : Launch} {e : Env} {s : State} {m : MethodId} {args : Array Value} {below : List Frame} {meth : Method} {c : Code} {E : Gv} {F : Nat} {k2 : Nat} {u : Mem} (X : Fx p m c cX5_rowFrom 6 s args (Cond.code yX5_rowFrom cX5_rowFrom 6 none) "OvenHouse$Rings" meth none E) (h2 : k2 < NC ∧ kd k2 = 10) (n : Nat) : ∀ (y3 : Int32) (y4 : Int32) (y5 : Int32) (μ : Mem) (H : Heap) (locs : List Loc) (ls : Array Slot) (_ : fX5_rowFrom_6 F k2  n y3 y4 y5 μ = some u) (_ : Wo E μ H) (_ : va_S (AE E) s.heap H locs) (_ : lv_has ls 6 [(0, .ref (E.1 61)), (2, .ref (E.1 k2)), (3, .int y3), (4, .int y4), (5, .int y5)]), W0 p l e rmX5_rowFrom s m args below meth c H locs (QcN E u) E (F0 m 6 ls []) := by
  induction n with
  | zero => intro y3 y4 y5 μ H locs ls hf hW hS hl; cases hf
  | succ n ih => intro y3 y4 y5 μ H locs ls hf hW hS hl; exact wfX5_rowFrom_6_b X h2 _ ih y3 y4 y5 μ H locs ls hf hW hS hl
set_option maxRecDepth 100000 in
set_option maxHeartbeats 4000000 in
theorem ctfX5_rowFrom {l : Launch} {E : Gv} (hD : Do E) (F : Nat) (x1 : Int32) (k2 : Nat) (x3 : Int32) (h2 : k2 < NC ∧ kd k2 = 10) (μ : Mem) : CtV l yX5_rowFrom ((Cond.code yX5_rowFrom cX5_rowFrom 6 none) :: GG) rmX5_rowFrom E [.ref (E.1 61), .int x1, .ref (E.1 k2), .int x3] μ (fX5_rowFrom F x1 k2 x3 μ) := by
  intro u hf
  refine of_entry (cc := cX5_rowFrom) (maxL := 6) (ret := none) (by decide +kernel) rfl hD (Nat.le_of_ble_eq_true rfl) (fun p e s m args below meth c X H locs hW hS ls hl => ?_)
  have hl : lv_has ls 6 [(0, .ref (E.1 61)), (1, .int x1), (2, .ref (E.1 k2)), (3, .int x3)] := hl
  unfold fX5_rowFrom at hf
  refine lv_iload_n X.1.1 X.1.2.1 dX5_rowFrom_0 rfl (lv_at hl 1 rfl) ?_
  refine lv_istore (lv' := [(4, .int x1), (0, .ref (E.1 61)), (1, .int x1), (2, .ref (E.1 k2)), (3, .int x3)]) X.1.1 X.1.2.1 dX5_rowFrom_1 hl (by decide) rfl (fun ls hl => ?_)
  refine lv_iconst (v := 0) X.1.1 X.1.2.1 dX5_rowFrom_3 (by decide) ?_
  refine lv_istore (lv' := [(5, .int 0), (4, .int x1), (0, .ref (E.1 61)), (1, .int x1), (2, .ref (E.1 k2)), (3, .int x3)]) X.1.1 X.1.2.1 dX5_rowFrom_4 hl (by decide) rfl (fun ls hl => ?_)
  exact wfX5_rowFrom_6 X h2 F x3 x1 0 μ H locs ls hf hW hS (lv_sub hl [2, 4, 5, 1, 0] rfl)
-- OvenHouse$Rows.begin
def rmX6_begin : Room := { frames := 0, cells := 0, slots := 0, locals := 0 }
set_option maxRecDepth 100000 in
set_option maxHeartbeats 4000000 in
theorem wfX6_begin_7_b {p : Program} {l : Launch} {e : Env} {s : State} {m : MethodId} {args : Array Value} {below : List Frame} {meth : Method} {c : Code} {E : Gv} {F : Nat}  {u : Mem} (X : Fx p m c cX6_begin 3 s args (Cond.code yX6_begin cX6_begin 3 none) "OvenHouse$Rows" meth none E)  (rec7 : Int32 → Mem → Option Mem) (hrec7 : ∀ (y2 : Int32) (μ : Mem) (H : Heap) (locs : List Loc) (ls : Array Slot), rec7 y2 μ = some u → Wo E μ H → va_S (AE E) s.heap H locs → lv_has ls 3 [(0, .ref (E.1 71)), (2, .int y2)] → W0 p l e rmX6_begin s m args below meth c H locs (QcN E u) E (F0 m 7 ls [])) (y2 : Int32) (μ : Mem) (H : Heap) (locs : List Loc) (ls : Array Slot) (hf : fX6_begin_7_b F  rec7 y2 μ = some u) (hW : Wo E μ H) (hS : va_S (AE E) s.heap H locs) (hl : lv_has ls 3 [(0, .ref (E.1 71)), (2, .int y2)]) : W0 p l e rmX6_begin s m args below meth c H locs (QcN E u) E (F0 m 7 ls []) := by
  unfold fX6_begin_7_b at hf
  refine lv_iload_n X.1.1 X.1.2.1 dX6_begin_7 rfl (lv_at hl 1 rfl) ?_
  refine lv_aload_n X.1.1 X.1.2.1 dX6_begin_8 rfl (lv_at hl 0 rfl) ?_
  refine e_geti X hW (C := RX6) (T := TX6) (N := 2) (j := 1) rfl (by decide) inX6 (by decide) (by decide) rfl rfl mw_1_229 dX6_begin_9 ?_
  refine lv_icmp_ge (tgt := 28) X.1.1 X.1.2.1 dX6_begin_12 (by decide) (fun c12 => ?_) (fun c12 => ?_)
  · rw [if_pos c12] at hf
    exact e_vret X hW hS hf dX6_begin_28
  · rw [if_neg c12] at hf
    refine lv_aload_n X.1.1 X.1.2.1 dX6_begin_15 rfl (lv_at hl 0 rfl) ?_
    refine e_getr X hW (C := RX6) (T := TX6) (N := 2) (j := 0) rfl (by decide) inX6 (by decide) (by decide) rfl (t := 72) rfl rfl mw_1_227 dX6_begin_16 ?_
    refine lv_iload_n X.1.1 X.1.2.1 dX6_begin_19 rfl (lv_at hl 1 rfl) ?_
    refine lv_iload_n X.1.1 X.1.2.1 dX6_begin_20 rfl (lv_at hl 1 rfl) ?_
    refine e_ist X hW hS (by decide) rfl dX6_begin_21 hf (fun m2 H locs hf hW hS => ?_)
    refine lv_iinc (v := (y2 + 1)) (lv' := [(2, .int (y2 + 1)), (0, .ref (E.1 71))]) X.1.1 X.1.2.1 dX6_begin_22 hl (k := 1) rfl rfl (by decide) rfl (fun ls hl => ?_)
    refine lv_goto (tgt := 7) X.1.1 X.1.2.1 dX6_begin_25 (by decide) ?_
    exact hrec7 (y2 + 1) m2 H locs ls hf hW hS (lv_sub hl [1, 0] rfl)
theorem wfX6_begin_7 {p : Program} {l : Launch} {e : Env} {s : State} {m : MethodId} {args : Array Value} {below : List Frame} {meth : Method} {c : Code} {E : Gv} {F : Nat}  {u : Mem} (X : Fx p m c cX6_begin 3 s args (Cond.code yX6_begin cX6_begin 3 none) "OvenHouse$Rows" meth none E)  (n : Nat) : ∀ (y2 : Int32) (μ : Mem) (H : Heap) (locs : List Loc) (ls : Array Slot) (_ : fX6_begin_7 F   n y2 μ = some u) (_ : Wo E μ H) (_ : va_S (AE E) s.heap H locs) (_ : lv_has ls 3 [(0, .ref (E.1 71)), (2, .int y2)]), W0 p l e rmX6_begin s m args below meth c H locs (QcN E u) E (F0 m 7 ls []) := by
  induction n with
  | zero => intro y2 μ H locs ls hf hW hS hl; cases hf
  | succ n ih => intro y2 μ H locs ls hf hW hS hl; exact wfX6_begin_7_b X  _ ih y2 μ H locs ls hf hW hS hl
set_option maxRecDepth 100000 in
set_option maxHeartbeats 4000000 in
theorem ctfX6_begin {l : Launch} {E : Gv} (hD : Do E) (F : Nat) (x1 : Int32)  (μ : Mem) : CtV l yX6_begin ((Cond.code yX6_begin cX6_begin 3 none) :: GG) rmX6_begin E [.ref (E.1 71), .int x1] μ (fX6_begin F x1 μ) := by
  intro u hf
  refine of_entry (cc := cX6_begin) (maxL := 3) (ret := none) (by decide +kernel) rfl hD (Nat.le_of_ble_eq_true rfl) (fun p e s m args below meth c X H locs hW hS ls hl => ?_)
  have hl : lv_has ls 3 [(0, .ref (E.1 71)), (1, .int x1)] := hl
  unfold fX6_begin at hf
  refine lv_aload_n X.1.1 X.1.2.1 dX6_begin_0 rfl (lv_at hl 0 rfl) ?_
  refine lv_iload_n X.1.1 X.1.2.1 dX6_begin_1 rfl (lv_at hl 1 rfl) ?_
  refine e_put X hW hS (C := RX6) (T := TX6) (N := 2) (j := 1) (tyF := tyX6) rfl (by decide) inX6 tyX6_ok nmX6 (by decide) (by decide) rfl rfl mw_1_229 rfl rfl rfl dX6_begin_2 hf (fun m1 H locs hf hW hS => ?_)
  refine lv_iconst (v := 0) X.1.1 X.1.2.1 dX6_begin_5 (by decide) ?_
  refine lv_istore_n (lv' := [(2, .int 0), (0, .ref (E.1 71)), (1, .int x1)]) X.1.1 X.1.2.1 dX6_begin_6 rfl hl (by decide) rfl (fun ls hl => ?_)
  exact wfX6_begin_7 X  F 0 m1 H locs ls hf hW hS (lv_sub hl [1, 0] rfl)
-- OvenHouse$Rows.step
def rmX6_step : Room := { frames := 1, cells := 0, slots := 0, locals := 23 }
set_option maxRecDepth 100000 in
set_option maxHeartbeats 4000000 in
theorem wfX6_step_96_b {p : Program} {l : Launch} {e : Env} {s : State} {m : MethodId} {args : Array Value} {below : List Frame} {meth : Method} {c : Code} {E : Gv} {F : Nat}  {r : Int32} {u : Mem} (X : Fx p m c cX6_step 5 s args (Cond.code yX6_step cX6_step 5 (some .int)) "OvenHouse$Rows" meth (some .int) E)  (rec96 : Int32 → Int32 → Int32 → Mem → Option (Int32 × Mem)) (hrec96 : ∀ (y1 : Int32) (y3 : Int32) (y4 : Int32) (μ : Mem) (H : Heap) (locs : List Loc) (ls : Array Slot), rec96 y1 y3 y4 μ = some (r, u) → Wo E μ H → va_S (AE E) s.heap H locs → lv_has ls 5 [(0, .ref (E.1 71)), (1, .int y1), (3, .int y3), (4, .int y4)] → W0 p l e rmX6_step s m args below meth c H locs (QcI E r u) E (F0 m 96 ls [])) (y1 : Int32) (y3 : Int32) (y4 : Int32) (μ : Mem) (H : Heap) (locs : List Loc) (ls : Array Slot) (hf : fX6_step_96_b F  rec96 y1 y3 y4 μ = some (r, u)) (hW : Wo E μ H) (hS : va_S (AE E) s.heap H locs) (hl : lv_has ls 5 [(0, .ref (E.1 71)), (1, .int y1), (3, .int y3), (4, .int y4)]) : W0 p l e rmX6_step s m args below meth c H locs (QcI E r u) E (F0 m 96 ls []) := by
  unfold fX6_step_96_b at hf
  refine lv_iload_n X.1.1 X.1.2.1 dX6_step_96 rfl (lv_at hl 2 rfl) ?_
  refine lv_iload X.1.1 X.1.2.1 dX6_step_97 (lv_at hl 3 rfl) ?_
  refine lv_icmp_ge (tgt := 121) X.1.1 X.1.2.1 dX6_step_99 (by decide) (fun c99 => ?_) (fun c99 => ?_)
  · rw [if_pos c99] at hf
    refine lv_iload_n X.1.1 X.1.2.1 dX6_step_121 rfl (lv_at hl 1 rfl) ?_
    exact e_iret X hW hS hf dX6_step_122
  · rw [if_neg c99] at hf
    refine lv_aload_n X.1.1 X.1.2.1 dX6_step_102 rfl (lv_at hl 0 rfl) ?_
    refine e_getr X hW (C := RX6) (T := TX6) (N := 2) (j := 0) rfl (by decide) inX6 (by decide) (by decide) rfl (t := 72) rfl rfl mw_1_227 dX6_step_103 ?_
    refine lv_iload_n X.1.1 X.1.2.1 dX6_step_106 rfl (lv_at hl 2 rfl) ?_
    refine lv_iload X.1.1 X.1.2.1 dX6_step_107 (lv_at hl 3 rfl) ?_
    refine e_snv (rest := []) (As := [.ref (E.1 72), .int y3, .int y4]) X hl.1 hW hS (ctfX8_exchange X.2.2.2.2 F 72 y3 y4 ⟨(by decide), rfl⟩ μ) ⟨va_cnB (rm := rmX8_exchange) (own := "OvenHouse$Rows") (host := "OvenHouse") (index := 19) 3 X.1.2.2.2.2 (gd_N mw_2_172) rfl rfl rfl (X.2.2.2.1.2 ("OvenHouse$Rows", 19, yX8_exchange, "OvenHouse") (by decide +kernel)) (X.1.2.2.2.2 _ (List.mem_cons_of_mem _ mw_1_1)) (by decide +kernel) ⟨Nat.le_of_ble_eq_true rfl, Nat.le_of_ble_eq_true rfl⟩, X.1.2.2.2.2 _ (List.mem_cons_of_mem _ mw_2_171), trivial⟩ rfl rfl (Nat.le_of_ble_eq_true rfl) dX6_step_109 ⟨Nat.zero_le _, Nat.zero_le _⟩ hf (fun m6 H locs hf hW hS => ?_)
    refine lv_iinc (v := (y3 + 1)) (lv' := [(3, .int (y3 + 1)), (0, .ref (E.1 71)), (1, .int y1), (4, .int y4)]) X.1.1 X.1.2.1 dX6_step_112 hl (k := 2) rfl rfl (by decide) rfl (fun ls hl => ?_)
    refine lv_iinc (v := (y4 + (-1))) (lv' := [(4, .int (y4 + (-1))), (3, .int (y3 + 1)), (0, .ref (E.1 71)), (1, .int y1)]) X.1.1 X.1.2.1 dX6_step_115 hl (k := 3) rfl rfl (by decide) rfl (fun ls hl => ?_)
    refine lv_goto (tgt := 96) X.1.1 X.1.2.1 dX6_step_118 (by decide) ?_
    exact hrec96 y1 (y3 + 1) (y4 + (-1)) m6 H locs ls hf hW hS (lv_sub hl [2, 3, 1, 0] rfl)
theorem wfX6_step_96 {p : Program} {l : Launch} {e : Env} {s : State} {m : MethodId} {args : Array Value} {below : List Frame} {meth : Method} {c : Code} {E : Gv} {F : Nat}  {r : Int32} {u : Mem} (X : Fx p m c cX6_step 5 s args (Cond.code yX6_step cX6_step 5 (some .int)) "OvenHouse$Rows" meth (some .int) E)  (n : Nat) : ∀ (y1 : Int32) (y3 : Int32) (y4 : Int32) (μ : Mem) (H : Heap) (locs : List Loc) (ls : Array Slot) (_ : fX6_step_96 F   n y1 y3 y4 μ = some (r, u)) (_ : Wo E μ H) (_ : va_S (AE E) s.heap H locs) (_ : lv_has ls 5 [(0, .ref (E.1 71)), (1, .int y1), (3, .int y3), (4, .int y4)]), W0 p l e rmX6_step s m args below meth c H locs (QcI E r u) E (F0 m 96 ls []) := by
  induction n with
  | zero => intro y1 y3 y4 μ H locs ls hf hW hS hl; cases hf
  | succ n ih => intro y1 y3 y4 μ H locs ls hf hW hS hl; exact wfX6_step_96_b X  _ ih y1 y3 y4 μ H locs ls hf hW hS hl
set_option maxRecDepth 100000 in
set_option maxHeartbeats 4000000 in
theorem wfX6_step_75 {p : Program} {l : Launch} {e : Env} {s : State} {m : MethodId} {args : Array Value} {below : List Frame} {meth : Method} {c : Code} {E : Gv} {F : Nat}  {r : Int32} {u : Mem} (X : Fx p m c cX6_step 5 s args (Cond.code yX6_step cX6_step 5 (some .int)) "OvenHouse$Rows" meth (some .int) E)  (y1 : Int32) (y2 : Int32) (μ : Mem) (H : Heap) (locs : List Loc) (ls : Array Slot) (hf : fX6_step_75 F   y1 y2 μ = some (r, u)) (hW : Wo E μ H) (hS : va_S (AE E) s.heap H locs) (hl : lv_has ls 5 [(0, .ref (E.1 71)), (1, .int y1), (2, .int y2)]) : W0 p l e rmX6_step s m args below meth c H locs (QcI E r u) E (F0 m 75 ls []) := by
  unfold fX6_step_75 at hf
  refine lv_aload_n X.1.1 X.1.2.1 dX6_step_75 rfl (lv_at hl 0 rfl) ?_
  refine e_getr X hW (C := RX6) (T := TX6) (N := 2) (j := 0) rfl (by decide) inX6 (by decide) (by decide) rfl (t := 72) rfl rfl mw_1_227 dX6_step_76 ?_
  refine lv_iload_n X.1.1 X.1.2.1 dX6_step_79 rfl (lv_at hl 1 rfl) ?_
  refine lv_iload_n X.1.1 X.1.2.1 dX6_step_80 rfl (lv_at hl 2 rfl) ?_
  refine e_snv (rest := []) (As := [.ref (E.1 72), .int y1, .int y2]) X hl.1 hW hS (ctfX8_exchange X.2.2.2.2 F 72 y1 y2 ⟨(by decide), rfl⟩ μ) ⟨va_cnB (rm := rmX8_exchange) (own := "OvenHouse$Rows") (host := "OvenHouse") (index := 19) 3 X.1.2.2.2.2 (gd_N mw_2_172) rfl rfl rfl (X.2.2.2.1.2 ("OvenHouse$Rows", 19, yX8_exchange, "OvenHouse") (by decide +kernel)) (X.1.2.2.2.2 _ (List.mem_cons_of_mem _ mw_1_1)) (by decide +kernel) ⟨Nat.le_of_ble_eq_true rfl, Nat.le_of_ble_eq_true rfl⟩, X.1.2.2.2.2 _ (List.mem_cons_of_mem _ mw_2_171), trivial⟩ rfl rfl (Nat.le_of_ble_eq_true rfl) dX6_step_81 ⟨Nat.zero_le _, Nat.zero_le _⟩ hf (fun m5 H locs hf hW hS => ?_)
  refine lv_iload_n X.1.1 X.1.2.1 dX6_step_84 rfl (lv_at hl 1 rfl) ?_
  refine lv_iconst (v := 1) X.1.1 X.1.2.1 dX6_step_85 (by decide) ?_
  refine lv_iadd X.1.1 X.1.2.1 dX6_step_86 ?_
  refine lv_istore_n (lv' := [(3, .int (y1 + 1)), (0, .ref (E.1 71)), (1, .int y1), (2, .int y2)]) X.1.1 X.1.2.1 dX6_step_87 rfl hl (by decide) rfl (fun ls hl => ?_)
  refine lv_aload_n X.1.1 X.1.2.1 dX6_step_88 rfl (lv_at hl 1 rfl) ?_
  refine e_geti X hW (C := RX6) (T := TX6) (N := 2) (j := 1) rfl (by decide) inX6 (by decide) (by decide) rfl rfl mw_1_229 dX6_step_89 ?_
  refine lv_iconst (v := 1) X.1.1 X.1.2.1 dX6_step_92 (by decide) ?_
  refine lv_isub X.1.1 X.1.2.1 dX6_step_93 ?_
  refine lv_istore (lv' := [(4, .int ((m5 71 1) - 1)), (3, .int (y1 + 1)), (0, .ref (E.1 71)), (1, .int y1), (2, .int y2)]) X.1.1 X.1.2.1 dX6_step_94 hl (by decide) rfl (fun ls hl => ?_)
  exact wfX6_step_96 X  F y1 (y1 + 1) ((m5 71 1) - 1) m5 H locs ls hf hW hS (lv_sub hl [2, 3, 1, 0] rfl)
set_option maxRecDepth 100000 in
set_option maxHeartbeats 4000000 in
theorem wfX6_step_47_b {p : Program} {l : Launch} {e : Env} {s : State} {m : MethodId} {args : Array Value} {below : List Frame} {meth : Method} {c : Code} {E : Gv} {F : Nat}  {r : Int32} {u : Mem} (X : Fx p m c cX6_step 5 s args (Cond.code yX6_step cX6_step 5 (some .int)) "OvenHouse$Rows" meth (some .int) E)  (rec47 : Int32 → Int32 → Mem → Option (Int32 × Mem)) (hrec47 : ∀ (y1 : Int32) (y2 : Int32) (μ : Mem) (H : Heap) (locs : List Loc) (ls : Array Slot), rec47 y1 y2 μ = some (r, u) → Wo E μ H → va_S (AE E) s.heap H locs → lv_has ls 5 [(0, .ref (E.1 71)), (1, .int y1), (2, .int y2)] → W0 p l e rmX6_step s m args below meth c H locs (QcI E r u) E (F0 m 47 ls [])) (y1 : Int32) (y2 : Int32) (μ : Mem) (H : Heap) (locs : List Loc) (ls : Array Slot) (hf : fX6_step_47_b F  rec47 y1 y2 μ = some (r, u)) (hW : Wo E μ H) (hS : va_S (AE E) s.heap H locs) (hl : lv_has ls 5 [(0, .ref (E.1 71)), (1, .int y1), (2, .int y2)]) : W0 p l e rmX6_step s m args below meth c H locs (QcI E r u) E (F0 m 47 ls []) := by
  unfold fX6_step_47_b at hf
  refine lv_iload_n X.1.1 X.1.2.1 dX6_step_47 rfl (lv_at hl 2 rfl) ?_
  refine lv_iload_n X.1.1 X.1.2.1 dX6_step_48 rfl (lv_at hl 1 rfl) ?_
  refine lv_iconst (v := 1) X.1.1 X.1.2.1 dX6_step_49 (by decide) ?_
  refine lv_iadd X.1.1 X.1.2.1 dX6_step_50 ?_
  refine lv_icmp_le (tgt := 75) X.1.1 X.1.2.1 dX6_step_51 (by decide) (fun c51 => ?_) (fun c51 => ?_)
  · rw [if_pos c51] at hf
    exact wfX6_step_75 X  y1 y2 μ H locs ls hf hW hS (lv_sub hl [0, 1, 2] rfl)
  · rw [if_neg c51] at hf
    refine lv_aload_n X.1.1 X.1.2.1 dX6_step_54 rfl (lv_at hl 0 rfl) ?_
    refine e_getr X hW (C := RX6) (T := TX6) (N := 2) (j := 0) rfl (by decide) inX6 (by decide) (by decide) rfl (t := 72) rfl rfl mw_1_227 dX6_step_55 ?_
    refine lv_iload_n X.1.1 X.1.2.1 dX6_step_58 rfl (lv_at hl 2 rfl) ?_
    refine e_ild X hW (by decide) rfl dX6_step_59 hf (fun v3 hf => ?_)
    refine lv_aload_n X.1.1 X.1.2.1 dX6_step_60 rfl (lv_at hl 0 rfl) ?_
    refine e_getr X hW (C := RX6) (T := TX6) (N := 2) (j := 0) rfl (by decide) inX6 (by decide) (by decide) rfl (t := 72) rfl rfl mw_1_227 dX6_step_61 ?_
    refine lv_iload_n X.1.1 X.1.2.1 dX6_step_64 rfl (lv_at hl 1 rfl) ?_
    refine e_ild X hW (by decide) rfl dX6_step_65 hf (fun v4 hf => ?_)
    refine lv_icmp_ge (tgt := 75) X.1.1 X.1.2.1 dX6_step_66 (by decide) (fun c66 => ?_) (fun c66 => ?_)
    · rw [if_pos c66] at hf
      exact wfX6_step_75 X  y1 y2 μ H locs ls hf hW hS (lv_sub hl [0, 1, 2] rfl)
    · rw [if_neg c66] at hf
      refine lv_iinc (v := (y2 + (-1))) (lv' := [(2, .int (y2 + (-1))), (0, .ref (E.1 71)), (1, .int y1)]) X.1.1 X.1.2.1 dX6_step_69 hl (k := 2) rfl rfl (by decide) rfl (fun ls hl => ?_)
      refine lv_goto (tgt := 47) X.1.1 X.1.2.1 dX6_step_72 (by decide) ?_
      exact hrec47 y1 (y2 + (-1)) μ H locs ls hf hW hS (lv_sub hl [1, 2, 0] rfl)
theorem wfX6_step_47 {p : Program} {l : Launch} {e : Env} {s : State} {m : MethodId} {args : Array Value} {below : List Frame} {meth : Method} {c : Code} {E : Gv} {F : Nat}  {r : Int32} {u : Mem} (X : Fx p m c cX6_step 5 s args (Cond.code yX6_step cX6_step 5 (some .int)) "OvenHouse$Rows" meth (some .int) E)  (n : Nat) : ∀ (y1 : Int32) (y2 : Int32) (μ : Mem) (H : Heap) (locs : List Loc) (ls : Array Slot) (_ : fX6_step_47 F   n y1 y2 μ = some (r, u)) (_ : Wo E μ H) (_ : va_S (AE E) s.heap H locs) (_ : lv_has ls 5 [(0, .ref (E.1 71)), (1, .int y1), (2, .int y2)]), W0 p l e rmX6_step s m args below meth c H locs (QcI E r u) E (F0 m 47 ls []) := by
  induction n with
  | zero => intro y1 y2 μ H locs ls hf hW hS hl; cases hf
  | succ n ih => intro y1 y2 μ H locs ls hf hW hS hl; exact wfX6_step_47_b X  _ ih y1 y2 μ H locs ls hf hW hS hl
set_option maxRecDepth 100000 in
set_option maxHeartbeats 4000000 in
theorem wfX6_step_34 {p : Program} {l : Launch} {e : Env} {s : State} {m : MethodId} {args : Array Value} {below : List Frame} {meth : Method} {c : Code} {E : Gv} {F : Nat}  {r : Int32} {u : Mem} (X : Fx p m c cX6_step 5 s args (Cond.code yX6_step cX6_step 5 (some .int)) "OvenHouse$Rows" meth (some .int) E)  (y1 : Int32) (μ : Mem) (H : Heap) (locs : List Loc) (ls : Array Slot) (hf : fX6_step_34 F   y1 μ = some (r, u)) (hW : Wo E μ H) (hS : va_S (AE E) s.heap H locs) (hl : lv_has ls 5 [(0, .ref (E.1 71)), (1, .int y1)]) : W0 p l e rmX6_step s m args below meth c H locs (QcI E r u) E (F0 m 34 ls []) := by
  unfold fX6_step_34 at hf
  refine lv_iload_n X.1.1 X.1.2.1 dX6_step_34 rfl (lv_at hl 1 rfl) ?_
  refine lv_if_ge (tgt := 40) X.1.1 X.1.2.1 dX6_step_35 (by decide) (fun c35 => ?_) (fun c35 => ?_)
  · rw [if_pos c35] at hf
    refine lv_aload_n X.1.1 X.1.2.1 dX6_step_40 rfl (lv_at hl 0 rfl) ?_
    refine e_geti X hW (C := RX6) (T := TX6) (N := 2) (j := 1) rfl (by decide) inX6 (by decide) (by decide) rfl rfl mw_1_229 dX6_step_41 ?_
    refine lv_iconst (v := 1) X.1.1 X.1.2.1 dX6_step_44 (by decide) ?_
    refine lv_isub X.1.1 X.1.2.1 dX6_step_45 ?_
    refine lv_istore_n (lv' := [(2, .int ((μ 71 1) - 1)), (0, .ref (E.1 71)), (1, .int y1)]) X.1.1 X.1.2.1 dX6_step_46 rfl hl (by decide) rfl (fun ls hl => ?_)
    exact wfX6_step_47 X  F y1 ((μ 71 1) - 1) μ H locs ls hf hW hS (lv_sub hl [1, 2, 0] rfl)
  · rw [if_neg c35] at hf
    refine lv_iconst (v := (-1)) X.1.1 X.1.2.1 dX6_step_38 (by decide) ?_
    exact e_iret X hW hS hf dX6_step_39
set_option maxRecDepth 100000 in
set_option maxHeartbeats 4000000 in
theorem wfX6_step_7_b {p : Program} {l : Launch} {e : Env} {s : State} {m : MethodId} {args : Array Value} {below : List Frame} {meth : Method} {c : Code} {E : Gv} {F : Nat}  {r : Int32} {u : Mem} (X : Fx p m c cX6_step 5 s args (Cond.code yX6_step cX6_step 5 (some .int)) "OvenHouse$Rows" meth (some .int) E)  (rec7 : Int32 → Mem → Option (Int32 × Mem)) (hrec7 : ∀ (y1 : Int32) (μ : Mem) (H : Heap) (locs : List Loc) (ls : Array Slot), rec7 y1 μ = some (r, u) → Wo E μ H → va_S (AE E) s.heap H locs → lv_has ls 5 [(0, .ref (E.1 71)), (1, .int y1)] → W0 p l e rmX6_step s m args below meth c H locs (QcI E r u) E (F0 m 7 ls [])) (y1 : Int32) (μ : Mem) (H : Heap) (locs : List Loc) (ls : Array Slot) (hf : fX6_step_7_b F  rec7 y1 μ = some (r, u)) (hW : Wo E μ H) (hS : va_S (AE E) s.heap H locs) (hl : lv_has ls 5 [(0, .ref (E.1 71)), (1, .int y1)]) : W0 p l e rmX6_step s m args below meth c H locs (QcI E r u) E (F0 m 7 ls []) := by
  unfold fX6_step_7_b at hf
  refine lv_iload_n X.1.1 X.1.2.1 dX6_step_7 rfl (lv_at hl 1 rfl) ?_
  refine lv_if_lt (tgt := 34) X.1.1 X.1.2.1 dX6_step_8 (by decide) (fun c8 => ?_) (fun c8 => ?_)
  · rw [if_pos c8] at hf
    exact wfX6_step_34 X  y1 μ H locs ls hf hW hS (lv_sub hl [0, 1] rfl)
  · rw [if_neg c8] at hf
    refine lv_aload_n X.1.1 X.1.2.1 dX6_step_11 rfl (lv_at hl 0 rfl) ?_
    refine e_getr X hW (C := RX6) (T := TX6) (N := 2) (j := 0) rfl (by decide) inX6 (by decide) (by decide) rfl (t := 72) rfl rfl mw_1_227 dX6_step_12 ?_
    refine lv_iload_n X.1.1 X.1.2.1 dX6_step_15 rfl (lv_at hl 1 rfl) ?_
    refine e_ild X hW (by decide) rfl dX6_step_16 hf (fun v1 hf => ?_)
    refine lv_aload_n X.1.1 X.1.2.1 dX6_step_17 rfl (lv_at hl 0 rfl) ?_
    refine e_getr X hW (C := RX6) (T := TX6) (N := 2) (j := 0) rfl (by decide) inX6 (by decide) (by decide) rfl (t := 72) rfl rfl mw_1_227 dX6_step_18 ?_
    refine lv_iload_n X.1.1 X.1.2.1 dX6_step_21 rfl (lv_at hl 1 rfl) ?_
    refine lv_iconst (v := 1) X.1.1 X.1.2.1 dX6_step_22 (by decide) ?_
    refine lv_iadd X.1.1 X.1.2.1 dX6_step_23 ?_
    refine e_ild X hW (by decide) rfl dX6_step_24 hf (fun v2 hf => ?_)
    refine lv_icmp_le (tgt := 34) X.1.1 X.1.2.1 dX6_step_25 (by decide) (fun c25 => ?_) (fun c25 => ?_)
    · rw [if_pos c25] at hf
      exact wfX6_step_34 X  y1 μ H locs ls hf hW hS (lv_sub hl [0, 1] rfl)
    · rw [if_neg c25] at hf
      refine lv_iinc (v := (y1 + (-1))) (lv' := [(1, .int (y1 + (-1))), (0, .ref (E.1 71))]) X.1.1 X.1.2.1 dX6_step_28 hl (k := 1) rfl rfl (by decide) rfl (fun ls hl => ?_)
      refine lv_goto (tgt := 7) X.1.1 X.1.2.1 dX6_step_31 (by decide) ?_
      exact hrec7 (y1 + (-1)) μ H locs ls hf hW hS (lv_sub hl [1, 0] rfl)
theorem wfX6_step_7 {p : Program} {l : Launch} {e : Env} {s : State} {m : MethodId} {args : Array Value} {below : List Frame} {meth : Method} {c : Code} {E : Gv} {F : Nat}  {r : Int32} {u : Mem} (X : Fx p m c cX6_step 5 s args (Cond.code yX6_step cX6_step 5 (some .int)) "OvenHouse$Rows" meth (some .int) E)  (n : Nat) : ∀ (y1 : Int32) (μ : Mem) (H : Heap) (locs : List Loc) (ls : Array Slot) (_ : fX6_step_7 F   n y1 μ = some (r, u)) (_ : Wo E μ H) (_ : va_S (AE E) s.heap H locs) (_ : lv_has ls 5 [(0, .ref (E.1 71)), (1, .int y1)]), W0 p l e rmX6_step s m args below meth c H locs (QcI E r u) E (F0 m 7 ls []) := by
  induction n with
  | zero => intro y1 μ H locs ls hf hW hS hl; cases hf
  | succ n ih => intro y1 μ H locs ls hf hW hS hl; exact wfX6_step_7_b X  _ ih y1 μ H locs ls hf hW hS hl
set_option maxRecDepth 100000 in
set_option maxHeartbeats 4000000 in
theorem ctfX6_step {l : Launch} {E : Gv} (hD : Do E) (F : Nat)  (μ : Mem) : CtI l yX6_step ((Cond.code yX6_step cX6_step 5 (some .int)) :: GG) rmX6_step E [.ref (E.1 71)] μ (fX6_step F μ) := by
  intro r u hf
  refine of_entry (cc := cX6_step) (maxL := 5) (ret := (some .int)) (by decide +kernel) rfl hD (Nat.le_of_ble_eq_true rfl) (fun p e s m args below meth c X H locs hW hS ls hl => ?_)
  have hl : lv_has ls 5 [(0, .ref (E.1 71))] := hl
  unfold fX6_step at hf
  refine lv_aload_n X.1.1 X.1.2.1 dX6_step_0 rfl (lv_at hl 0 rfl) ?_
  refine e_geti X hW (C := RX6) (T := TX6) (N := 2) (j := 1) rfl (by decide) inX6 (by decide) (by decide) rfl rfl mw_1_229 dX6_step_1 ?_
  refine lv_iconst (v := 2) X.1.1 X.1.2.1 dX6_step_4 (by decide) ?_
  refine lv_isub X.1.1 X.1.2.1 dX6_step_5 ?_
  refine lv_istore_n (lv' := [(1, .int ((μ 71 1) - 2)), (0, .ref (E.1 71))]) X.1.1 X.1.2.1 dX6_step_6 rfl hl (by decide) rfl (fun ls hl => ?_)
  exact wfX6_step_7 X  F ((μ 71 1) - 2) μ H locs ls hf hW hS (lv_sub hl [1, 0] rfl)
-- OvenHouse$Sheets.finding
def rmX7_finding : Room := { frames := 0, cells := 0, slots := 0, locals := 0 }
set_option maxRecDepth 100000 in
set_option maxHeartbeats 4000000 in
theorem ctfX7_finding {l : Launch} {E : Gv} (hD : Do E) (F : Nat) (x1 : Int32)  (μ : Mem) : CtI l yX7_finding ((Cond.code yX7_finding cX7_finding 2 (some .int)) :: GG) rmX7_finding E [.ref (E.1 1), .int x1] μ (fX7_finding F x1 μ) := by
  intro r u hf
  refine of_entry (cc := cX7_finding) (maxL := 2) (ret := (some .int)) (by decide +kernel) rfl hD (Nat.le_of_ble_eq_true rfl) (fun p e s m args below meth c X H locs hW hS ls hl => ?_)
  have hl : lv_has ls 2 [(0, .ref (E.1 1)), (1, .int x1)] := hl
  unfold fX7_finding at hf
  refine lv_aload_n X.1.1 X.1.2.1 dX7_finding_0 rfl (lv_at hl 0 rfl) ?_
  refine lv_iload_n X.1.1 X.1.2.1 dX7_finding_1 rfl (lv_at hl 1 rfl) ?_
  refine e_put X hW hS (C := RX7) (T := TX7) (N := 4) (j := 3) (tyF := tyX7) rfl (by decide) inX7 tyX7_ok nmX7 (by decide) (by decide) rfl rfl mw_1_39 rfl rfl rfl dX7_finding_2 hf (fun m1 H locs hf hW hS => ?_)
  refine lv_bipush (v := (-10)) X.1.1 X.1.2.1 dX7_finding_5 (by decide) ?_
  refine lv_iload_n X.1.1 X.1.2.1 dX7_finding_7 rfl (lv_at hl 1 rfl) ?_
  refine lv_isub X.1.1 X.1.2.1 dX7_finding_8 ?_
  exact e_iret X hW hS hf dX7_finding_9
-- OvenHouse$Sheets.isLost
def rmX7_isLost : Room := { frames := 0, cells := 0, slots := 0, locals := 0 }
set_option maxRecDepth 100000 in
set_option maxHeartbeats 4000000 in
theorem ctfX7_isLost {l : Launch} {E : Gv} (hD : Do E) (F : Nat) (x1 : Int32)  (μ : Mem) : CtI l yX7_isLost ((Cond.code yX7_isLost cX7_isLost 2 (some .boolean)) :: GG) rmX7_isLost E [.ref (E.1 1), .int x1] μ (fX7_isLost F x1 μ) := by
  intro r u hf
  refine of_entry (cc := cX7_isLost) (maxL := 2) (ret := (some .boolean)) (by decide +kernel) rfl hD (Nat.le_of_ble_eq_true rfl) (fun p e s m args below meth c X H locs hW hS ls hl => ?_)
  have hl : lv_has ls 2 [(0, .ref (E.1 1)), (1, .int x1)] := hl
  unfold fX7_isLost at hf
  refine lv_aload_n X.1.1 X.1.2.1 dX7_isLost_0 rfl (lv_at hl 0 rfl) ?_
  refine e_getr X hW (C := RX7) (T := TX7) (N := 4) (j := 0) rfl (by decide) inX7 (by decide) (by decide) rfl (t := 2) rfl rfl mw_1_33 dX7_isLost_1 ?_
  refine lv_iload_n X.1.1 X.1.2.1 dX7_isLost_4 rfl (lv_at hl 1 rfl) ?_
  refine e_ild X hW (by decide) rfl dX7_isLost_5 hf (fun v1 hf => ?_)
  refine lv_iconst (v := (-1)) X.1.1 X.1.2.1 dX7_isLost_6 (by decide) ?_
  refine lv_icmp_ne (tgt := 14) X.1.1 X.1.2.1 dX7_isLost_7 (by decide) (fun c7 => ?_) (fun c7 => ?_)
  · rw [if_neg c7] at hf
    refine lv_iconst (v := 0) X.1.1 X.1.2.1 dX7_isLost_14 (by decide) ?_
    exact e_zret X hW hS hf dX7_isLost_15
  · rw [if_pos c7] at hf
    refine lv_iconst (v := 1) X.1.1 X.1.2.1 dX7_isLost_10 (by decide) ?_
    refine lv_goto (tgt := 15) X.1.1 X.1.2.1 dX7_isLost_11 (by decide) ?_
    exact e_zret X hW hS hf dX7_isLost_15
-- OvenHouse$Sheets.renew
def rmX7_renew : Room := { frames := 1, cells := 0, slots := 0, locals := 23 }
set_option maxRecDepth 100000 in
set_option maxHeartbeats 4000000 in
theorem ctfX7_renew {l : Launch} {E : Gv} (hD : Do E) (F : Nat) (x1 : Int32) (x2 : Int32) (x3 : Int32)  (μ : Mem) : CtV l yX7_renew ((Cond.code yX7_renew cX7_renew 4 none) :: GG) rmX7_renew E [.ref (E.1 1), .int x1, .int x2, .int x3] μ (fX7_renew F x1 x2 x3 μ) := by
  intro u hf
  refine of_entry (cc := cX7_renew) (maxL := 4) (ret := none) (by decide +kernel) rfl hD (Nat.le_of_ble_eq_true rfl) (fun p e s m args below meth c X H locs hW hS ls hl => ?_)
  have hl : lv_has ls 4 [(0, .ref (E.1 1)), (1, .int x1), (2, .int x2), (3, .int x3)] := hl
  unfold fX7_renew at hf
  refine lv_aload_n X.1.1 X.1.2.1 dX7_renew_0 rfl (lv_at hl 0 rfl) ?_
  refine e_getr X hW (C := RX7) (T := TX7) (N := 4) (j := 0) rfl (by decide) inX7 (by decide) (by decide) rfl (t := 2) rfl rfl mw_1_33 dX7_renew_1 ?_
  refine lv_iload_n X.1.1 X.1.2.1 dX7_renew_4 rfl (lv_at hl 1 rfl) ?_
  refine lv_iload_n X.1.1 X.1.2.1 dX7_renew_5 rfl (lv_at hl 2 rfl) ?_
  refine e_ist X hW hS (by decide) rfl dX7_renew_6 hf (fun m1 H locs hf hW hS => ?_)
  refine lv_aload_n X.1.1 X.1.2.1 dX7_renew_7 rfl (lv_at hl 0 rfl) ?_
  refine e_getr X hW (C := RX7) (T := TX7) (N := 4) (j := 1) rfl (by decide) inX7 (by decide) (by decide) rfl (t := 3) rfl rfl mw_1_35 dX7_renew_8 ?_
  refine lv_iload_n X.1.1 X.1.2.1 dX7_renew_11 rfl (lv_at hl 1 rfl) ?_
  refine lv_iload_n X.1.1 X.1.2.1 dX7_renew_12 rfl (lv_at hl 3 rfl) ?_
  refine e_ist X hW hS (by decide) rfl dX7_renew_13 hf (fun m2 H locs hf hW hS => ?_)
  refine lv_aload_n X.1.1 X.1.2.1 dX7_renew_14 rfl (lv_at hl 0 rfl) ?_
  refine e_getr X hW (C := RX7) (T := TX7) (N := 4) (j := 2) rfl (by decide) inX7 (by decide) (by decide) rfl (t := 4) rfl rfl mw_1_37 dX7_renew_15 ?_
  refine lv_iload_n X.1.1 X.1.2.1 dX7_renew_18 rfl (lv_at hl 1 rfl) ?_
  refine e_rld (t0 := 3) (c9 := 13) X hW (by decide) (by decide) rfl rfl rfl dX7_renew_19 hf (fun t3 qt3 hf => ?_)
  replace qt3 := rowItems qt3
  refine lv_iconst (v := 0) X.1.1 X.1.2.1 dX7_renew_20 (by decide) ?_
  refine e_sv (rest := []) (As := [.ref (E.1 t3), .int 0]) X hl.1 hW hS (ctfJ7_fill_53178 X.2.2.2.2 F t3 0 ⟨qt3.1, qt3.2⟩ m2) ⟨callB_of (rm := rmJ7_fill_53178) 2 X.1.2.2.2.2 (gd_N mw_1_32) rfl rfl rfl (X.1.2.2.2.2 _ (List.mem_cons_of_mem _ mw_1_3)) (X.1.2.2.2.2 _ (List.mem_cons_of_mem _ mw_1_30)) (by decide +kernel) ⟨Nat.le_of_ble_eq_true rfl, Nat.le_of_ble_eq_true rfl⟩, X.1.2.2.2.2 _ (List.mem_cons_of_mem _ mw_1_31)⟩ rfl rfl (Nat.le_of_ble_eq_true rfl) dX7_renew_21 ⟨Nat.zero_le _, Nat.zero_le _⟩ hf (fun m4 H locs hf hW hS => ?_)
  exact e_vret X hW hS hf dX7_renew_24
-- OvenHouse$Sheets.hasItems
def rmX7_hasItems : Room := { frames := 0, cells := 0, slots := 0, locals := 0 }
set_option maxRecDepth 100000 in
set_option maxHeartbeats 4000000 in
theorem ctfX7_hasItems {l : Launch} {E : Gv} (hD : Do E) (F : Nat) (x1 : Int32) (x2 : Int32) (x3 : Int32)  (μ : Mem) : CtI l yX7_hasItems ((Cond.code yX7_hasItems cX7_hasItems 4 (some .boolean)) :: GG) rmX7_hasItems E [.ref (E.1 1), .int x1, .int x2, .int x3] μ (fX7_hasItems F x1 x2 x3 μ) := by
  intro r u hf
  refine of_entry (cc := cX7_hasItems) (maxL := 4) (ret := (some .boolean)) (by decide +kernel) rfl hD (Nat.le_of_ble_eq_true rfl) (fun p e s m args below meth c X H locs hW hS ls hl => ?_)
  have hl : lv_has ls 4 [(0, .ref (E.1 1)), (1, .int x1), (2, .int x2), (3, .int x3)] := hl
  unfold fX7_hasItems at hf
  refine lv_iload_n X.1.1 X.1.2.1 dX7_hasItems_0 rfl (lv_at hl 2 rfl) ?_
  refine lv_if_lt (tgt := 24) X.1.1 X.1.2.1 dX7_hasItems_1 (by decide) (fun c1 => ?_) (fun c1 => ?_)
  · rw [if_pos c1] at hf
    refine lv_iconst (v := 0) X.1.1 X.1.2.1 dX7_hasItems_24 (by decide) ?_
    exact e_zret X hW hS hf dX7_hasItems_25
  · rw [if_neg c1] at hf
    refine lv_iload_n X.1.1 X.1.2.1 dX7_hasItems_4 rfl (lv_at hl 3 rfl) ?_
    refine lv_if_lt (tgt := 24) X.1.1 X.1.2.1 dX7_hasItems_5 (by decide) (fun c5 => ?_) (fun c5 => ?_)
    · rw [if_pos c5] at hf
      refine lv_iconst (v := 0) X.1.1 X.1.2.1 dX7_hasItems_24 (by decide) ?_
      exact e_zret X hW hS hf dX7_hasItems_25
    · rw [if_neg c5] at hf
      refine lv_iload_n X.1.1 X.1.2.1 dX7_hasItems_8 rfl (lv_at hl 2 rfl) ?_
      refine lv_aload_n X.1.1 X.1.2.1 dX7_hasItems_9 rfl (lv_at hl 0 rfl) ?_
      refine e_getr X hW (C := RX7) (T := TX7) (N := 4) (j := 1) rfl (by decide) inX7 (by decide) (by decide) rfl (t := 3) rfl rfl mw_1_35 dX7_hasItems_10 ?_
      refine lv_iload_n X.1.1 X.1.2.1 dX7_hasItems_13 rfl (lv_at hl 1 rfl) ?_
      refine e_ild X hW (by decide) rfl dX7_hasItems_14 hf (fun v1 hf => ?_)
      refine lv_iload_n X.1.1 X.1.2.1 dX7_hasItems_15 rfl (lv_at hl 3 rfl) ?_
      refine lv_isub X.1.1 X.1.2.1 dX7_hasItems_16 ?_
      refine lv_icmp_gt (tgt := 24) X.1.1 X.1.2.1 dX7_hasItems_17 (by decide) (fun c17 => ?_) (fun c17 => ?_)
      · rw [if_pos c17] at hf
        refine lv_iconst (v := 0) X.1.1 X.1.2.1 dX7_hasItems_24 (by decide) ?_
        exact e_zret X hW hS hf dX7_hasItems_25
      · rw [if_neg c17] at hf
        refine lv_iconst (v := 1) X.1.1 X.1.2.1 dX7_hasItems_20 (by decide) ?_
        refine lv_goto (tgt := 25) X.1.1 X.1.2.1 dX7_hasItems_21 (by decide) ?_
        exact e_zret X hW hS hf dX7_hasItems_25
-- OvenHouse$Sheets.lookAt
def rmX7_lookAt : Room := { frames := 1, cells := 0, slots := 0, locals := 23 }
set_option maxRecDepth 100000 in
set_option maxHeartbeats 4000000 in
theorem ctfX7_lookAt {l : Launch} {E : Gv} (hD : Do E) (F : Nat) (x1 : Int32) (x2 : Int32) (x3 : Int32)  (μ : Mem) : CtI l yX7_lookAt ((Cond.code yX7_lookAt cX7_lookAt 4 (some .int)) :: GG) rmX7_lookAt E [.ref (E.1 1), .int x1, .int x2, .int x3] μ (fX7_lookAt F x1 x2 x3 μ) := by
  intro r u hf
  refine of_entry (cc := cX7_lookAt) (maxL := 4) (ret := (some .int)) (by decide +kernel) rfl hD (Nat.le_of_ble_eq_true rfl) (fun p e s m args below meth c X H locs hW hS ls hl => ?_)
  have hl : lv_has ls 4 [(0, .ref (E.1 1)), (1, .int x1), (2, .int x2), (3, .int x3)] := hl
  unfold fX7_lookAt at hf
  refine lv_aload_n X.1.1 X.1.2.1 dX7_lookAt_0 rfl (lv_at hl 0 rfl) ?_
  refine lv_iload_n X.1.1 X.1.2.1 dX7_lookAt_1 rfl (lv_at hl 1 rfl) ?_
  refine e_vi (rest := []) (As := [.int x1]) X hl.1 hW hS (C := RX7) (T := TX7) (N := 4) rfl (by decide) (ctfX7_isLost X.2.2.2.2 F x1 μ) (cwV (rm := rmX7_isLost) 1 X.1.2.2.2.2 (gd_V mw_2_80 mw_2_69 mw_2_70 mw_1_2 mw_2_71) rfl rfl rfl (by decide +kernel) ⟨Nat.le_of_ble_eq_true rfl, Nat.le_of_ble_eq_true rfl⟩) rfl rfl (Nat.le_of_ble_eq_true rfl) dX7_lookAt_2 ⟨Nat.zero_le _, Nat.zero_le _⟩ hf (fun r2 m1 H locs hf hW hS => ?_)
  refine lv_if_eq (tgt := 10) X.1.1 X.1.2.1 dX7_lookAt_5 (by decide) (fun c5 => ?_) (fun c5 => ?_)
  · rw [if_pos c5] at hf
    refine lv_aload_n X.1.1 X.1.2.1 dX7_lookAt_10 rfl (lv_at hl 0 rfl) ?_
    refine e_getr X hW (C := RX7) (T := TX7) (N := 4) (j := 0) rfl (by decide) inX7 (by decide) (by decide) rfl (t := 2) rfl rfl mw_1_33 dX7_lookAt_11 ?_
    refine lv_iload_n X.1.1 X.1.2.1 dX7_lookAt_14 rfl (lv_at hl 1 rfl) ?_
    refine e_ild X hW (by decide) rfl dX7_lookAt_15 hf (fun v3 hf => ?_)
    refine lv_iload_n X.1.1 X.1.2.1 dX7_lookAt_16 rfl (lv_at hl 2 rfl) ?_
    refine lv_icmp_eq (tgt := 22) X.1.1 X.1.2.1 dX7_lookAt_17 (by decide) (fun c17 => ?_) (fun c17 => ?_)
    · rw [if_pos c17] at hf
      refine lv_aload_n X.1.1 X.1.2.1 dX7_lookAt_22 rfl (lv_at hl 0 rfl) ?_
      refine lv_iload_n X.1.1 X.1.2.1 dX7_lookAt_23 rfl (lv_at hl 1 rfl) ?_
      refine lv_iload_n X.1.1 X.1.2.1 dX7_lookAt_24 rfl (lv_at hl 3 rfl) ?_
      refine lv_iconst (v := 1) X.1.1 X.1.2.1 dX7_lookAt_25 (by decide) ?_
      refine e_vi (rest := []) (As := [.int x1, .int x3, .int 1]) X hl.1 hW hS (C := RX7) (T := TX7) (N := 4) rfl (by decide) (ctfX7_hasItems X.2.2.2.2 F x1 x3 1 m1) (cwV (rm := rmX7_hasItems) 3 X.1.2.2.2.2 (gd_V mw_2_81 mw_2_82 mw_2_83 mw_1_2 mw_2_84) rfl rfl rfl (by decide +kernel) ⟨Nat.le_of_ble_eq_true rfl, Nat.le_of_ble_eq_true rfl⟩) rfl rfl (Nat.le_of_ble_eq_true rfl) dX7_lookAt_26 ⟨Nat.zero_le _, Nat.zero_le _⟩ hf (fun r5 m4 H locs hf hW hS => ?_)
      refine lv_if_eq (tgt := 36) X.1.1 X.1.2.1 dX7_lookAt_29 (by decide) (fun c29 => ?_) (fun c29 => ?_)
      · rw [if_pos c29] at hf
        refine lv_iconst (v := 2) X.1.1 X.1.2.1 dX7_lookAt_36 (by decide) ?_
        exact e_iret X hW hS hf dX7_lookAt_37
      · rw [if_neg c29] at hf
        refine lv_iconst (v := 0) X.1.1 X.1.2.1 dX7_lookAt_32 (by decide) ?_
        refine lv_goto (tgt := 37) X.1.1 X.1.2.1 dX7_lookAt_33 (by decide) ?_
        exact e_iret X hW hS hf dX7_lookAt_37
    · rw [if_neg c17] at hf
      refine lv_iconst (v := 3) X.1.1 X.1.2.1 dX7_lookAt_20 (by decide) ?_
      exact e_iret X hW hS hf dX7_lookAt_21
  · rw [if_neg c5] at hf
    refine lv_iconst (v := 1) X.1.1 X.1.2.1 dX7_lookAt_8 (by decide) ?_
    exact e_iret X hW hS hf dX7_lookAt_9
-- OvenHouse.isSheet
def rmX8_isSheet : Room := { frames := 0, cells := 0, slots := 0, locals := 0 }
set_option maxRecDepth 100000 in
set_option maxHeartbeats 4000000 in
theorem ctfX8_isSheet {l : Launch} {E : Gv} (hD : Do E) (F : Nat) (x0 : Int32)  (μ : Mem) : CtI l yX8_isSheet ((Cond.code yX8_isSheet cX8_isSheet 1 (some .boolean)) :: GG) rmX8_isSheet E [.int x0] μ (fX8_isSheet F x0 μ) := by
  intro r u hf
  refine of_entry (cc := cX8_isSheet) (maxL := 1) (ret := (some .boolean)) (by decide +kernel) rfl hD (Nat.le_of_ble_eq_true rfl) (fun p e s m args below meth c X H locs hW hS ls hl => ?_)
  have hl : lv_has ls 1 [(0, .int x0)] := hl
  unfold fX8_isSheet at hf
  refine lv_iload_n X.1.1 X.1.2.1 dX8_isSheet_0 rfl (lv_at hl 0 rfl) ?_
  refine lv_if_lt (tgt := 13) X.1.1 X.1.2.1 dX8_isSheet_1 (by decide) (fun c1 => ?_) (fun c1 => ?_)
  · rw [if_pos c1] at hf
    refine lv_iconst (v := 0) X.1.1 X.1.2.1 dX8_isSheet_13 (by decide) ?_
    exact e_zret X hW hS hf dX8_isSheet_14
  · rw [if_neg c1] at hf
    refine lv_iload_n X.1.1 X.1.2.1 dX8_isSheet_4 rfl (lv_at hl 0 rfl) ?_
    refine lv_iconst (v := 4) X.1.1 X.1.2.1 dX8_isSheet_5 (by decide) ?_
    refine lv_icmp_ge (tgt := 13) X.1.1 X.1.2.1 dX8_isSheet_6 (by decide) (fun c6 => ?_) (fun c6 => ?_)
    · rw [if_pos c6] at hf
      refine lv_iconst (v := 0) X.1.1 X.1.2.1 dX8_isSheet_13 (by decide) ?_
      exact e_zret X hW hS hf dX8_isSheet_14
    · rw [if_neg c6] at hf
      refine lv_iconst (v := 1) X.1.1 X.1.2.1 dX8_isSheet_9 (by decide) ?_
      refine lv_goto (tgt := 14) X.1.1 X.1.2.1 dX8_isSheet_10 (by decide) ?_
      exact e_zret X hW hS hf dX8_isSheet_14
-- OvenHouse.isForm
def rmX8_isForm : Room := { frames := 0, cells := 0, slots := 0, locals := 0 }
set_option maxRecDepth 100000 in
set_option maxHeartbeats 4000000 in
theorem ctfX8_isForm {l : Launch} {E : Gv} (hD : Do E) (F : Nat) (x0 : Int32)  (μ : Mem) : CtI l yX8_isForm ((Cond.code yX8_isForm cX8_isForm 1 (some .boolean)) :: GG) rmX8_isForm E [.int x0] μ (fX8_isForm F x0 μ) := by
  intro r u hf
  refine of_entry (cc := cX8_isForm) (maxL := 1) (ret := (some .boolean)) (by decide +kernel) rfl hD (Nat.le_of_ble_eq_true rfl) (fun p e s m args below meth c X H locs hW hS ls hl => ?_)
  have hl : lv_has ls 1 [(0, .int x0)] := hl
  unfold fX8_isForm at hf
  refine lv_iload_n X.1.1 X.1.2.1 dX8_isForm_0 rfl (lv_at hl 0 rfl) ?_
  refine lv_if_lt (tgt := 13) X.1.1 X.1.2.1 dX8_isForm_1 (by decide) (fun c1 => ?_) (fun c1 => ?_)
  · rw [if_pos c1] at hf
    refine lv_iconst (v := 0) X.1.1 X.1.2.1 dX8_isForm_13 (by decide) ?_
    exact e_zret X hW hS hf dX8_isForm_14
  · rw [if_neg c1] at hf
    refine lv_iload_n X.1.1 X.1.2.1 dX8_isForm_4 rfl (lv_at hl 0 rfl) ?_
    refine lv_iconst (v := 3) X.1.1 X.1.2.1 dX8_isForm_5 (by decide) ?_
    refine lv_icmp_ge (tgt := 13) X.1.1 X.1.2.1 dX8_isForm_6 (by decide) (fun c6 => ?_) (fun c6 => ?_)
    · rw [if_pos c6] at hf
      refine lv_iconst (v := 0) X.1.1 X.1.2.1 dX8_isForm_13 (by decide) ?_
      exact e_zret X hW hS hf dX8_isForm_14
    · rw [if_neg c6] at hf
      refine lv_iconst (v := 1) X.1.1 X.1.2.1 dX8_isForm_9 (by decide) ?_
      refine lv_goto (tgt := 14) X.1.1 X.1.2.1 dX8_isForm_10 (by decide) ?_
      exact e_zret X hW hS hf dX8_isForm_14
-- OvenHouse.sheet
def rmX8_sheet : Room := { frames := 2, cells := 0, slots := 0, locals := 46 }
set_option maxRecDepth 100000 in
set_option maxHeartbeats 4000000 in
theorem ctfX8_sheet {l : Launch} {E : Gv} (hD : Do E) (F : Nat) (x1 : Int32) (x2 : Int32) (x3 : Int32)  (μ : Mem) : CtI l yX8_sheet ((Cond.code yX8_sheet cX8_sheet 4 (some .int)) :: GG) rmX8_sheet E [.ref (E.1 0), .int x1, .int x2, .int x3] μ (fX8_sheet F x1 x2 x3 μ) := by
  intro r u hf
  refine of_entry (cc := cX8_sheet) (maxL := 4) (ret := (some .int)) (by decide +kernel) rfl hD (Nat.le_of_ble_eq_true rfl) (fun p e s m args below meth c X H locs hW hS ls hl => ?_)
  have hl : lv_has ls 4 [(0, .ref (E.1 0)), (1, .int x1), (2, .int x2), (3, .int x3)] := hl
  unfold fX8_sheet at hf
  refine lv_iload_n X.1.1 X.1.2.1 dX8_sheet_0 rfl (lv_at hl 1 rfl) ?_
  refine e_si (rest := []) (As := [.int x1]) X hl.1 hW hS (ctfX8_isSheet X.2.2.2.2 F x1 μ) (cwS (rm := rmX8_isSheet) 1 X.1.2.2.2.2 (gd_S mw_2_50 mw_2_51 mw_1_1 mw_2_52) rfl rfl rfl (by decide +kernel) ⟨Nat.le_of_ble_eq_true rfl, Nat.le_of_ble_eq_true rfl⟩) rfl rfl (Nat.le_of_ble_eq_true rfl) dX8_sheet_1 ⟨Nat.zero_le _, Nat.zero_le _⟩ hf (fun r2 m1 H locs hf hW hS => ?_)
  refine lv_if_eq (tgt := 20) X.1.1 X.1.2.1 dX8_sheet_4 (by decide) (fun c4 => ?_) (fun c4 => ?_)
  · rw [if_pos c4] at hf
    refine lv_bipush (v := (-2)) X.1.1 X.1.2.1 dX8_sheet_20 (by decide) ?_
    exact e_iret X hW hS hf dX8_sheet_22
  · rw [if_neg c4] at hf
    refine lv_iload_n X.1.1 X.1.2.1 dX8_sheet_7 rfl (lv_at hl 2 rfl) ?_
    refine e_si (rest := []) (As := [.int x2]) X hl.1 hW hS (ctfX8_isForm X.2.2.2.2 F x2 m1) (cwS (rm := rmX8_isForm) 1 X.1.2.2.2.2 (gd_S mw_2_53 mw_2_54 mw_1_1 mw_2_55) rfl rfl rfl (by decide +kernel) ⟨Nat.le_of_ble_eq_true rfl, Nat.le_of_ble_eq_true rfl⟩) rfl rfl (Nat.le_of_ble_eq_true rfl) dX8_sheet_8 ⟨Nat.zero_le _, Nat.zero_le _⟩ hf (fun r4 m3 H locs hf hW hS => ?_)
    refine lv_if_eq (tgt := 20) X.1.1 X.1.2.1 dX8_sheet_11 (by decide) (fun c11 => ?_) (fun c11 => ?_)
    · rw [if_pos c11] at hf
      refine lv_bipush (v := (-2)) X.1.1 X.1.2.1 dX8_sheet_20 (by decide) ?_
      exact e_iret X hW hS hf dX8_sheet_22
    · rw [if_neg c11] at hf
      refine lv_iload_n X.1.1 X.1.2.1 dX8_sheet_14 rfl (lv_at hl 3 rfl) ?_
      refine lv_bipush (v := 40) X.1.1 X.1.2.1 dX8_sheet_15 (by decide) ?_
      refine lv_icmp_le (tgt := 23) X.1.1 X.1.2.1 dX8_sheet_17 (by decide) (fun c17 => ?_) (fun c17 => ?_)
      · rw [if_pos c17] at hf
        refine lv_iload_n X.1.1 X.1.2.1 dX8_sheet_23 rfl (lv_at hl 3 rfl) ?_
        refine lv_if_ge (tgt := 36) X.1.1 X.1.2.1 dX8_sheet_24 (by decide) (fun c24 => ?_) (fun c24 => ?_)
        · rw [if_pos c24] at hf
          refine lv_aload_n X.1.1 X.1.2.1 dX8_sheet_36 rfl (lv_at hl 0 rfl) ?_
          refine e_getr X hW (C := RX8) (T := TX8) (N := 11) (j := 0) rfl (by decide) inX8 (by decide) (by decide) rfl (t := 1) rfl rfl mw_2_12 dX8_sheet_37 ?_
          refine lv_iload_n X.1.1 X.1.2.1 dX8_sheet_40 rfl (lv_at hl 1 rfl) ?_
          refine lv_iload_n X.1.1 X.1.2.1 dX8_sheet_41 rfl (lv_at hl 2 rfl) ?_
          refine lv_iload_n X.1.1 X.1.2.1 dX8_sheet_42 rfl (lv_at hl 3 rfl) ?_
          refine e_vv (rest := []) (As := [.int x1, .int x2, .int x3]) X hl.1 hW hS (C := RX7) (T := TX7) (N := 4) rfl (by decide) (ctfX7_renew X.2.2.2.2 F x1 x2 x3 m3) (cwV (rm := rmX7_renew) 3 X.1.2.2.2.2 (gd_V mw_2_60 mw_2_61 mw_2_62 mw_1_2 mw_2_63) rfl rfl rfl (by decide +kernel) ⟨Nat.le_of_ble_eq_true rfl, Nat.le_of_ble_eq_true rfl⟩) rfl rfl (Nat.le_of_ble_eq_true rfl) dX8_sheet_43 ⟨Nat.zero_le _, Nat.zero_le _⟩ hf (fun m5 H locs hf hW hS => ?_)
          refine lv_iload_n X.1.1 X.1.2.1 dX8_sheet_46 rfl (lv_at hl 3 rfl) ?_
          exact e_iret X hW hS hf dX8_sheet_47
        · rw [if_neg c24] at hf
          refine lv_aload_n X.1.1 X.1.2.1 dX8_sheet_27 rfl (lv_at hl 0 rfl) ?_
          refine e_getr X hW (C := RX8) (T := TX8) (N := 11) (j := 0) rfl (by decide) inX8 (by decide) (by decide) rfl (t := 1) rfl rfl mw_2_12 dX8_sheet_28 ?_
          refine lv_iconst (v := 5) X.1.1 X.1.2.1 dX8_sheet_31 (by decide) ?_
          refine e_vi (rest := []) (As := [.int 5]) X hl.1 hW hS (C := RX7) (T := TX7) (N := 4) rfl (by decide) (ctfX7_finding X.2.2.2.2 F 5 m3) (cwV (rm := rmX7_finding) 1 X.1.2.2.2.2 (gd_V mw_2_56 mw_2_57 mw_2_58 mw_1_2 mw_2_59) rfl rfl rfl (by decide +kernel) ⟨Nat.le_of_ble_eq_true rfl, Nat.le_of_ble_eq_true rfl⟩) rfl rfl (Nat.le_of_ble_eq_true rfl) dX8_sheet_32 ⟨Nat.zero_le _, Nat.zero_le _⟩ hf (fun r7 m6 H locs hf hW hS => ?_)
          exact e_iret X hW hS hf dX8_sheet_35
      · rw [if_neg c17] at hf
        refine lv_bipush (v := (-2)) X.1.1 X.1.2.1 dX8_sheet_20 (by decide) ?_
        exact e_iret X hW hS hf dX8_sheet_22
-- OvenHouse.lose
def rmX8_lose : Room := { frames := 1, cells := 0, slots := 0, locals := 21 }
set_option maxRecDepth 100000 in
set_option maxHeartbeats 4000000 in
theorem ctfX8_lose {l : Launch} {E : Gv} (hD : Do E) (F : Nat) (x1 : Int32)  (μ : Mem) : CtI l yX8_lose ((Cond.code yX8_lose cX8_lose 2 (some .int)) :: GG) rmX8_lose E [.ref (E.1 0), .int x1] μ (fX8_lose F x1 μ) := by
  intro r u hf
  refine of_entry (cc := cX8_lose) (maxL := 2) (ret := (some .int)) (by decide +kernel) rfl hD (Nat.le_of_ble_eq_true rfl) (fun p e s m args below meth c X H locs hW hS ls hl => ?_)
  have hl : lv_has ls 2 [(0, .ref (E.1 0)), (1, .int x1)] := hl
  unfold fX8_lose at hf
  refine lv_iload_n X.1.1 X.1.2.1 dX8_lose_0 rfl (lv_at hl 1 rfl) ?_
  refine e_si (rest := []) (As := [.int x1]) X hl.1 hW hS (ctfX8_isSheet X.2.2.2.2 F x1 μ) (cwS (rm := rmX8_isSheet) 1 X.1.2.2.2.2 (gd_S mw_2_50 mw_2_51 mw_1_1 mw_2_52) rfl rfl rfl (by decide +kernel) ⟨Nat.le_of_ble_eq_true rfl, Nat.le_of_ble_eq_true rfl⟩) rfl rfl (Nat.le_of_ble_eq_true rfl) dX8_lose_1 ⟨Nat.zero_le _, Nat.zero_le _⟩ hf (fun r2 m1 H locs hf hW hS => ?_)
  refine lv_if_ne (tgt := 10) X.1.1 X.1.2.1 dX8_lose_4 (by decide) (fun c4 => ?_) (fun c4 => ?_)
  · rw [if_neg c4] at hf
    refine lv_aload_n X.1.1 X.1.2.1 dX8_lose_10 rfl (lv_at hl 0 rfl) ?_
    refine e_getr X hW (C := RX8) (T := TX8) (N := 11) (j := 0) rfl (by decide) inX8 (by decide) (by decide) rfl (t := 1) rfl rfl mw_2_12 dX8_lose_11 ?_
    refine lv_iload_n X.1.1 X.1.2.1 dX8_lose_14 rfl (lv_at hl 1 rfl) ?_
    refine e_vi (rest := []) (As := [.int x1]) X hl.1 hW hS (C := RX7) (T := TX7) (N := 4) rfl (by decide) (ctfX7_isLost X.2.2.2.2 F x1 m1) (cwV (rm := rmX7_isLost) 1 X.1.2.2.2.2 (gd_V mw_2_68 mw_2_69 mw_2_70 mw_1_2 mw_2_71) rfl rfl rfl (by decide +kernel) ⟨Nat.le_of_ble_eq_true rfl, Nat.le_of_ble_eq_true rfl⟩) rfl rfl (Nat.le_of_ble_eq_true rfl) dX8_lose_15 ⟨Nat.zero_le _, Nat.zero_le _⟩ hf (fun r4 m3 H locs hf hW hS => ?_)
    refine lv_if_eq (tgt := 30) X.1.1 X.1.2.1 dX8_lose_18 (by decide) (fun c18 => ?_) (fun c18 => ?_)
    · rw [if_pos c18] at hf
      refine lv_aload_n X.1.1 X.1.2.1 dX8_lose_30 rfl (lv_at hl 0 rfl) ?_
      refine e_getr X hW (C := RX8) (T := TX8) (N := 11) (j := 0) rfl (by decide) inX8 (by decide) (by decide) rfl (t := 1) rfl rfl mw_2_12 dX8_lose_31 ?_
      refine e_getr X hW (C := RX7) (T := TX7) (N := 4) (j := 0) rfl (by decide) inX7 (by decide) (by decide) rfl (t := 2) rfl rfl mw_1_34 dX8_lose_34 ?_
      refine lv_iload_n X.1.1 X.1.2.1 dX8_lose_37 rfl (lv_at hl 1 rfl) ?_
      refine lv_iconst (v := (-1)) X.1.1 X.1.2.1 dX8_lose_38 (by decide) ?_
      refine e_ist X hW hS (by decide) rfl dX8_lose_39 hf (fun m5 H locs hf hW hS => ?_)
      refine lv_aload_n X.1.1 X.1.2.1 dX8_lose_40 rfl (lv_at hl 0 rfl) ?_
      refine e_getr X hW (C := RX8) (T := TX8) (N := 11) (j := 0) rfl (by decide) inX8 (by decide) (by decide) rfl (t := 1) rfl rfl mw_2_12 dX8_lose_41 ?_
      refine e_getr X hW (C := RX7) (T := TX7) (N := 4) (j := 1) rfl (by decide) inX7 (by decide) (by decide) rfl (t := 3) rfl rfl mw_1_36 dX8_lose_44 ?_
      refine lv_iload_n X.1.1 X.1.2.1 dX8_lose_47 rfl (lv_at hl 1 rfl) ?_
      refine e_ild X hW (by decide) rfl dX8_lose_48 hf (fun v6 hf => ?_)
      exact e_iret X hW hS hf dX8_lose_49
    · rw [if_neg c18] at hf
      refine lv_aload_n X.1.1 X.1.2.1 dX8_lose_21 rfl (lv_at hl 0 rfl) ?_
      refine e_getr X hW (C := RX8) (T := TX8) (N := 11) (j := 0) rfl (by decide) inX8 (by decide) (by decide) rfl (t := 1) rfl rfl mw_2_12 dX8_lose_22 ?_
      refine lv_iconst (v := 1) X.1.1 X.1.2.1 dX8_lose_25 (by decide) ?_
      refine e_vi (rest := []) (As := [.int 1]) X hl.1 hW hS (C := RX7) (T := TX7) (N := 4) rfl (by decide) (ctfX7_finding X.2.2.2.2 F 1 m3) (cwV (rm := rmX7_finding) 1 X.1.2.2.2.2 (gd_V mw_2_56 mw_2_57 mw_2_58 mw_1_2 mw_2_59) rfl rfl rfl (by decide +kernel) ⟨Nat.le_of_ble_eq_true rfl, Nat.le_of_ble_eq_true rfl⟩) rfl rfl (Nat.le_of_ble_eq_true rfl) dX8_lose_26 ⟨Nat.zero_le _, Nat.zero_le _⟩ hf (fun r8 m7 H locs hf hW hS => ?_)
      exact e_iret X hW hS hf dX8_lose_29
  · rw [if_pos c4] at hf
    refine lv_bipush (v := (-2)) X.1.1 X.1.2.1 dX8_lose_7 (by decide) ?_
    exact e_iret X hW hS hf dX8_lose_9
-- OvenHouse.cutToForm
def rmX8_cutToForm : Room := { frames := 0, cells := 0, slots := 0, locals := 0 }
set_option maxRecDepth 100000 in
set_option maxHeartbeats 4000000 in
theorem ctfX8_cutToForm {l : Launch} {E : Gv} (hD : Do E) (F : Nat) (x0 : Int32) (x1 : Int32)  (μ : Mem) : CtI l yX8_cutToForm ((Cond.code yX8_cutToForm cX8_cutToForm 2 (some .int)) :: GG) rmX8_cutToForm E [.int x0, .int x1] μ (fX8_cutToForm F x0 x1 μ) := by
  intro r u hf
  refine of_entry (cc := cX8_cutToForm) (maxL := 2) (ret := (some .int)) (by decide +kernel) rfl hD (Nat.le_of_ble_eq_true rfl) (fun p e s m args below meth c X H locs hW hS ls hl => ?_)
  have hl : lv_has ls 2 [(0, .int x0), (1, .int x1)] := hl
  unfold fX8_cutToForm at hf
  refine lv_iload_n X.1.1 X.1.2.1 dX8_cutToForm_0 rfl (lv_at hl 0 rfl) ?_
  refine lv_if_ne (tgt := 7) X.1.1 X.1.2.1 dX8_cutToForm_1 (by decide) (fun c1 => ?_) (fun c1 => ?_)
  · rw [if_neg c1] at hf
    refine lv_iload_n X.1.1 X.1.2.1 dX8_cutToForm_7 rfl (lv_at hl 0 rfl) ?_
    refine lv_iconst (v := 1) X.1.1 X.1.2.1 dX8_cutToForm_8 (by decide) ?_
    refine lv_icmp_ne (tgt := 17) X.1.1 X.1.2.1 dX8_cutToForm_9 (by decide) (fun c9 => ?_) (fun c9 => ?_)
    · rw [if_neg c9] at hf
      refine lv_iload_n X.1.1 X.1.2.1 dX8_cutToForm_17 rfl (lv_at hl 1 rfl) ?_
      exact e_iret X hW hS hf dX8_cutToForm_18
    · rw [if_pos c9] at hf
      refine lv_iload_n X.1.1 X.1.2.1 dX8_cutToForm_12 rfl (lv_at hl 1 rfl) ?_
      refine lv_i2s X.1.1 X.1.2.1 dX8_cutToForm_13 rfl ?_
      refine lv_goto (tgt := 18) X.1.1 X.1.2.1 dX8_cutToForm_14 (by decide) ?_
      exact e_iret X hW hS hf dX8_cutToForm_18
  · rw [if_pos c1] at hf
    refine lv_iload_n X.1.1 X.1.2.1 dX8_cutToForm_4 rfl (lv_at hl 1 rfl) ?_
    refine lv_i2b X.1.1 X.1.2.1 dX8_cutToForm_5 rfl ?_
    exact e_iret X hW hS hf dX8_cutToForm_6
-- OvenHouse.put
def rmX8_put : Room := { frames := 2, cells := 0, slots := 0, locals := 46 }
set_option maxRecDepth 100000 in
set_option maxHeartbeats 4000000 in
theorem ctfX8_put {l : Launch} {E : Gv} (hD : Do E) (F : Nat) (x1 : Int32) (x2 : Int32) (x3 : Int32) (x4 : Int32)  (μ : Mem) : CtI l yX8_put ((Cond.code yX8_put cX8_put 6 (some .int)) :: GG) rmX8_put E [.ref (E.1 0), .int x1, .int x2, .int x3, .int x4] μ (fX8_put F x1 x2 x3 x4 μ) := by
  intro r u hf
  refine of_entry (cc := cX8_put) (maxL := 6) (ret := (some .int)) (by decide +kernel) rfl hD (Nat.le_of_ble_eq_true rfl) (fun p e s m args below meth c X H locs hW hS ls hl => ?_)
  have hl : lv_has ls 6 [(0, .ref (E.1 0)), (1, .int x1), (2, .int x2), (3, .int x3), (4, .int x4)] := hl
  unfold fX8_put at hf
  refine lv_iload_n X.1.1 X.1.2.1 dX8_put_0 rfl (lv_at hl 1 rfl) ?_
  refine e_si (rest := []) (As := [.int x1]) X hl.1 hW hS (ctfX8_isSheet X.2.2.2.2 F x1 μ) (cwS (rm := rmX8_isSheet) 1 X.1.2.2.2.2 (gd_S mw_2_50 mw_2_51 mw_1_1 mw_2_52) rfl rfl rfl (by decide +kernel) ⟨Nat.le_of_ble_eq_true rfl, Nat.le_of_ble_eq_true rfl⟩) rfl rfl (Nat.le_of_ble_eq_true rfl) dX8_put_1 ⟨Nat.zero_le _, Nat.zero_le _⟩ hf (fun r2 m1 H locs hf hW hS => ?_)
  refine lv_if_eq (tgt := 14) X.1.1 X.1.2.1 dX8_put_4 (by decide) (fun c4 => ?_) (fun c4 => ?_)
  · rw [if_pos c4] at hf
    refine lv_bipush (v := (-2)) X.1.1 X.1.2.1 dX8_put_14 (by decide) ?_
    exact e_iret X hW hS hf dX8_put_16
  · rw [if_neg c4] at hf
    refine lv_iload_n X.1.1 X.1.2.1 dX8_put_7 rfl (lv_at hl 2 rfl) ?_
    refine e_si (rest := []) (As := [.int x2]) X hl.1 hW hS (ctfX8_isForm X.2.2.2.2 F x2 m1) (cwS (rm := rmX8_isForm) 1 X.1.2.2.2.2 (gd_S mw_2_53 mw_2_54 mw_1_1 mw_2_55) rfl rfl rfl (by decide +kernel) ⟨Nat.le_of_ble_eq_true rfl, Nat.le_of_ble_eq_true rfl⟩) rfl rfl (Nat.le_of_ble_eq_true rfl) dX8_put_8 ⟨Nat.zero_le _, Nat.zero_le _⟩ hf (fun r4 m3 H locs hf hW hS => ?_)
    refine lv_if_ne (tgt := 17) X.1.1 X.1.2.1 dX8_put_11 (by decide) (fun c11 => ?_) (fun c11 => ?_)
    · rw [if_neg c11] at hf
      refine lv_aload_n X.1.1 X.1.2.1 dX8_put_17 rfl (lv_at hl 0 rfl) ?_
      refine e_getr X hW (C := RX8) (T := TX8) (N := 11) (j := 0) rfl (by decide) inX8 (by decide) (by decide) rfl (t := 1) rfl rfl mw_2_12 dX8_put_18 ?_
      refine lv_iload_n X.1.1 X.1.2.1 dX8_put_21 rfl (lv_at hl 1 rfl) ?_
      refine lv_iload_n X.1.1 X.1.2.1 dX8_put_22 rfl (lv_at hl 2 rfl) ?_
      refine lv_iload_n X.1.1 X.1.2.1 dX8_put_23 rfl (lv_at hl 3 rfl) ?_
      refine e_vi (rest := []) (As := [.int x1, .int x2, .int x3]) X hl.1 hW hS (C := RX7) (T := TX7) (N := 4) rfl (by decide) (ctfX7_lookAt X.2.2.2.2 F x1 x2 x3 m3) (cwV (rm := rmX7_lookAt) 3 X.1.2.2.2.2 (gd_V mw_2_76 mw_2_77 mw_2_78 mw_1_2 mw_2_79) rfl rfl rfl (by decide +kernel) ⟨Nat.le_of_ble_eq_true rfl, Nat.le_of_ble_eq_true rfl⟩) rfl rfl (Nat.le_of_ble_eq_true rfl) dX8_put_24 ⟨Nat.zero_le _, Nat.zero_le _⟩ hf (fun r6 m5 H locs hf hW hS => ?_)
      refine lv_istore (lv' := [(5, .int r6), (0, .ref (E.1 0)), (1, .int x1), (2, .int x2), (3, .int x3), (4, .int x4)]) X.1.1 X.1.2.1 dX8_put_27 hl (by decide) rfl (fun ls hl => ?_)
      refine lv_iload X.1.1 X.1.2.1 dX8_put_29 (lv_at hl 0 rfl) ?_
      refine lv_if_eq (tgt := 44) X.1.1 X.1.2.1 dX8_put_31 (by decide) (fun c31 => ?_) (fun c31 => ?_)
      · rw [if_pos c31] at hf
        refine lv_aload_n X.1.1 X.1.2.1 dX8_put_44 rfl (lv_at hl 1 rfl) ?_
        refine e_getr X hW (C := RX8) (T := TX8) (N := 11) (j := 0) rfl (by decide) inX8 (by decide) (by decide) rfl (t := 1) rfl rfl mw_2_12 dX8_put_45 ?_
        refine e_getr X hW (C := RX7) (T := TX7) (N := 4) (j := 2) rfl (by decide) inX7 (by decide) (by decide) rfl (t := 4) rfl rfl mw_1_38 dX8_put_48 ?_
        refine lv_iload_n X.1.1 X.1.2.1 dX8_put_51 rfl (lv_at hl 2 rfl) ?_
        refine e_rld (t0 := 3) (c9 := 13) X hW (by decide) (by decide) rfl rfl rfl dX8_put_52 hf (fun t7 qt7 hf => ?_)
        replace qt7 := rowItems qt7
        refine lv_iload_n X.1.1 X.1.2.1 dX8_put_53 rfl (lv_at hl 4 rfl) ?_
        refine lv_iload_n X.1.1 X.1.2.1 dX8_put_54 rfl (lv_at hl 3 rfl) ?_
        refine lv_iload X.1.1 X.1.2.1 dX8_put_55 (lv_at hl 5 rfl) ?_
        refine e_si (rest := [.int x3, .ref (E.1 t7)]) (As := [.int x2, .int x4]) X hl.1 hW hS (ctfX8_cutToForm X.2.2.2.2 F x2 x4 m5) (cwS (rm := rmX8_cutToForm) 2 X.1.2.2.2.2 (gd_S mw_2_85 mw_2_86 mw_1_1 mw_2_87) rfl rfl rfl (by decide +kernel) ⟨Nat.le_of_ble_eq_true rfl, Nat.le_of_ble_eq_true rfl⟩) rfl rfl (Nat.le_of_ble_eq_true rfl) dX8_put_57 ⟨Nat.zero_le _, Nat.zero_le _⟩ hf (fun r9 m8 H locs hf hW hS => ?_)
        refine e_ist X hW hS qt7.1 qt7.2 dX8_put_60 hf (fun m10 H locs hf hW hS => ?_)
        refine lv_iconst (v := 1) X.1.1 X.1.2.1 dX8_put_61 (by decide) ?_
        exact e_iret X hW hS hf dX8_put_62
      · rw [if_neg c31] at hf
        refine lv_aload_n X.1.1 X.1.2.1 dX8_put_34 rfl (lv_at hl 1 rfl) ?_
        refine e_getr X hW (C := RX8) (T := TX8) (N := 11) (j := 0) rfl (by decide) inX8 (by decide) (by decide) rfl (t := 1) rfl rfl mw_2_12 dX8_put_35 ?_
        refine lv_iload X.1.1 X.1.2.1 dX8_put_38 (lv_at hl 0 rfl) ?_
        refine e_vi (rest := []) (As := [.int r6]) X hl.1 hW hS (C := RX7) (T := TX7) (N := 4) rfl (by decide) (ctfX7_finding X.2.2.2.2 F r6 m5) (cwV (rm := rmX7_finding) 1 X.1.2.2.2.2 (gd_V mw_2_56 mw_2_57 mw_2_58 mw_1_2 mw_2_59) rfl rfl rfl (by decide +kernel) ⟨Nat.le_of_ble_eq_true rfl, Nat.le_of_ble_eq_true rfl⟩) rfl rfl (Nat.le_of_ble_eq_true rfl) dX8_put_40 ⟨Nat.zero_le _, Nat.zero_le _⟩ hf (fun r12 m11 H locs hf hW hS => ?_)
        exact e_iret X hW hS hf dX8_put_43
    · rw [if_pos c11] at hf
      refine lv_bipush (v := (-2)) X.1.1 X.1.2.1 dX8_put_14 (by decide) ?_
      exact e_iret X hW hS hf dX8_put_16
-- OvenHouse.get
def rmX8_get : Room := { frames := 2, cells := 0, slots := 0, locals := 46 }
set_option maxRecDepth 100000 in
set_option maxHeartbeats 4000000 in
theorem ctfX8_get {l : Launch} {E : Gv} (hD : Do E) (F : Nat) (x1 : Int32) (x2 : Int32) (x3 : Int32)  (μ : Mem) : CtI l yX8_get ((Cond.code yX8_get cX8_get 5 (some .int)) :: GG) rmX8_get E [.ref (E.1 0), .int x1, .int x2, .int x3] μ (fX8_get F x1 x2 x3 μ) := by
  intro r u hf
  refine of_entry (cc := cX8_get) (maxL := 5) (ret := (some .int)) (by decide +kernel) rfl hD (Nat.le_of_ble_eq_true rfl) (fun p e s m args below meth c X H locs hW hS ls hl => ?_)
  have hl : lv_has ls 5 [(0, .ref (E.1 0)), (1, .int x1), (2, .int x2), (3, .int x3)] := hl
  unfold fX8_get at hf
  refine lv_iload_n X.1.1 X.1.2.1 dX8_get_0 rfl (lv_at hl 1 rfl) ?_
  refine e_si (rest := []) (As := [.int x1]) X hl.1 hW hS (ctfX8_isSheet X.2.2.2.2 F x1 μ) (cwS (rm := rmX8_isSheet) 1 X.1.2.2.2.2 (gd_S mw_2_50 mw_2_51 mw_1_1 mw_2_52) rfl rfl rfl (by decide +kernel) ⟨Nat.le_of_ble_eq_true rfl, Nat.le_of_ble_eq_true rfl⟩) rfl rfl (Nat.le_of_ble_eq_true rfl) dX8_get_1 ⟨Nat.zero_le _, Nat.zero_le _⟩ hf (fun r2 m1 H locs hf hW hS => ?_)
  refine lv_if_eq (tgt := 14) X.1.1 X.1.2.1 dX8_get_4 (by decide) (fun c4 => ?_) (fun c4 => ?_)
  · rw [if_pos c4] at hf
    refine lv_ldc X.1.1 X.1.2.1 X.1.2.2.2.1 (X.1.2.2.2.2 _ (List.mem_cons_of_mem _ mw_2_92)) dX8_get_14 ?_
    exact e_iret X hW hS hf dX8_get_16
  · rw [if_neg c4] at hf
    refine lv_iload_n X.1.1 X.1.2.1 dX8_get_7 rfl (lv_at hl 2 rfl) ?_
    refine e_si (rest := []) (As := [.int x2]) X hl.1 hW hS (ctfX8_isForm X.2.2.2.2 F x2 m1) (cwS (rm := rmX8_isForm) 1 X.1.2.2.2.2 (gd_S mw_2_53 mw_2_54 mw_1_1 mw_2_55) rfl rfl rfl (by decide +kernel) ⟨Nat.le_of_ble_eq_true rfl, Nat.le_of_ble_eq_true rfl⟩) rfl rfl (Nat.le_of_ble_eq_true rfl) dX8_get_8 ⟨Nat.zero_le _, Nat.zero_le _⟩ hf (fun r4 m3 H locs hf hW hS => ?_)
    refine lv_if_ne (tgt := 17) X.1.1 X.1.2.1 dX8_get_11 (by decide) (fun c11 => ?_) (fun c11 => ?_)
    · rw [if_neg c11] at hf
      refine lv_aload_n X.1.1 X.1.2.1 dX8_get_17 rfl (lv_at hl 0 rfl) ?_
      refine e_getr X hW (C := RX8) (T := TX8) (N := 11) (j := 0) rfl (by decide) inX8 (by decide) (by decide) rfl (t := 1) rfl rfl mw_2_12 dX8_get_18 ?_
      refine lv_iload_n X.1.1 X.1.2.1 dX8_get_21 rfl (lv_at hl 1 rfl) ?_
      refine lv_iload_n X.1.1 X.1.2.1 dX8_get_22 rfl (lv_at hl 2 rfl) ?_
      refine lv_iload_n X.1.1 X.1.2.1 dX8_get_23 rfl (lv_at hl 3 rfl) ?_
      refine e_vi (rest := []) (As := [.int x1, .int x2, .int x3]) X hl.1 hW hS (C := RX7) (T := TX7) (N := 4) rfl (by decide) (ctfX7_lookAt X.2.2.2.2 F x1 x2 x3 m3) (cwV (rm := rmX7_lookAt) 3 X.1.2.2.2.2 (gd_V mw_2_76 mw_2_77 mw_2_78 mw_1_2 mw_2_79) rfl rfl rfl (by decide +kernel) ⟨Nat.le_of_ble_eq_true rfl, Nat.le_of_ble_eq_true rfl⟩) rfl rfl (Nat.le_of_ble_eq_true rfl) dX8_get_24 ⟨Nat.zero_le _, Nat.zero_le _⟩ hf (fun r6 m5 H locs hf hW hS => ?_)
      refine lv_istore (lv' := [(4, .int r6), (0, .ref (E.1 0)), (1, .int x1), (2, .int x2), (3, .int x3)]) X.1.1 X.1.2.1 dX8_get_27 hl (by decide) rfl (fun ls hl => ?_)
      refine lv_iload X.1.1 X.1.2.1 dX8_get_29 (lv_at hl 0 rfl) ?_
      refine lv_if_eq (tgt := 47) X.1.1 X.1.2.1 dX8_get_31 (by decide) (fun c31 => ?_) (fun c31 => ?_)
      · rw [if_pos c31] at hf
        refine lv_aload_n X.1.1 X.1.2.1 dX8_get_47 rfl (lv_at hl 1 rfl) ?_
        refine e_getr X hW (C := RX8) (T := TX8) (N := 11) (j := 0) rfl (by decide) inX8 (by decide) (by decide) rfl (t := 1) rfl rfl mw_2_12 dX8_get_48 ?_
        refine e_getr X hW (C := RX7) (T := TX7) (N := 4) (j := 2) rfl (by decide) inX7 (by decide) (by decide) rfl (t := 4) rfl rfl mw_1_38 dX8_get_51 ?_
        refine lv_iload_n X.1.1 X.1.2.1 dX8_get_54 rfl (lv_at hl 2 rfl) ?_
        refine e_rld (t0 := 3) (c9 := 13) X hW (by decide) (by decide) rfl rfl rfl dX8_get_55 hf (fun t7 qt7 hf => ?_)
        replace qt7 := rowItems qt7
        refine lv_iload_n X.1.1 X.1.2.1 dX8_get_56 rfl (lv_at hl 4 rfl) ?_
        refine e_ild X hW qt7.1 qt7.2 dX8_get_57 hf (fun v8 hf => ?_)
        exact e_iret X hW hS hf dX8_get_58
      · rw [if_neg c31] at hf
        refine lv_aload_n X.1.1 X.1.2.1 dX8_get_34 rfl (lv_at hl 1 rfl) ?_
        refine e_getr X hW (C := RX8) (T := TX8) (N := 11) (j := 0) rfl (by decide) inX8 (by decide) (by decide) rfl (t := 1) rfl rfl mw_2_12 dX8_get_35 ?_
        refine lv_iload X.1.1 X.1.2.1 dX8_get_38 (lv_at hl 0 rfl) ?_
        refine e_vi (rest := []) (As := [.int r6]) X hl.1 hW hS (C := RX7) (T := TX7) (N := 4) rfl (by decide) (ctfX7_finding X.2.2.2.2 F r6 m5) (cwV (rm := rmX7_finding) 1 X.1.2.2.2.2 (gd_V mw_2_56 mw_2_57 mw_2_58 mw_1_2 mw_2_59) rfl rfl rfl (by decide +kernel) ⟨Nat.le_of_ble_eq_true rfl, Nat.le_of_ble_eq_true rfl⟩) rfl rfl (Nat.le_of_ble_eq_true rfl) dX8_get_40 ⟨Nat.zero_le _, Nat.zero_le _⟩ hf (fun r10 m9 H locs hf hW hS => ?_)
        refine lv_pop X.1.1 X.1.2.1 dX8_get_43 rfl ?_
        refine lv_ldc X.1.1 X.1.2.1 X.1.2.2.2.1 (X.1.2.2.2.2 _ (List.mem_cons_of_mem _ mw_2_92)) dX8_get_44 ?_
        exact e_iret X hW hS hf dX8_get_46
    · rw [if_pos c11] at hf
      refine lv_ldc X.1.1 X.1.2.1 X.1.2.2.2.1 (X.1.2.2.2.2 _ (List.mem_cons_of_mem _ mw_2_92)) dX8_get_14 ?_
      exact e_iret X hW hS hf dX8_get_16
