-- OvenHouseModel.isLaw
def rmX9_isLaw : Room := { frames := 1, cells := 0, slots := 0, locals := 25 }
set_option maxRecDepth 100000 in
set_option maxHeartbeats 4000000 in
theorem wfX9_isLaw_14 {p : Program} {l : Launch} {e : Env} {s : State} {m : MethodId} {args : Array Value} {below : List Frame} {meth : Method} {c : Code} {E : Gv} {F : Nat}  {r : Int32} {u : Mem} (X : Fx p m c cX9_isLaw 2 s args (Cond.code yX9_isLaw cX9_isLaw 2 (some .boolean)) "OvenHouseModel" meth (some .boolean) E)  (y0 : Int32) (y1 : Int32) (μ : Mem) (H : Heap) (locs : List Loc) (ls : Array Slot) (hf : fX9_isLaw_14 F   y0 y1 μ = some (r, u)) (hW : Wo E μ H) (hS : va_S (AE E) s.heap H locs) (hl : lv_has ls 2 [(0, .int y0), (1, .int y1)]) : W0 p l e rmX9_isLaw s m args below meth c H locs (QcI E r u) E (F0 m 14 ls []) := by
  unfold fX9_isLaw_14 at hf
  refine lv_iload_n X.1.1 X.1.2.1 dX9_isLaw_14 rfl (lv_at hl 0 rfl) ?_
  refine lv_iconst (v := 2) X.1.1 X.1.2.1 dX9_isLaw_15 (by decide) ?_
  refine lv_icmp_ne (tgt := 35) X.1.1 X.1.2.1 dX9_isLaw_16 (by decide) (fun c16 => ?_) (fun c16 => ?_)
  · rw [if_neg c16] at hf
    refine lv_iconst (v := 0) X.1.1 X.1.2.1 dX9_isLaw_35 (by decide) ?_
    exact e_zret X hW hS hf dX9_isLaw_36
  · rw [if_pos c16] at hf
    refine lv_iload_n X.1.1 X.1.2.1 dX9_isLaw_19 rfl (lv_at hl 1 rfl) ?_
    refine lv_i2l X.1.1 X.1.2.1 dX9_isLaw_20 rfl ?_
    refine lv_lconst (v := 1) X.1.1 X.1.2.1 dX9_isLaw_21 (by decide) ?_
    refine lv_ldc2 X.1.1 X.1.2.1 X.1.2.2.2.1 (X.1.2.2.2.2 _ (List.mem_cons_of_mem _ mw_4_165)) dX9_isLaw_22 ?_
    refine e_si (rest := []) (As := [.long y1.toInt64, .long 1, .long 5]) X hl.1 hW hS (ctfX9_in X.2.2.2.2 F y1.toInt64 1 5 μ) (cwS (rm := rmX9_in) 3 X.1.2.2.2.2 (gd_S mw_4_43 mw_4_44 mw_1_11 mw_4_45) rfl rfl rfl (by decide +kernel) ⟨Nat.le_of_ble_eq_true rfl, Nat.le_of_ble_eq_true rfl⟩) rfl rfl (Nat.le_of_ble_eq_true rfl) dX9_isLaw_25 ⟨Nat.zero_le _, Nat.zero_le _⟩ hf (fun r4 m3 H locs hf hW hS => ?_)
    refine lv_if_eq (tgt := 35) X.1.1 X.1.2.1 dX9_isLaw_28 (by decide) (fun c28 => ?_) (fun c28 => ?_)
    · rw [if_pos c28] at hf
      refine lv_iconst (v := 0) X.1.1 X.1.2.1 dX9_isLaw_35 (by decide) ?_
      exact e_zret X hW hS hf dX9_isLaw_36
    · rw [if_neg c28] at hf
      refine lv_iconst (v := 1) X.1.1 X.1.2.1 dX9_isLaw_31 (by decide) ?_
      refine lv_goto (tgt := 36) X.1.1 X.1.2.1 dX9_isLaw_32 (by decide) ?_
      exact e_zret X hW hS hf dX9_isLaw_36
set_option maxRecDepth 100000 in
set_option maxHeartbeats 4000000 in
theorem ctfX9_isLaw {l : Launch} {E : Gv} (hD : Do E) (F : Nat) (x0 : Int32) (x1 : Int32)  (μ : Mem) : CtI l yX9_isLaw ((Cond.code yX9_isLaw cX9_isLaw 2 (some .boolean)) :: GG) rmX9_isLaw E [.int x0, .int x1] μ (fX9_isLaw F x0 x1 μ) := by
  intro r u hf
  refine of_entry (cc := cX9_isLaw) (maxL := 2) (ret := (some .boolean)) (by decide +kernel) rfl hD (Nat.le_of_ble_eq_true rfl) (fun p e s m args below meth c X H locs hW hS ls hl => ?_)
  have hl : lv_has ls 2 [(0, .int x0), (1, .int x1)] := hl
  unfold fX9_isLaw at hf
  refine lv_iload_n X.1.1 X.1.2.1 dX9_isLaw_0 rfl (lv_at hl 0 rfl) ?_
  refine lv_i2l X.1.1 X.1.2.1 dX9_isLaw_1 rfl ?_
  refine lv_lconst (v := 0) X.1.1 X.1.2.1 dX9_isLaw_2 (by decide) ?_
  refine lv_lconst (v := 1) X.1.1 X.1.2.1 dX9_isLaw_3 (by decide) ?_
  refine e_si (rest := []) (As := [.long x0.toInt64, .long 0, .long 1]) X hl.1 hW hS (ctfX9_in X.2.2.2.2 F x0.toInt64 0 1 μ) (cwS (rm := rmX9_in) 3 X.1.2.2.2.2 (gd_S mw_4_43 mw_4_44 mw_1_11 mw_4_45) rfl rfl rfl (by decide +kernel) ⟨Nat.le_of_ble_eq_true rfl, Nat.le_of_ble_eq_true rfl⟩) rfl rfl (Nat.le_of_ble_eq_true rfl) dX9_isLaw_4 ⟨Nat.zero_le _, Nat.zero_le _⟩ hf (fun r2 m1 H locs hf hW hS => ?_)
  refine lv_if_eq (tgt := 14) X.1.1 X.1.2.1 dX9_isLaw_7 (by decide) (fun c7 => ?_) (fun c7 => ?_)
  · rw [if_pos c7] at hf
    exact wfX9_isLaw_14 X  x0 x1 m1 H locs ls hf hW hS (lv_sub hl [0, 1] rfl)
  · rw [if_neg c7] at hf
    refine lv_iload_n X.1.1 X.1.2.1 dX9_isLaw_10 rfl (lv_at hl 1 rfl) ?_
    refine lv_if_eq (tgt := 31) X.1.1 X.1.2.1 dX9_isLaw_11 (by decide) (fun c11 => ?_) (fun c11 => ?_)
    · rw [if_pos c11] at hf
      refine lv_iconst (v := 1) X.1.1 X.1.2.1 dX9_isLaw_31 (by decide) ?_
      refine lv_goto (tgt := 36) X.1.1 X.1.2.1 dX9_isLaw_32 (by decide) ?_
      exact e_zret X hW hS hf dX9_isLaw_36
    · rw [if_neg c11] at hf
      exact wfX9_isLaw_14 X  x0 x1 m1 H locs ls hf hW hS (lv_sub hl [0, 1] rfl)
-- OvenHouseModel.day
def rmX9_day : Room := { frames := 2, cells := 0, slots := 0, locals := 46 }
set_option maxRecDepth 100000 in
set_option maxHeartbeats 4000000 in
theorem ctfX9_day {l : Launch} {E : Gv} (hD : Do E) (F : Nat) (x1 : Int32) (x2 : Int32)  (μ : Mem) : CtI l yX9_day ((Cond.code yX9_day cX9_day 3 (some .int)) :: GG) rmX9_day E [.ref (E.1 89), .int x1, .int x2] μ (fX9_day F x1 x2 μ) := by
  intro r u hf
  refine of_entry (cc := cX9_day) (maxL := 3) (ret := (some .int)) (by decide +kernel) rfl hD (Nat.le_of_ble_eq_true rfl) (fun p e s m args below meth c X H locs hW hS ls hl => ?_)
  have hl : lv_has ls 3 [(0, .ref (E.1 89)), (1, .int x1), (2, .int x2)] := hl
  unfold fX9_day at hf
  refine lv_iload_n X.1.1 X.1.2.1 dX9_day_0 rfl (lv_at hl 1 rfl) ?_
  refine lv_iload_n X.1.1 X.1.2.1 dX9_day_1 rfl (lv_at hl 2 rfl) ?_
  refine e_si (rest := []) (As := [.int x1, .int x2]) X hl.1 hW hS (ctfX9_isLaw X.2.2.2.2 F x1 x2 μ) (cwS (rm := rmX9_isLaw) 2 X.1.2.2.2.2 (gd_S mw_4_162 mw_4_163 mw_1_11 mw_4_164) rfl rfl rfl (by decide +kernel) ⟨Nat.le_of_ble_eq_true rfl, Nat.le_of_ble_eq_true rfl⟩) rfl rfl (Nat.le_of_ble_eq_true rfl) dX9_day_2 ⟨Nat.zero_le _, Nat.zero_le _⟩ hf (fun r2 m1 H locs hf hW hS => ?_)
  refine lv_if_eq (tgt := 21) X.1.1 X.1.2.1 dX9_day_5 (by decide) (fun c5 => ?_) (fun c5 => ?_)
  · rw [if_pos c5] at hf
    refine lv_bipush (v := (-2)) X.1.1 X.1.2.1 dX9_day_21 (by decide) ?_
    exact e_iret X hW hS hf dX9_day_23
  · rw [if_neg c5] at hf
    refine lv_aload_n X.1.1 X.1.2.1 dX9_day_8 rfl (lv_at hl 0 rfl) ?_
    refine lv_aload_n X.1.1 X.1.2.1 dX9_day_9 rfl (lv_at hl 0 rfl) ?_
    refine e_getr X hW (C := RX9) (T := TX9) (N := 35) (j := 10) rfl (by decide) inX9 (by decide) (by decide) rfl (t := 99) rfl rfl mw_3_179 dX9_day_10 ?_
    refine lv_iload_n X.1.1 X.1.2.1 dX9_day_13 rfl (lv_at hl 1 rfl) ?_
    refine lv_iload_n X.1.1 X.1.2.1 dX9_day_14 rfl (lv_at hl 2 rfl) ?_
    refine e_vi (rest := []) (As := [.ref (E.1 99), .int x1, .int x2]) X hl.1 hW hS (C := RX9) (T := TX9) (N := 35) rfl (by decide) (ctfX9_endOf X.2.2.2.2 F 99 x1 x2 ⟨(by decide), rfl⟩ m1) (cwV (rm := rmX9_endOf) 3 X.1.2.2.2.2 (gd_V mw_4_146 mw_4_148 mw_0_25 mw_1_11 mw_4_149) rfl rfl rfl (by decide +kernel) ⟨Nat.le_of_ble_eq_true rfl, Nat.le_of_ble_eq_true rfl⟩) rfl rfl (Nat.le_of_ble_eq_true rfl) dX9_day_15 ⟨Nat.zero_le _, Nat.zero_le _⟩ hf (fun r4 m3 H locs hf hW hS => ?_)
    refine lv_goto (tgt := 23) X.1.1 X.1.2.1 dX9_day_18 (by decide) ?_
    exact e_iret X hW hS hf dX9_day_23
-- OvenHouseModel.moment
def rmX9_moment : Room := { frames := 2, cells := 0, slots := 0, locals := 46 }
set_option maxRecDepth 100000 in
set_option maxHeartbeats 4000000 in
theorem ctfX9_moment {l : Launch} {E : Gv} (hD : Do E) (F : Nat) (x1 : Int32) (x2 : Int32) (x3 : Int32) (x4 : Int32)  (μ : Mem) : CtI l yX9_moment ((Cond.code yX9_moment cX9_moment 7 (some .int)) :: GG) rmX9_moment E [.ref (E.1 89), .int x1, .int x2, .int x3, .int x4] μ (fX9_moment F x1 x2 x3 x4 μ) := by
  intro r u hf
  refine of_entry (cc := cX9_moment) (maxL := 7) (ret := (some .int)) (by decide +kernel) rfl hD (Nat.le_of_ble_eq_true rfl) (fun p e s m args below meth c X H locs hW hS ls hl => ?_)
  have hl : lv_has ls 7 [(0, .ref (E.1 89)), (1, .int x1), (2, .int x2), (3, .int x3), (4, .int x4)] := hl
  unfold fX9_moment at hf
  refine lv_iload_n X.1.1 X.1.2.1 dX9_moment_0 rfl (lv_at hl 1 rfl) ?_
  refine lv_iload_n X.1.1 X.1.2.1 dX9_moment_1 rfl (lv_at hl 2 rfl) ?_
  refine e_si (rest := []) (As := [.int x1, .int x2]) X hl.1 hW hS (ctfX9_isLaw X.2.2.2.2 F x1 x2 μ) (cwS (rm := rmX9_isLaw) 2 X.1.2.2.2.2 (gd_S mw_4_162 mw_4_163 mw_1_11 mw_4_164) rfl rfl rfl (by decide +kernel) ⟨Nat.le_of_ble_eq_true rfl, Nat.le_of_ble_eq_true rfl⟩) rfl rfl (Nat.le_of_ble_eq_true rfl) dX9_moment_2 ⟨Nat.zero_le _, Nat.zero_le _⟩ hf (fun r2 m1 H locs hf hW hS => ?_)
  refine lv_if_eq (tgt := 29) X.1.1 X.1.2.1 dX9_moment_5 (by decide) (fun c5 => ?_) (fun c5 => ?_)
  · rw [if_pos c5] at hf
    refine lv_bipush (v := (-2)) X.1.1 X.1.2.1 dX9_moment_29 (by decide) ?_
    exact e_iret X hW hS hf dX9_moment_31
  · rw [if_neg c5] at hf
    refine lv_aload_n X.1.1 X.1.2.1 dX9_moment_8 rfl (lv_at hl 0 rfl) ?_
    refine lv_iload_n X.1.1 X.1.2.1 dX9_moment_9 rfl (lv_at hl 3 rfl) ?_
    refine e_vi (rest := []) (As := [.int x3]) X hl.1 hW hS (C := RX9) (T := TX9) (N := 35) rfl (by decide) (ctfX9_isLoaf X.2.2.2.2 F x3 m1) (cwV (rm := rmX9_isLoaf) 1 X.1.2.2.2.2 (gd_V mw_4_102 mw_4_104 mw_0_20 mw_1_11 mw_4_105) rfl rfl rfl (by decide +kernel) ⟨Nat.le_of_ble_eq_true rfl, Nat.le_of_ble_eq_true rfl⟩) rfl rfl (Nat.le_of_ble_eq_true rfl) dX9_moment_10 ⟨Nat.zero_le _, Nat.zero_le _⟩ hf (fun r4 m3 H locs hf hW hS => ?_)
    refine lv_if_eq (tgt := 29) X.1.1 X.1.2.1 dX9_moment_13 (by decide) (fun c13 => ?_) (fun c13 => ?_)
    · rw [if_pos c13] at hf
      refine lv_bipush (v := (-2)) X.1.1 X.1.2.1 dX9_moment_29 (by decide) ?_
      exact e_iret X hW hS hf dX9_moment_31
    · rw [if_neg c13] at hf
      refine lv_iload X.1.1 X.1.2.1 dX9_moment_16 (lv_at hl 4 rfl) ?_
      refine lv_i2l X.1.1 X.1.2.1 dX9_moment_18 rfl ?_
      refine lv_lconst (v := 0) X.1.1 X.1.2.1 dX9_moment_19 (by decide) ?_
      refine lv_ldc2 X.1.1 X.1.2.1 X.1.2.2.2.1 (X.1.2.2.2.2 _ (List.mem_cons_of_mem _ mw_4_42)) dX9_moment_20 ?_
      refine e_si (rest := []) (As := [.long x4.toInt64, .long 0, .long 3]) X hl.1 hW hS (ctfX9_in X.2.2.2.2 F x4.toInt64 0 3 m3) (cwS (rm := rmX9_in) 3 X.1.2.2.2.2 (gd_S mw_4_43 mw_4_44 mw_1_11 mw_4_45) rfl rfl rfl (by decide +kernel) ⟨Nat.le_of_ble_eq_true rfl, Nat.le_of_ble_eq_true rfl⟩) rfl rfl (Nat.le_of_ble_eq_true rfl) dX9_moment_23 ⟨Nat.zero_le _, Nat.zero_le _⟩ hf (fun r6 m5 H locs hf hW hS => ?_)
      refine lv_if_ne (tgt := 32) X.1.1 X.1.2.1 dX9_moment_26 (by decide) (fun c26 => ?_) (fun c26 => ?_)
      · rw [if_neg c26] at hf
        refine lv_aload_n X.1.1 X.1.2.1 dX9_moment_32 rfl (lv_at hl 0 rfl) ?_
        refine lv_aload_n X.1.1 X.1.2.1 dX9_moment_33 rfl (lv_at hl 0 rfl) ?_
        refine e_getr X hW (C := RX9) (T := TX9) (N := 35) (j := 10) rfl (by decide) inX9 (by decide) (by decide) rfl (t := 99) rfl rfl mw_3_179 dX9_moment_34 ?_
        refine lv_iload_n X.1.1 X.1.2.1 dX9_moment_37 rfl (lv_at hl 1 rfl) ?_
        refine lv_iload_n X.1.1 X.1.2.1 dX9_moment_38 rfl (lv_at hl 2 rfl) ?_
        refine e_vi (rest := []) (As := [.ref (E.1 99), .int x1, .int x2]) X hl.1 hW hS (C := RX9) (T := TX9) (N := 35) rfl (by decide) (ctfX9_endOf X.2.2.2.2 F 99 x1 x2 ⟨(by decide), rfl⟩ m5) (cwV (rm := rmX9_endOf) 3 X.1.2.2.2.2 (gd_V mw_4_146 mw_4_148 mw_0_25 mw_1_11 mw_4_149) rfl rfl rfl (by decide +kernel) ⟨Nat.le_of_ble_eq_true rfl, Nat.le_of_ble_eq_true rfl⟩) rfl rfl (Nat.le_of_ble_eq_true rfl) dX9_moment_39 ⟨Nat.zero_le _, Nat.zero_le _⟩ hf (fun r8 m7 H locs hf hW hS => ?_)
        refine lv_istore (lv' := [(5, .int r8), (0, .ref (E.1 89)), (1, .int x1), (2, .int x2), (3, .int x3), (4, .int x4)]) X.1.1 X.1.2.1 dX9_moment_42 hl (by decide) rfl (fun ls hl => ?_)
        refine lv_aload_n X.1.1 X.1.2.1 dX9_moment_44 rfl (lv_at hl 1 rfl) ?_
        refine e_getr X hW (C := RX9) (T := TX9) (N := 35) (j := 10) rfl (by decide) inX9 (by decide) (by decide) rfl (t := 99) rfl rfl mw_3_179 dX9_moment_45 ?_
        refine lv_iload_n X.1.1 X.1.2.1 dX9_moment_48 rfl (lv_at hl 4 rfl) ?_
        refine e_ild X hW (by decide) rfl dX9_moment_49 hf (fun v9 hf => ?_)
        refine lv_istore (lv' := [(6, .int v9), (5, .int r8), (0, .ref (E.1 89)), (1, .int x1), (2, .int x2), (3, .int x3), (4, .int x4)]) X.1.1 X.1.2.1 dX9_moment_50 hl (by decide) rfl (fun ls hl => ?_)
        refine lv_iload X.1.1 X.1.2.1 dX9_moment_52 (lv_at hl 6 rfl) ?_
        by_cases c54_0 : x4 = 0
        · rw [if_pos c54_0] at hf
          refine lv_tableIn (off := 26) (tgt := 80) X.1.1 X.1.2.1 dX9_moment_54 (by rw [c54_0]; decide) (by rw [c54_0]; decide) (by rw [c54_0]; rfl) (by decide) ?_
          refine lv_aload_n X.1.1 X.1.2.1 dX9_moment_80 rfl (lv_at hl 2 rfl) ?_
          refine e_getr X hW (C := RX9) (T := TX9) (N := 35) (j := 18) rfl (by decide) inX9 (by decide) (by decide) rfl (t := 103) rfl rfl mw_3_187 dX9_moment_81 ?_
          refine lv_iload_n X.1.1 X.1.2.1 dX9_moment_84 rfl (lv_at hl 5 rfl) ?_
          refine e_ild X hW (by decide) rfl dX9_moment_85 hf (fun v10 hf => ?_)
          exact e_iret X hW hS hf dX9_moment_86
        · rw [if_neg c54_0] at hf
          by_cases c54_1 : x4 = 1
          · rw [if_pos c54_1] at hf
            refine lv_tableIn (off := 33) (tgt := 87) X.1.1 X.1.2.1 dX9_moment_54 (by rw [c54_1]; decide) (by rw [c54_1]; decide) (by rw [c54_1]; rfl) (by decide) ?_
            refine lv_aload_n X.1.1 X.1.2.1 dX9_moment_87 rfl (lv_at hl 2 rfl) ?_
            refine e_getr X hW (C := RX9) (T := TX9) (N := 35) (j := 18) rfl (by decide) inX9 (by decide) (by decide) rfl (t := 103) rfl rfl mw_3_187 dX9_moment_88 ?_
            refine lv_iload_n X.1.1 X.1.2.1 dX9_moment_91 rfl (lv_at hl 5 rfl) ?_
            refine e_ild X hW (by decide) rfl dX9_moment_92 hf (fun v11 hf => ?_)
            refine lv_aload_n X.1.1 X.1.2.1 dX9_moment_93 rfl (lv_at hl 2 rfl) ?_
            refine e_getr X hW (C := RX9) (T := TX9) (N := 35) (j := 6) rfl (by decide) inX9 (by decide) (by decide) rfl (t := 95) rfl rfl mw_3_175 dX9_moment_94 ?_
            refine lv_iload X.1.1 X.1.2.1 dX9_moment_97 (lv_at hl 0 rfl) ?_
            refine e_ild X hW (by decide) rfl dX9_moment_99 hf (fun v12 hf => ?_)
            refine lv_iadd X.1.1 X.1.2.1 dX9_moment_100 ?_
            exact e_iret X hW hS hf dX9_moment_101
          · rw [if_neg c54_1] at hf
            by_cases c54_2 : x4 = 2
            · rw [if_pos c54_2] at hf
              refine lv_tableIn (off := 48) (tgt := 102) X.1.1 X.1.2.1 dX9_moment_54 (by rw [c54_2]; decide) (by rw [c54_2]; decide) (by rw [c54_2]; rfl) (by decide) ?_
              refine lv_aload_n X.1.1 X.1.2.1 dX9_moment_102 rfl (lv_at hl 2 rfl) ?_
              refine e_getr X hW (C := RX9) (T := TX9) (N := 35) (j := 19) rfl (by decide) inX9 (by decide) (by decide) rfl (t := 104) rfl rfl mw_3_188 dX9_moment_103 ?_
              refine lv_iload_n X.1.1 X.1.2.1 dX9_moment_106 rfl (lv_at hl 5 rfl) ?_
              refine e_ild X hW (by decide) rfl dX9_moment_107 hf (fun v13 hf => ?_)
              exact e_iret X hW hS hf dX9_moment_108
            · rw [if_neg c54_2] at hf
              refine lv_tableOut (tgt := 109) X.1.1 X.1.2.1 dX9_moment_54 (by have e0 := lv_neT c54_0 (a := 0) rfl; have e1 := lv_neT c54_1 (a := 1) rfl; have e2 := lv_neT c54_2 (a := 2) rfl; have e := e0; omega) (by decide) ?_
              refine lv_aload_n X.1.1 X.1.2.1 dX9_moment_109 rfl (lv_at hl 2 rfl) ?_
              refine e_getr X hW (C := RX9) (T := TX9) (N := 35) (j := 19) rfl (by decide) inX9 (by decide) (by decide) rfl (t := 104) rfl rfl mw_3_188 dX9_moment_110 ?_
              refine lv_iload_n X.1.1 X.1.2.1 dX9_moment_113 rfl (lv_at hl 5 rfl) ?_
              refine e_ild X hW (by decide) rfl dX9_moment_114 hf (fun v14 hf => ?_)
              refine lv_aload_n X.1.1 X.1.2.1 dX9_moment_115 rfl (lv_at hl 2 rfl) ?_
              refine e_getr X hW (C := RX9) (T := TX9) (N := 35) (j := 7) rfl (by decide) inX9 (by decide) (by decide) rfl (t := 96) rfl rfl mw_3_176 dX9_moment_116 ?_
              refine lv_iload X.1.1 X.1.2.1 dX9_moment_119 (lv_at hl 0 rfl) ?_
              refine e_ild X hW (by decide) rfl dX9_moment_121 hf (fun v15 hf => ?_)
              refine lv_iadd X.1.1 X.1.2.1 dX9_moment_122 ?_
              exact e_iret X hW hS hf dX9_moment_123
      · rw [if_pos c26] at hf
        refine lv_bipush (v := (-2)) X.1.1 X.1.2.1 dX9_moment_29 (by decide) ?_
        exact e_iret X hW hS hf dX9_moment_31
-- OvenHouseModel.allMix
def rmX9_allMix : Room := { frames := 0, cells := 0, slots := 0, locals := 0 }
set_option maxRecDepth 100000 in
set_option maxHeartbeats 4000000 in
theorem wfX9_allMix_4_b {p : Program} {l : Launch} {e : Env} {s : State} {m : MethodId} {args : Array Value} {below : List Frame} {meth : Method} {c : Code} {E : Gv} {F : Nat}  {r : Int32} {u : Mem} (X : Fx p m c cX9_allMix 3 s args (Cond.code yX9_allMix cX9_allMix 3 (some .int)) "OvenHouseModel" meth (some .int) E)  (rec4 : Int32 → Int32 → Mem → Option (Int32 × Mem)) (hrec4 : ∀ (y1 : Int32) (y2 : Int32) (μ : Mem) (H : Heap) (locs : List Loc) (ls : Array Slot), rec4 y1 y2 μ = some (r, u) → Wo E μ H → va_S (AE E) s.heap H locs → lv_has ls 3 [(0, .ref (E.1 89)), (1, .int y1), (2, .int y2)] → W0 p l e rmX9_allMix s m args below meth c H locs (QcI E r u) E (F0 m 4 ls [])) (y1 : Int32) (y2 : Int32) (μ : Mem) (H : Heap) (locs : List Loc) (ls : Array Slot) (hf : fX9_allMix_4_b F  rec4 y1 y2 μ = some (r, u)) (hW : Wo E μ H) (hS : va_S (AE E) s.heap H locs) (hl : lv_has ls 3 [(0, .ref (E.1 89)), (1, .int y1), (2, .int y2)]) : W0 p l e rmX9_allMix s m args below meth c H locs (QcI E r u) E (F0 m 4 ls []) := by
  unfold fX9_allMix_4_b at hf
  refine lv_iload_n X.1.1 X.1.2.1 dX9_allMix_4 rfl (lv_at hl 2 rfl) ?_
  refine lv_aload_n X.1.1 X.1.2.1 dX9_allMix_5 rfl (lv_at hl 0 rfl) ?_
  refine e_getr X hW (C := RX9) (T := TX9) (N := 35) (j := 5) rfl (by decide) inX9 (by decide) (by decide) rfl (t := 94) rfl rfl mw_3_174 dX9_allMix_6 ?_
  refine lv_iconst (v := 0) X.1.1 X.1.2.1 dX9_allMix_9 (by decide) ?_
  refine e_ild X hW (by decide) rfl dX9_allMix_10 hf (fun v1 hf => ?_)
  refine lv_icmp_ge (tgt := 29) X.1.1 X.1.2.1 dX9_allMix_11 (by decide) (fun c11 => ?_) (fun c11 => ?_)
  · rw [if_pos c11] at hf
    refine lv_iload_n X.1.1 X.1.2.1 dX9_allMix_29 rfl (lv_at hl 1 rfl) ?_
    exact e_iret X hW hS hf dX9_allMix_30
  · rw [if_neg c11] at hf
    refine lv_iload_n X.1.1 X.1.2.1 dX9_allMix_14 rfl (lv_at hl 1 rfl) ?_
    refine lv_aload_n X.1.1 X.1.2.1 dX9_allMix_15 rfl (lv_at hl 0 rfl) ?_
    refine e_getr X hW (C := RX9) (T := TX9) (N := 35) (j := 6) rfl (by decide) inX9 (by decide) (by decide) rfl (t := 95) rfl rfl mw_3_175 dX9_allMix_16 ?_
    refine lv_iload_n X.1.1 X.1.2.1 dX9_allMix_19 rfl (lv_at hl 2 rfl) ?_
    refine e_ild X hW (by decide) rfl dX9_allMix_20 hf (fun v2 hf => ?_)
    refine lv_iadd X.1.1 X.1.2.1 dX9_allMix_21 ?_
    refine lv_istore_n (lv' := [(1, .int (y1 + v2)), (0, .ref (E.1 89)), (2, .int y2)]) X.1.1 X.1.2.1 dX9_allMix_22 rfl hl (by decide) rfl (fun ls hl => ?_)
    refine lv_iinc (v := (y2 + 1)) (lv' := [(2, .int (y2 + 1)), (1, .int (y1 + v2)), (0, .ref (E.1 89))]) X.1.1 X.1.2.1 dX9_allMix_23 hl (k := 2) rfl rfl (by decide) rfl (fun ls hl => ?_)
    refine lv_goto (tgt := 4) X.1.1 X.1.2.1 dX9_allMix_26 (by decide) ?_
    exact hrec4 (y1 + v2) (y2 + 1) μ H locs ls hf hW hS (lv_sub hl [2, 1, 0] rfl)
theorem wfX9_allMix_4 {p : Program} {l : Launch} {e : Env} {s : State} {m : MethodId} {args : Array Value} {below : List Frame} {meth : Method} {c : Code} {E : Gv} {F : Nat}  {r : Int32} {u : Mem} (X : Fx p m c cX9_allMix 3 s args (Cond.code yX9_allMix cX9_allMix 3 (some .int)) "OvenHouseModel" meth (some .int) E)  (n : Nat) : ∀ (y1 : Int32) (y2 : Int32) (μ : Mem) (H : Heap) (locs : List Loc) (ls : Array Slot) (_ : fX9_allMix_4 F   n y1 y2 μ = some (r, u)) (_ : Wo E μ H) (_ : va_S (AE E) s.heap H locs) (_ : lv_has ls 3 [(0, .ref (E.1 89)), (1, .int y1), (2, .int y2)]), W0 p l e rmX9_allMix s m args below meth c H locs (QcI E r u) E (F0 m 4 ls []) := by
  induction n with
  | zero => intro y1 y2 μ H locs ls hf hW hS hl; cases hf
  | succ n ih => intro y1 y2 μ H locs ls hf hW hS hl; exact wfX9_allMix_4_b X  _ ih y1 y2 μ H locs ls hf hW hS hl
set_option maxRecDepth 100000 in
set_option maxHeartbeats 4000000 in
theorem ctfX9_allMix {l : Launch} {E : Gv} (hD : Do E) (F : Nat)  (μ : Mem) : CtI l yX9_allMix ((Cond.code yX9_allMix cX9_allMix 3 (some .int)) :: GG) rmX9_allMix E [.ref (E.1 89)] μ (fX9_allMix F μ) := by
  intro r u hf
  refine of_entry (cc := cX9_allMix) (maxL := 3) (ret := (some .int)) (by decide +kernel) rfl hD (Nat.le_of_ble_eq_true rfl) (fun p e s m args below meth c X H locs hW hS ls hl => ?_)
  have hl : lv_has ls 3 [(0, .ref (E.1 89))] := hl
  unfold fX9_allMix at hf
  refine lv_iconst (v := 0) X.1.1 X.1.2.1 dX9_allMix_0 (by decide) ?_
  refine lv_istore_n (lv' := [(1, .int 0), (0, .ref (E.1 89))]) X.1.1 X.1.2.1 dX9_allMix_1 rfl hl (by decide) rfl (fun ls hl => ?_)
  refine lv_iconst (v := 0) X.1.1 X.1.2.1 dX9_allMix_2 (by decide) ?_
  refine lv_istore_n (lv' := [(2, .int 0), (1, .int 0), (0, .ref (E.1 89))]) X.1.1 X.1.2.1 dX9_allMix_3 rfl hl (by decide) rfl (fun ls hl => ?_)
  exact wfX9_allMix_4 X  F 0 0 μ H locs ls hf hW hS (lv_sub hl [2, 1, 0] rfl)
-- OvenHouseModel.allBake
def rmX9_allBake : Room := { frames := 0, cells := 0, slots := 0, locals := 0 }
set_option maxRecDepth 100000 in
set_option maxHeartbeats 4000000 in
theorem wfX9_allBake_4_b {p : Program} {l : Launch} {e : Env} {s : State} {m : MethodId} {args : Array Value} {below : List Frame} {meth : Method} {c : Code} {E : Gv} {F : Nat}  {r : Int32} {u : Mem} (X : Fx p m c cX9_allBake 3 s args (Cond.code yX9_allBake cX9_allBake 3 (some .int)) "OvenHouseModel" meth (some .int) E)  (rec4 : Int32 → Int32 → Mem → Option (Int32 × Mem)) (hrec4 : ∀ (y1 : Int32) (y2 : Int32) (μ : Mem) (H : Heap) (locs : List Loc) (ls : Array Slot), rec4 y1 y2 μ = some (r, u) → Wo E μ H → va_S (AE E) s.heap H locs → lv_has ls 3 [(0, .ref (E.1 89)), (1, .int y1), (2, .int y2)] → W0 p l e rmX9_allBake s m args below meth c H locs (QcI E r u) E (F0 m 4 ls [])) (y1 : Int32) (y2 : Int32) (μ : Mem) (H : Heap) (locs : List Loc) (ls : Array Slot) (hf : fX9_allBake_4_b F  rec4 y1 y2 μ = some (r, u)) (hW : Wo E μ H) (hS : va_S (AE E) s.heap H locs) (hl : lv_has ls 3 [(0, .ref (E.1 89)), (1, .int y1), (2, .int y2)]) : W0 p l e rmX9_allBake s m args below meth c H locs (QcI E r u) E (F0 m 4 ls []) := by
  unfold fX9_allBake_4_b at hf
  refine lv_iload_n X.1.1 X.1.2.1 dX9_allBake_4 rfl (lv_at hl 2 rfl) ?_
  refine lv_aload_n X.1.1 X.1.2.1 dX9_allBake_5 rfl (lv_at hl 0 rfl) ?_
  refine e_getr X hW (C := RX9) (T := TX9) (N := 35) (j := 5) rfl (by decide) inX9 (by decide) (by decide) rfl (t := 94) rfl rfl mw_3_174 dX9_allBake_6 ?_
  refine lv_iconst (v := 0) X.1.1 X.1.2.1 dX9_allBake_9 (by decide) ?_
  refine e_ild X hW (by decide) rfl dX9_allBake_10 hf (fun v1 hf => ?_)
  refine lv_icmp_ge (tgt := 29) X.1.1 X.1.2.1 dX9_allBake_11 (by decide) (fun c11 => ?_) (fun c11 => ?_)
  · rw [if_pos c11] at hf
    refine lv_iload_n X.1.1 X.1.2.1 dX9_allBake_29 rfl (lv_at hl 1 rfl) ?_
    exact e_iret X hW hS hf dX9_allBake_30
  · rw [if_neg c11] at hf
    refine lv_iload_n X.1.1 X.1.2.1 dX9_allBake_14 rfl (lv_at hl 1 rfl) ?_
    refine lv_aload_n X.1.1 X.1.2.1 dX9_allBake_15 rfl (lv_at hl 0 rfl) ?_
    refine e_getr X hW (C := RX9) (T := TX9) (N := 35) (j := 7) rfl (by decide) inX9 (by decide) (by decide) rfl (t := 96) rfl rfl mw_3_176 dX9_allBake_16 ?_
    refine lv_iload_n X.1.1 X.1.2.1 dX9_allBake_19 rfl (lv_at hl 2 rfl) ?_
    refine e_ild X hW (by decide) rfl dX9_allBake_20 hf (fun v2 hf => ?_)
    refine lv_iadd X.1.1 X.1.2.1 dX9_allBake_21 ?_
    refine lv_istore_n (lv' := [(1, .int (y1 + v2)), (0, .ref (E.1 89)), (2, .int y2)]) X.1.1 X.1.2.1 dX9_allBake_22 rfl hl (by decide) rfl (fun ls hl => ?_)
    refine lv_iinc (v := (y2 + 1)) (lv' := [(2, .int (y2 + 1)), (1, .int (y1 + v2)), (0, .ref (E.1 89))]) X.1.1 X.1.2.1 dX9_allBake_23 hl (k := 2) rfl rfl (by decide) rfl (fun ls hl => ?_)
    refine lv_goto (tgt := 4) X.1.1 X.1.2.1 dX9_allBake_26 (by decide) ?_
    exact hrec4 (y1 + v2) (y2 + 1) μ H locs ls hf hW hS (lv_sub hl [2, 1, 0] rfl)
theorem wfX9_allBake_4 {p : Program} {l : Launch} {e : Env} {s : State} {m : MethodId} {args : Array Value} {below : List Frame} {meth : Method} {c : Code} {E : Gv} {F : Nat}  {r : Int32} {u : Mem} (X : Fx p m c cX9_allBake 3 s args (Cond.code yX9_allBake cX9_allBake 3 (some .int)) "OvenHouseModel" meth (some .int) E)  (n : Nat) : ∀ (y1 : Int32) (y2 : Int32) (μ : Mem) (H : Heap) (locs : List Loc) (ls : Array Slot) (_ : fX9_allBake_4 F   n y1 y2 μ = some (r, u)) (_ : Wo E μ H) (_ : va_S (AE E) s.heap H locs) (_ : lv_has ls 3 [(0, .ref (E.1 89)), (1, .int y1), (2, .int y2)]), W0 p l e rmX9_allBake s m args below meth c H locs (QcI E r u) E (F0 m 4 ls []) := by
  induction n with
  | zero => intro y1 y2 μ H locs ls hf hW hS hl; cases hf
  | succ n ih => intro y1 y2 μ H locs ls hf hW hS hl; exact wfX9_allBake_4_b X  _ ih y1 y2 μ H locs ls hf hW hS hl
set_option maxRecDepth 100000 in
set_option maxHeartbeats 4000000 in
theorem ctfX9_allBake {l : Launch} {E : Gv} (hD : Do E) (F : Nat)  (μ : Mem) : CtI l yX9_allBake ((Cond.code yX9_allBake cX9_allBake 3 (some .int)) :: GG) rmX9_allBake E [.ref (E.1 89)] μ (fX9_allBake F μ) := by
  intro r u hf
  refine of_entry (cc := cX9_allBake) (maxL := 3) (ret := (some .int)) (by decide +kernel) rfl hD (Nat.le_of_ble_eq_true rfl) (fun p e s m args below meth c X H locs hW hS ls hl => ?_)
  have hl : lv_has ls 3 [(0, .ref (E.1 89))] := hl
  unfold fX9_allBake at hf
  refine lv_iconst (v := 0) X.1.1 X.1.2.1 dX9_allBake_0 (by decide) ?_
  refine lv_istore_n (lv' := [(1, .int 0), (0, .ref (E.1 89))]) X.1.1 X.1.2.1 dX9_allBake_1 rfl hl (by decide) rfl (fun ls hl => ?_)
  refine lv_iconst (v := 0) X.1.1 X.1.2.1 dX9_allBake_2 (by decide) ?_
  refine lv_istore_n (lv' := [(2, .int 0), (1, .int 0), (0, .ref (E.1 89))]) X.1.1 X.1.2.1 dX9_allBake_3 rfl hl (by decide) rfl (fun ls hl => ?_)
  exact wfX9_allBake_4 X  F 0 0 μ H locs ls hf hW hS (lv_sub hl [2, 1, 0] rfl)
-- OvenHouseModel.idle
def rmX9_idle : Room := { frames := 2, cells := 0, slots := 0, locals := 46 }
set_option maxRecDepth 100000 in
set_option maxHeartbeats 4000000 in
theorem ctfX9_idle {l : Launch} {E : Gv} (hD : Do E) (F : Nat) (x1 : Int32) (x2 : Int32)  (μ : Mem) : CtI l yX9_idle ((Cond.code yX9_idle cX9_idle 3 (some .int)) :: GG) rmX9_idle E [.ref (E.1 89), .int x1, .int x2] μ (fX9_idle F x1 x2 μ) := by
  intro r u hf
  refine of_entry (cc := cX9_idle) (maxL := 3) (ret := (some .int)) (by decide +kernel) rfl hD (Nat.le_of_ble_eq_true rfl) (fun p e s m args below meth c X H locs hW hS ls hl => ?_)
  have hl : lv_has ls 3 [(0, .ref (E.1 89)), (1, .int x1), (2, .int x2)] := hl
  unfold fX9_idle at hf
  refine lv_iload_n X.1.1 X.1.2.1 dX9_idle_0 rfl (lv_at hl 1 rfl) ?_
  refine lv_iload_n X.1.1 X.1.2.1 dX9_idle_1 rfl (lv_at hl 2 rfl) ?_
  refine e_si (rest := []) (As := [.int x1, .int x2]) X hl.1 hW hS (ctfX9_isLaw X.2.2.2.2 F x1 x2 μ) (cwS (rm := rmX9_isLaw) 2 X.1.2.2.2.2 (gd_S mw_4_162 mw_4_163 mw_1_11 mw_4_164) rfl rfl rfl (by decide +kernel) ⟨Nat.le_of_ble_eq_true rfl, Nat.le_of_ble_eq_true rfl⟩) rfl rfl (Nat.le_of_ble_eq_true rfl) dX9_idle_2 ⟨Nat.zero_le _, Nat.zero_le _⟩ hf (fun r2 m1 H locs hf hW hS => ?_)
  refine lv_if_eq (tgt := 26) X.1.1 X.1.2.1 dX9_idle_5 (by decide) (fun c5 => ?_) (fun c5 => ?_)
  · rw [if_pos c5] at hf
    refine lv_bipush (v := (-2)) X.1.1 X.1.2.1 dX9_idle_26 (by decide) ?_
    exact e_iret X hW hS hf dX9_idle_28
  · rw [if_neg c5] at hf
    refine lv_aload_n X.1.1 X.1.2.1 dX9_idle_8 rfl (lv_at hl 0 rfl) ?_
    refine lv_aload_n X.1.1 X.1.2.1 dX9_idle_9 rfl (lv_at hl 0 rfl) ?_
    refine e_getr X hW (C := RX9) (T := TX9) (N := 35) (j := 10) rfl (by decide) inX9 (by decide) (by decide) rfl (t := 99) rfl rfl mw_3_179 dX9_idle_10 ?_
    refine lv_iload_n X.1.1 X.1.2.1 dX9_idle_13 rfl (lv_at hl 1 rfl) ?_
    refine lv_iload_n X.1.1 X.1.2.1 dX9_idle_14 rfl (lv_at hl 2 rfl) ?_
    refine e_vi (rest := []) (As := [.ref (E.1 99), .int x1, .int x2]) X hl.1 hW hS (C := RX9) (T := TX9) (N := 35) rfl (by decide) (ctfX9_endOf X.2.2.2.2 F 99 x1 x2 ⟨(by decide), rfl⟩ m1) (cwV (rm := rmX9_endOf) 3 X.1.2.2.2.2 (gd_V mw_4_146 mw_4_148 mw_0_25 mw_1_11 mw_4_149) rfl rfl rfl (by decide +kernel) ⟨Nat.le_of_ble_eq_true rfl, Nat.le_of_ble_eq_true rfl⟩) rfl rfl (Nat.le_of_ble_eq_true rfl) dX9_idle_15 ⟨Nat.zero_le _, Nat.zero_le _⟩ hf (fun r4 m3 H locs hf hW hS => ?_)
    refine lv_aload_n X.1.1 X.1.2.1 dX9_idle_18 rfl (lv_at hl 0 rfl) ?_
    refine e_vi (rest := [.int r4]) (As := []) X hl.1 hW hS (C := RX9) (T := TX9) (N := 35) rfl (by decide) (ctfX9_allBake X.2.2.2.2 F m3) (cwV (rm := rmX9_allBake) 0 X.1.2.2.2.2 (gd_V mw_4_174 mw_4_176 mw_0_26 mw_1_11 mw_4_177) rfl rfl rfl (by decide +kernel) ⟨Nat.le_of_ble_eq_true rfl, Nat.le_of_ble_eq_true rfl⟩) rfl rfl (Nat.le_of_ble_eq_true rfl) dX9_idle_19 ⟨Nat.zero_le _, Nat.zero_le _⟩ hf (fun r6 m5 H locs hf hW hS => ?_)
    refine lv_isub X.1.1 X.1.2.1 dX9_idle_22 ?_
    refine lv_goto (tgt := 28) X.1.1 X.1.2.1 dX9_idle_23 (by decide) ?_
    exact e_iret X hW hS hf dX9_idle_28
-- OvenHouseModel.bound
def rmX9_bound : Room := { frames := 1, cells := 0, slots := 0, locals := 22 }
set_option maxRecDepth 100000 in
set_option maxHeartbeats 4000000 in
theorem wfX9_bound_57 {p : Program} {l : Launch} {e : Env} {s : State} {m : MethodId} {args : Array Value} {below : List Frame} {meth : Method} {c : Code} {E : Gv} {F : Nat}  {r : Int32} {u : Mem} (X : Fx p m c cX9_bound 5 s args (Cond.code yX9_bound cX9_bound 5 (some .int)) "OvenHouseModel" meth (some .int) E)  (rec27 : Int32 → Int32 → Int32 → Mem → Option (Int32 × Mem)) (hrec27 : ∀ (y1 : Int32) (y2 : Int32) (y3 : Int32) (μ : Mem) (H : Heap) (locs : List Loc) (ls : Array Slot), rec27 y1 y2 y3 μ = some (r, u) → Wo E μ H → va_S (AE E) s.heap H locs → lv_has ls 5 [(0, .ref (E.1 89)), (1, .int y1), (2, .int y2), (3, .int y3)] → W0 p l e rmX9_bound s m args below meth c H locs (QcI E r u) E (F0 m 27 ls [])) (y2 : Int32) (y3 : Int32) (z0 : Int32) (μ : Mem) (H : Heap) (locs : List Loc) (ls : Array Slot) (hf : fX9_bound_57 F  rec27 y2 y3 z0 μ = some (r, u)) (hW : Wo E μ H) (hS : va_S (AE E) s.heap H locs) (hl : lv_has ls 5 [(0, .ref (E.1 89)), (2, .int y2), (3, .int y3)]) : W0 p l e rmX9_bound s m args below meth c H locs (QcI E r u) E (F0 m 57 ls [.int z0]) := by
  unfold fX9_bound_57 at hf
  refine lv_istore_n (lv' := [(1, .int z0), (0, .ref (E.1 89)), (2, .int y2), (3, .int y3)]) X.1.1 X.1.2.1 dX9_bound_57 rfl hl (by decide) rfl (fun ls hl => ?_)
  refine lv_aload_n X.1.1 X.1.2.1 dX9_bound_58 rfl (lv_at hl 1 rfl) ?_
  refine e_getr X hW (C := RX9) (T := TX9) (N := 35) (j := 7) rfl (by decide) inX9 (by decide) (by decide) rfl (t := 96) rfl rfl mw_3_176 dX9_bound_59 ?_
  refine lv_iload_n X.1.1 X.1.2.1 dX9_bound_62 rfl (lv_at hl 3 rfl) ?_
  refine e_ild X hW (by decide) rfl dX9_bound_63 hf (fun v11 hf => ?_)
  refine lv_iload_n X.1.1 X.1.2.1 dX9_bound_64 rfl (lv_at hl 2 rfl) ?_
  refine lv_icmp_ge (tgt := 77) X.1.1 X.1.2.1 dX9_bound_65 (by decide) (fun c65 => ?_) (fun c65 => ?_)
  · rw [if_pos c65] at hf
    refine lv_iload_n X.1.1 X.1.2.1 dX9_bound_77 rfl (lv_at hl 2 rfl) ?_
    refine lv_istore_n (lv' := [(2, .int y2), (1, .int z0), (0, .ref (E.1 89)), (3, .int y3)]) X.1.1 X.1.2.1 dX9_bound_78 rfl hl (by decide) rfl (fun ls hl => ?_)
    refine lv_iinc (v := (y3 + 1)) (lv' := [(3, .int (y3 + 1)), (2, .int y2), (1, .int z0), (0, .ref (E.1 89))]) X.1.1 X.1.2.1 dX9_bound_79 hl (k := 3) rfl rfl (by decide) rfl (fun ls hl => ?_)
    refine lv_goto (tgt := 27) X.1.1 X.1.2.1 dX9_bound_82 (by decide) ?_
    exact hrec27 z0 y2 (y3 + 1) μ H locs ls hf hW hS (lv_sub hl [3, 2, 1, 0] rfl)
  · rw [if_neg c65] at hf
    refine lv_aload_n X.1.1 X.1.2.1 dX9_bound_68 rfl (lv_at hl 1 rfl) ?_
    refine e_getr X hW (C := RX9) (T := TX9) (N := 35) (j := 7) rfl (by decide) inX9 (by decide) (by decide) rfl (t := 96) rfl rfl mw_3_176 dX9_bound_69 ?_
    refine lv_iload_n X.1.1 X.1.2.1 dX9_bound_72 rfl (lv_at hl 3 rfl) ?_
    refine e_ild X hW (by decide) rfl dX9_bound_73 hf (fun v12 hf => ?_)
    refine lv_goto (tgt := 78) X.1.1 X.1.2.1 dX9_bound_74 (by decide) ?_
    refine lv_istore_n (lv' := [(2, .int v12), (1, .int z0), (0, .ref (E.1 89)), (3, .int y3)]) X.1.1 X.1.2.1 dX9_bound_78 rfl hl (by decide) rfl (fun ls hl => ?_)
    refine lv_iinc (v := (y3 + 1)) (lv' := [(3, .int (y3 + 1)), (2, .int v12), (1, .int z0), (0, .ref (E.1 89))]) X.1.1 X.1.2.1 dX9_bound_79 hl (k := 3) rfl rfl (by decide) rfl (fun ls hl => ?_)
    refine lv_goto (tgt := 27) X.1.1 X.1.2.1 dX9_bound_82 (by decide) ?_
    exact hrec27 z0 v12 (y3 + 1) μ H locs ls hf hW hS (lv_sub hl [3, 2, 1, 0] rfl)
set_option maxRecDepth 100000 in
set_option maxHeartbeats 4000000 in
theorem wfX9_bound_27_b {p : Program} {l : Launch} {e : Env} {s : State} {m : MethodId} {args : Array Value} {below : List Frame} {meth : Method} {c : Code} {E : Gv} {F : Nat}  {r : Int32} {u : Mem} (X : Fx p m c cX9_bound 5 s args (Cond.code yX9_bound cX9_bound 5 (some .int)) "OvenHouseModel" meth (some .int) E)  (rec27 : Int32 → Int32 → Int32 → Mem → Option (Int32 × Mem)) (hrec27 : ∀ (y1 : Int32) (y2 : Int32) (y3 : Int32) (μ : Mem) (H : Heap) (locs : List Loc) (ls : Array Slot), rec27 y1 y2 y3 μ = some (r, u) → Wo E μ H → va_S (AE E) s.heap H locs → lv_has ls 5 [(0, .ref (E.1 89)), (1, .int y1), (2, .int y2), (3, .int y3)] → W0 p l e rmX9_bound s m args below meth c H locs (QcI E r u) E (F0 m 27 ls [])) (y1 : Int32) (y2 : Int32) (y3 : Int32) (μ : Mem) (H : Heap) (locs : List Loc) (ls : Array Slot) (hf : fX9_bound_27_b F  rec27 y1 y2 y3 μ = some (r, u)) (hW : Wo E μ H) (hS : va_S (AE E) s.heap H locs) (hl : lv_has ls 5 [(0, .ref (E.1 89)), (1, .int y1), (2, .int y2), (3, .int y3)]) : W0 p l e rmX9_bound s m args below meth c H locs (QcI E r u) E (F0 m 27 ls []) := by
  unfold fX9_bound_27_b at hf
  refine lv_iload_n X.1.1 X.1.2.1 dX9_bound_27 rfl (lv_at hl 3 rfl) ?_
  refine lv_aload_n X.1.1 X.1.2.1 dX9_bound_28 rfl (lv_at hl 0 rfl) ?_
  refine e_getr X hW (C := RX9) (T := TX9) (N := 35) (j := 5) rfl (by decide) inX9 (by decide) (by decide) rfl (t := 94) rfl rfl mw_3_174 dX9_bound_29 ?_
  refine lv_iconst (v := 0) X.1.1 X.1.2.1 dX9_bound_32 (by decide) ?_
  refine e_ild X hW (by decide) rfl dX9_bound_33 hf (fun v4 hf => ?_)
  refine lv_icmp_ge (tgt := 85) X.1.1 X.1.2.1 dX9_bound_34 (by decide) (fun c34 => ?_) (fun c34 => ?_)
  · rw [if_pos c34] at hf
    refine lv_aload_n X.1.1 X.1.2.1 dX9_bound_85 rfl (lv_at hl 0 rfl) ?_
    refine e_vi (rest := []) (As := []) X hl.1 hW hS (C := RX9) (T := TX9) (N := 35) rfl (by decide) (ctfX9_allMix X.2.2.2.2 F μ) (cwV (rm := rmX9_allMix) 0 X.1.2.2.2.2 (gd_V mw_4_182 mw_4_184 mw_0_27 mw_1_11 mw_4_185) rfl rfl rfl (by decide +kernel) ⟨Nat.le_of_ble_eq_true rfl, Nat.le_of_ble_eq_true rfl⟩) rfl rfl (Nat.le_of_ble_eq_true rfl) dX9_bound_86 ⟨Nat.zero_le _, Nat.zero_le _⟩ hf (fun r6 m5 H locs hf hW hS => ?_)
    refine lv_iload_n X.1.1 X.1.2.1 dX9_bound_89 rfl (lv_at hl 2 rfl) ?_
    refine lv_iadd X.1.1 X.1.2.1 dX9_bound_90 ?_
    refine lv_istore_n (lv' := [(3, .int (r6 + y2)), (0, .ref (E.1 89)), (1, .int y1), (2, .int y2)]) X.1.1 X.1.2.1 dX9_bound_91 rfl hl (by decide) rfl (fun ls hl => ?_)
    refine lv_aload_n X.1.1 X.1.2.1 dX9_bound_92 rfl (lv_at hl 1 rfl) ?_
    refine e_vi (rest := []) (As := []) X hl.1 hW hS (C := RX9) (T := TX9) (N := 35) rfl (by decide) (ctfX9_allBake X.2.2.2.2 F m5) (cwV (rm := rmX9_allBake) 0 X.1.2.2.2.2 (gd_V mw_4_174 mw_4_176 mw_0_26 mw_1_11 mw_4_177) rfl rfl rfl (by decide +kernel) ⟨Nat.le_of_ble_eq_true rfl, Nat.le_of_ble_eq_true rfl⟩) rfl rfl (Nat.le_of_ble_eq_true rfl) dX9_bound_93 ⟨Nat.zero_le _, Nat.zero_le _⟩ hf (fun r8 m7 H locs hf hW hS => ?_)
    refine lv_iload_n X.1.1 X.1.2.1 dX9_bound_96 rfl (lv_at hl 2 rfl) ?_
    refine lv_iadd X.1.1 X.1.2.1 dX9_bound_97 ?_
    refine lv_istore (lv' := [(4, .int (r8 + y1)), (3, .int (r6 + y2)), (0, .ref (E.1 89)), (1, .int y1), (2, .int y2)]) X.1.1 X.1.2.1 dX9_bound_98 hl (by decide) rfl (fun ls hl => ?_)
    refine lv_iload_n X.1.1 X.1.2.1 dX9_bound_100 rfl (lv_at hl 1 rfl) ?_
    refine lv_iload X.1.1 X.1.2.1 dX9_bound_101 (lv_at hl 0 rfl) ?_
    refine lv_icmp_le (tgt := 110) X.1.1 X.1.2.1 dX9_bound_103 (by decide) (fun c103 => ?_) (fun c103 => ?_)
    · rw [if_pos c103] at hf
      refine lv_iload X.1.1 X.1.2.1 dX9_bound_110 (lv_at hl 0 rfl) ?_
      exact e_iret X hW hS hf dX9_bound_112
    · rw [if_neg c103] at hf
      refine lv_iload_n X.1.1 X.1.2.1 dX9_bound_106 rfl (lv_at hl 1 rfl) ?_
      refine lv_goto (tgt := 112) X.1.1 X.1.2.1 dX9_bound_107 (by decide) ?_
      exact e_iret X hW hS hf dX9_bound_112
  · rw [if_neg c34] at hf
    refine lv_aload_n X.1.1 X.1.2.1 dX9_bound_37 rfl (lv_at hl 0 rfl) ?_
    refine e_getr X hW (C := RX9) (T := TX9) (N := 35) (j := 6) rfl (by decide) inX9 (by decide) (by decide) rfl (t := 95) rfl rfl mw_3_175 dX9_bound_38 ?_
    refine lv_iload_n X.1.1 X.1.2.1 dX9_bound_41 rfl (lv_at hl 3 rfl) ?_
    refine e_ild X hW (by decide) rfl dX9_bound_42 hf (fun v9 hf => ?_)
    refine lv_iload_n X.1.1 X.1.2.1 dX9_bound_43 rfl (lv_at hl 1 rfl) ?_
    refine lv_icmp_ge (tgt := 56) X.1.1 X.1.2.1 dX9_bound_44 (by decide) (fun c44 => ?_) (fun c44 => ?_)
    · rw [if_pos c44] at hf
      refine lv_iload_n X.1.1 X.1.2.1 dX9_bound_56 rfl (lv_at hl 1 rfl) ?_
      exact wfX9_bound_57 X rec27 hrec27 y2 y3 y1 μ H locs ls hf hW hS (lv_sub hl [0, 2, 3] rfl)
    · rw [if_neg c44] at hf
      refine lv_aload_n X.1.1 X.1.2.1 dX9_bound_47 rfl (lv_at hl 0 rfl) ?_
      refine e_getr X hW (C := RX9) (T := TX9) (N := 35) (j := 6) rfl (by decide) inX9 (by decide) (by decide) rfl (t := 95) rfl rfl mw_3_175 dX9_bound_48 ?_
      refine lv_iload_n X.1.1 X.1.2.1 dX9_bound_51 rfl (lv_at hl 3 rfl) ?_
      refine e_ild X hW (by decide) rfl dX9_bound_52 hf (fun v10 hf => ?_)
      refine lv_goto (tgt := 57) X.1.1 X.1.2.1 dX9_bound_53 (by decide) ?_
      exact wfX9_bound_57 X rec27 hrec27 y2 y3 v10 μ H locs ls hf hW hS (lv_sub hl [0, 2, 3] rfl)
theorem wfX9_bound_27 {p : Program} {l : Launch} {e : Env} {s : State} {m : MethodId} {args : Array Value} {below : List Frame} {meth : Method} {c : Code} {E : Gv} {F : Nat}  {r : Int32} {u : Mem} (X : Fx p m c cX9_bound 5 s args (Cond.code yX9_bound cX9_bound 5 (some .int)) "OvenHouseModel" meth (some .int) E)  (n : Nat) : ∀ (y1 : Int32) (y2 : Int32) (y3 : Int32) (μ : Mem) (H : Heap) (locs : List Loc) (ls : Array Slot) (_ : fX9_bound_27 F   n y1 y2 y3 μ = some (r, u)) (_ : Wo E μ H) (_ : va_S (AE E) s.heap H locs) (_ : lv_has ls 5 [(0, .ref (E.1 89)), (1, .int y1), (2, .int y2), (3, .int y3)]), W0 p l e rmX9_bound s m args below meth c H locs (QcI E r u) E (F0 m 27 ls []) := by
  induction n with
  | zero => intro y1 y2 y3 μ H locs ls hf hW hS hl; cases hf
  | succ n ih => intro y1 y2 y3 μ H locs ls hf hW hS hl; exact wfX9_bound_27_b X  _ ih y1 y2 y3 μ H locs ls hf hW hS hl
set_option maxRecDepth 100000 in
set_option maxHeartbeats 4000000 in
theorem ctfX9_bound {l : Launch} {E : Gv} (hD : Do E) (F : Nat)  (μ : Mem) : CtI l yX9_bound ((Cond.code yX9_bound cX9_bound 5 (some .int)) :: GG) rmX9_bound E [.ref (E.1 89)] μ (fX9_bound F μ) := by
  intro r u hf
  refine of_entry (cc := cX9_bound) (maxL := 5) (ret := (some .int)) (by decide +kernel) rfl hD (Nat.le_of_ble_eq_true rfl) (fun p e s m args below meth c X H locs hW hS ls hl => ?_)
  have hl : lv_has ls 5 [(0, .ref (E.1 89))] := hl
  unfold fX9_bound at hf
  refine lv_aload_n X.1.1 X.1.2.1 dX9_bound_0 rfl (lv_at hl 0 rfl) ?_
  refine e_getr X hW (C := RX9) (T := TX9) (N := 35) (j := 5) rfl (by decide) inX9 (by decide) (by decide) rfl (t := 94) rfl rfl mw_3_174 dX9_bound_1 ?_
  refine lv_iconst (v := 0) X.1.1 X.1.2.1 dX9_bound_4 (by decide) ?_
  refine e_ild X hW (by decide) rfl dX9_bound_5 hf (fun v1 hf => ?_)
  refine lv_if_ne (tgt := 11) X.1.1 X.1.2.1 dX9_bound_6 (by decide) (fun c6 => ?_) (fun c6 => ?_)
  · rw [if_neg c6] at hf
    refine lv_aload_n X.1.1 X.1.2.1 dX9_bound_11 rfl (lv_at hl 0 rfl) ?_
    refine e_getr X hW (C := RX9) (T := TX9) (N := 35) (j := 6) rfl (by decide) inX9 (by decide) (by decide) rfl (t := 95) rfl rfl mw_3_175 dX9_bound_12 ?_
    refine lv_iconst (v := 0) X.1.1 X.1.2.1 dX9_bound_15 (by decide) ?_
    refine e_ild X hW (by decide) rfl dX9_bound_16 hf (fun v2 hf => ?_)
    refine lv_istore_n (lv' := [(1, .int v2), (0, .ref (E.1 89))]) X.1.1 X.1.2.1 dX9_bound_17 rfl hl (by decide) rfl (fun ls hl => ?_)
    refine lv_aload_n X.1.1 X.1.2.1 dX9_bound_18 rfl (lv_at hl 1 rfl) ?_
    refine e_getr X hW (C := RX9) (T := TX9) (N := 35) (j := 7) rfl (by decide) inX9 (by decide) (by decide) rfl (t := 96) rfl rfl mw_3_176 dX9_bound_19 ?_
    refine lv_iconst (v := 0) X.1.1 X.1.2.1 dX9_bound_22 (by decide) ?_
    refine e_ild X hW (by decide) rfl dX9_bound_23 hf (fun v3 hf => ?_)
    refine lv_istore_n (lv' := [(2, .int v3), (1, .int v2), (0, .ref (E.1 89))]) X.1.1 X.1.2.1 dX9_bound_24 rfl hl (by decide) rfl (fun ls hl => ?_)
    refine lv_iconst (v := 1) X.1.1 X.1.2.1 dX9_bound_25 (by decide) ?_
    refine lv_istore_n (lv' := [(3, .int 1), (2, .int v3), (1, .int v2), (0, .ref (E.1 89))]) X.1.1 X.1.2.1 dX9_bound_26 rfl hl (by decide) rfl (fun ls hl => ?_)
    exact wfX9_bound_27 X  F v2 v3 1 μ H locs ls hf hW hS (lv_sub hl [3, 2, 1, 0] rfl)
  · rw [if_pos c6] at hf
    refine lv_iconst (v := 0) X.1.1 X.1.2.1 dX9_bound_9 (by decide) ?_
    exact e_iret X hW hS hf dX9_bound_10
-- OvenHouseModel.firstRow
def rmX9_firstRow : Room := { frames := 0, cells := 0, slots := 0, locals := 0 }
set_option maxRecDepth 100000 in
set_option maxHeartbeats 4000000 in
theorem wfX9_firstRow_2_b {p : Program} {l : Launch} {e : Env} {s : State} {m : MethodId} {args : Array Value} {below : List Frame} {meth : Method} {c : Code} {E : Gv} {F : Nat}  {u : Mem} (X : Fx p m c cX9_firstRow 2 s args (Cond.code yX9_firstRow cX9_firstRow 2 none) "OvenHouseModel" meth none E)  (rec2 : Int32 → Mem → Option Mem) (hrec2 : ∀ (y1 : Int32) (μ : Mem) (H : Heap) (locs : List Loc) (ls : Array Slot), rec2 y1 μ = some u → Wo E μ H → va_S (AE E) s.heap H locs → lv_has ls 2 [(0, .ref (E.1 89)), (1, .int y1)] → W0 p l e rmX9_firstRow s m args below meth c H locs (QcN E u) E (F0 m 2 ls [])) (y1 : Int32) (μ : Mem) (H : Heap) (locs : List Loc) (ls : Array Slot) (hf : fX9_firstRow_2_b F  rec2 y1 μ = some u) (hW : Wo E μ H) (hS : va_S (AE E) s.heap H locs) (hl : lv_has ls 2 [(0, .ref (E.1 89)), (1, .int y1)]) : W0 p l e rmX9_firstRow s m args below meth c H locs (QcN E u) E (F0 m 2 ls []) := by
  unfold fX9_firstRow_2_b at hf
  refine lv_iload_n X.1.1 X.1.2.1 dX9_firstRow_2 rfl (lv_at hl 1 rfl) ?_
  refine lv_aload_n X.1.1 X.1.2.1 dX9_firstRow_3 rfl (lv_at hl 0 rfl) ?_
  refine e_getr X hW (C := RX9) (T := TX9) (N := 35) (j := 5) rfl (by decide) inX9 (by decide) (by decide) rfl (t := 94) rfl rfl mw_3_174 dX9_firstRow_4 ?_
  refine lv_iconst (v := 0) X.1.1 X.1.2.1 dX9_firstRow_7 (by decide) ?_
  refine e_ild X hW (by decide) rfl dX9_firstRow_8 hf (fun v1 hf => ?_)
  refine lv_icmp_ge (tgt := 25) X.1.1 X.1.2.1 dX9_firstRow_9 (by decide) (fun c9 => ?_) (fun c9 => ?_)
  · rw [if_pos c9] at hf
    exact e_vret X hW hS hf dX9_firstRow_25
  · rw [if_neg c9] at hf
    refine lv_aload_n X.1.1 X.1.2.1 dX9_firstRow_12 rfl (lv_at hl 0 rfl) ?_
    refine e_getr X hW (C := RX9) (T := TX9) (N := 35) (j := 20) rfl (by decide) inX9 (by decide) (by decide) rfl (t := 105) rfl rfl mw_3_189 dX9_firstRow_13 ?_
    refine lv_iload_n X.1.1 X.1.2.1 dX9_firstRow_16 rfl (lv_at hl 1 rfl) ?_
    refine lv_iload_n X.1.1 X.1.2.1 dX9_firstRow_17 rfl (lv_at hl 1 rfl) ?_
    refine e_ist X hW hS (by decide) rfl dX9_firstRow_18 hf (fun m2 H locs hf hW hS => ?_)
    refine lv_iinc (v := (y1 + 1)) (lv' := [(1, .int (y1 + 1)), (0, .ref (E.1 89))]) X.1.1 X.1.2.1 dX9_firstRow_19 hl (k := 1) rfl rfl (by decide) rfl (fun ls hl => ?_)
    refine lv_goto (tgt := 2) X.1.1 X.1.2.1 dX9_firstRow_22 (by decide) ?_
    exact hrec2 (y1 + 1) m2 H locs ls hf hW hS (lv_sub hl [1, 0] rfl)
theorem wfX9_firstRow_2 {p : Program} {l : Launch} {e : Env} {s : State} {m : MethodId} {args : Array Value} {below : List Frame} {meth : Method} {c : Code} {E : Gv} {F : Nat}  {u : Mem} (X : Fx p m c cX9_firstRow 2 s args (Cond.code yX9_firstRow cX9_firstRow 2 none) "OvenHouseModel" meth none E)  (n : Nat) : ∀ (y1 : Int32) (μ : Mem) (H : Heap) (locs : List Loc) (ls : Array Slot) (_ : fX9_firstRow_2 F   n y1 μ = some u) (_ : Wo E μ H) (_ : va_S (AE E) s.heap H locs) (_ : lv_has ls 2 [(0, .ref (E.1 89)), (1, .int y1)]), W0 p l e rmX9_firstRow s m args below meth c H locs (QcN E u) E (F0 m 2 ls []) := by
  induction n with
  | zero => intro y1 μ H locs ls hf hW hS hl; cases hf
  | succ n ih => intro y1 μ H locs ls hf hW hS hl; exact wfX9_firstRow_2_b X  _ ih y1 μ H locs ls hf hW hS hl
set_option maxRecDepth 100000 in
set_option maxHeartbeats 4000000 in
theorem ctfX9_firstRow {l : Launch} {E : Gv} (hD : Do E) (F : Nat)  (μ : Mem) : CtV l yX9_firstRow ((Cond.code yX9_firstRow cX9_firstRow 2 none) :: GG) rmX9_firstRow E [.ref (E.1 89)] μ (fX9_firstRow F μ) := by
  intro u hf
  refine of_entry (cc := cX9_firstRow) (maxL := 2) (ret := none) (by decide +kernel) rfl hD (Nat.le_of_ble_eq_true rfl) (fun p e s m args below meth c X H locs hW hS ls hl => ?_)
  have hl : lv_has ls 2 [(0, .ref (E.1 89))] := hl
  unfold fX9_firstRow at hf
  refine lv_iconst (v := 0) X.1.1 X.1.2.1 dX9_firstRow_0 (by decide) ?_
  refine lv_istore_n (lv' := [(1, .int 0), (0, .ref (E.1 89))]) X.1.1 X.1.2.1 dX9_firstRow_1 rfl hl (by decide) rfl (fun ls hl => ?_)
  exact wfX9_firstRow_2 X  F 0 μ H locs ls hf hW hS (lv_sub hl [1, 0] rfl)
-- OvenHouseModel.nextRow
def rmX9_nextRow : Room := { frames := 0, cells := 0, slots := 0, locals := 0 }
set_option maxRecDepth 100000 in
set_option maxHeartbeats 4000000 in
theorem wfX9_nextRow_107_b {p : Program} {l : Launch} {e : Env} {s : State} {m : MethodId} {args : Array Value} {below : List Frame} {meth : Method} {c : Code} {E : Gv} {F : Nat}  {r : Int32} {u : Mem} (X : Fx p m c cX9_nextRow 7 s args (Cond.code yX9_nextRow cX9_nextRow 7 (some .boolean)) "OvenHouseModel" meth (some .boolean) E)  (rec107 : Int32 → Int32 → Mem → Option (Int32 × Mem)) (hrec107 : ∀ (y5 : Int32) (y6 : Int32) (μ : Mem) (H : Heap) (locs : List Loc) (ls : Array Slot), rec107 y5 y6 μ = some (r, u) → Wo E μ H → va_S (AE E) s.heap H locs → lv_has ls 7 [(0, .ref (E.1 89)), (5, .int y5), (6, .int y6)] → W0 p l e rmX9_nextRow s m args below meth c H locs (QcI E r u) E (F0 m 107 ls [])) (y5 : Int32) (y6 : Int32) (μ : Mem) (H : Heap) (locs : List Loc) (ls : Array Slot) (hf : fX9_nextRow_107_b F  rec107 y5 y6 μ = some (r, u)) (hW : Wo E μ H) (hS : va_S (AE E) s.heap H locs) (hl : lv_has ls 7 [(0, .ref (E.1 89)), (5, .int y5), (6, .int y6)]) : W0 p l e rmX9_nextRow s m args below meth c H locs (QcI E r u) E (F0 m 107 ls []) := by
  unfold fX9_nextRow_107_b at hf
  refine lv_iload X.1.1 X.1.2.1 dX9_nextRow_107 (lv_at hl 1 rfl) ?_
  refine lv_iload X.1.1 X.1.2.1 dX9_nextRow_109 (lv_at hl 2 rfl) ?_
  refine lv_icmp_ge (tgt := 155) X.1.1 X.1.2.1 dX9_nextRow_111 (by decide) (fun c111 => ?_) (fun c111 => ?_)
  · rw [if_pos c111] at hf
    refine lv_iconst (v := 1) X.1.1 X.1.2.1 dX9_nextRow_155 (by decide) ?_
    exact e_zret X hW hS hf dX9_nextRow_156
  · rw [if_neg c111] at hf
    refine lv_aload_n X.1.1 X.1.2.1 dX9_nextRow_114 rfl (lv_at hl 0 rfl) ?_
    refine e_getr X hW (C := RX9) (T := TX9) (N := 35) (j := 20) rfl (by decide) inX9 (by decide) (by decide) rfl (t := 105) rfl rfl mw_3_189 dX9_nextRow_115 ?_
    refine lv_iload X.1.1 X.1.2.1 dX9_nextRow_118 (lv_at hl 1 rfl) ?_
    refine e_ild X hW (by decide) rfl dX9_nextRow_120 hf (fun v10 hf => ?_)
    refine lv_istore (lv' := [(4, .int v10), (0, .ref (E.1 89)), (5, .int y5), (6, .int y6)]) X.1.1 X.1.2.1 dX9_nextRow_121 hl (by decide) rfl (fun ls hl => ?_)
    refine lv_aload_n X.1.1 X.1.2.1 dX9_nextRow_123 rfl (lv_at hl 1 rfl) ?_
    refine e_getr X hW (C := RX9) (T := TX9) (N := 35) (j := 20) rfl (by decide) inX9 (by decide) (by decide) rfl (t := 105) rfl rfl mw_3_189 dX9_nextRow_124 ?_
    refine lv_iload X.1.1 X.1.2.1 dX9_nextRow_127 (lv_at hl 2 rfl) ?_
    refine lv_aload_n X.1.1 X.1.2.1 dX9_nextRow_129 rfl (lv_at hl 1 rfl) ?_
    refine e_getr X hW (C := RX9) (T := TX9) (N := 35) (j := 20) rfl (by decide) inX9 (by decide) (by decide) rfl (t := 105) rfl rfl mw_3_189 dX9_nextRow_130 ?_
    refine lv_iload X.1.1 X.1.2.1 dX9_nextRow_133 (lv_at hl 3 rfl) ?_
    refine e_ild X hW (by decide) rfl dX9_nextRow_135 hf (fun v11 hf => ?_)
    refine e_ist X hW hS (by decide) rfl dX9_nextRow_136 hf (fun m12 H locs hf hW hS => ?_)
    refine lv_aload_n X.1.1 X.1.2.1 dX9_nextRow_137 rfl (lv_at hl 1 rfl) ?_
    refine e_getr X hW (C := RX9) (T := TX9) (N := 35) (j := 20) rfl (by decide) inX9 (by decide) (by decide) rfl (t := 105) rfl rfl mw_3_189 dX9_nextRow_138 ?_
    refine lv_iload X.1.1 X.1.2.1 dX9_nextRow_141 (lv_at hl 3 rfl) ?_
    refine lv_iload X.1.1 X.1.2.1 dX9_nextRow_143 (lv_at hl 0 rfl) ?_
    refine e_ist X hW hS (by decide) rfl dX9_nextRow_145 hf (fun m13 H locs hf hW hS => ?_)
    refine lv_iinc (v := (y5 + 1)) (lv' := [(5, .int (y5 + 1)), (4, .int v10), (0, .ref (E.1 89)), (6, .int y6)]) X.1.1 X.1.2.1 dX9_nextRow_146 hl (k := 2) rfl rfl (by decide) rfl (fun ls hl => ?_)
    refine lv_iinc (v := (y6 + (-1))) (lv' := [(6, .int (y6 + (-1))), (5, .int (y5 + 1)), (4, .int v10), (0, .ref (E.1 89))]) X.1.1 X.1.2.1 dX9_nextRow_149 hl (k := 3) rfl rfl (by decide) rfl (fun ls hl => ?_)
    refine lv_goto (tgt := 107) X.1.1 X.1.2.1 dX9_nextRow_152 (by decide) ?_
    exact hrec107 (y5 + 1) (y6 + (-1)) m13 H locs ls hf hW hS (lv_sub hl [3, 1, 0] rfl)
theorem wfX9_nextRow_107 {p : Program} {l : Launch} {e : Env} {s : State} {m : MethodId} {args : Array Value} {below : List Frame} {meth : Method} {c : Code} {E : Gv} {F : Nat}  {r : Int32} {u : Mem} (X : Fx p m c cX9_nextRow 7 s args (Cond.code yX9_nextRow cX9_nextRow 7 (some .boolean)) "OvenHouseModel" meth (some .boolean) E)  (n : Nat) : ∀ (y5 : Int32) (y6 : Int32) (μ : Mem) (H : Heap) (locs : List Loc) (ls : Array Slot) (_ : fX9_nextRow_107 F   n y5 y6 μ = some (r, u)) (_ : Wo E μ H) (_ : va_S (AE E) s.heap H locs) (_ : lv_has ls 7 [(0, .ref (E.1 89)), (5, .int y5), (6, .int y6)]), W0 p l e rmX9_nextRow s m args below meth c H locs (QcI E r u) E (F0 m 107 ls []) := by
  induction n with
  | zero => intro y5 y6 μ H locs ls hf hW hS hl; cases hf
  | succ n ih => intro y5 y6 μ H locs ls hf hW hS hl; exact wfX9_nextRow_107_b X  _ ih y5 y6 μ H locs ls hf hW hS hl
set_option maxRecDepth 100000 in
set_option maxHeartbeats 4000000 in
theorem wfX9_nextRow_48_b {p : Program} {l : Launch} {e : Env} {s : State} {m : MethodId} {args : Array Value} {below : List Frame} {meth : Method} {c : Code} {E : Gv} {F : Nat}  {r : Int32} {u : Mem} (X : Fx p m c cX9_nextRow 7 s args (Cond.code yX9_nextRow cX9_nextRow 7 (some .boolean)) "OvenHouseModel" meth (some .boolean) E)  (rec48 : Int32 → Int32 → Int32 → Mem → Option (Int32 × Mem)) (hrec48 : ∀ (y1 : Int32) (y2 : Int32) (y3 : Int32) (μ : Mem) (H : Heap) (locs : List Loc) (ls : Array Slot), rec48 y1 y2 y3 μ = some (r, u) → Wo E μ H → va_S (AE E) s.heap H locs → lv_has ls 7 [(0, .ref (E.1 89)), (1, .int y1), (2, .int y2), (3, .int y3)] → W0 p l e rmX9_nextRow s m args below meth c H locs (QcI E r u) E (F0 m 48 ls [])) (y1 : Int32) (y2 : Int32) (y3 : Int32) (μ : Mem) (H : Heap) (locs : List Loc) (ls : Array Slot) (hf : fX9_nextRow_48_b F  rec48 y1 y2 y3 μ = some (r, u)) (hW : Wo E μ H) (hS : va_S (AE E) s.heap H locs) (hl : lv_has ls 7 [(0, .ref (E.1 89)), (1, .int y1), (2, .int y2), (3, .int y3)]) : W0 p l e rmX9_nextRow s m args below meth c H locs (QcI E r u) E (F0 m 48 ls []) := by
  unfold fX9_nextRow_48_b at hf
  refine lv_aload_n X.1.1 X.1.2.1 dX9_nextRow_48 rfl (lv_at hl 0 rfl) ?_
  refine e_getr X hW (C := RX9) (T := TX9) (N := 35) (j := 20) rfl (by decide) inX9 (by decide) (by decide) rfl (t := 105) rfl rfl mw_3_189 dX9_nextRow_49 ?_
  refine lv_iload_n X.1.1 X.1.2.1 dX9_nextRow_52 rfl (lv_at hl 3 rfl) ?_
  refine e_ild X hW (by decide) rfl dX9_nextRow_53 hf (fun v4 hf => ?_)
  refine lv_aload_n X.1.1 X.1.2.1 dX9_nextRow_54 rfl (lv_at hl 0 rfl) ?_
  refine e_getr X hW (C := RX9) (T := TX9) (N := 35) (j := 20) rfl (by decide) inX9 (by decide) (by decide) rfl (t := 105) rfl rfl mw_3_189 dX9_nextRow_55 ?_
  refine lv_iload_n X.1.1 X.1.2.1 dX9_nextRow_58 rfl (lv_at hl 2 rfl) ?_
  refine e_ild X hW (by decide) rfl dX9_nextRow_59 hf (fun v5 hf => ?_)
  refine lv_icmp_ge (tgt := 69) X.1.1 X.1.2.1 dX9_nextRow_60 (by decide) (fun c60 => ?_) (fun c60 => ?_)
  · rw [if_pos c60] at hf
    refine lv_aload_n X.1.1 X.1.2.1 dX9_nextRow_69 rfl (lv_at hl 0 rfl) ?_
    refine e_getr X hW (C := RX9) (T := TX9) (N := 35) (j := 20) rfl (by decide) inX9 (by decide) (by decide) rfl (t := 105) rfl rfl mw_3_189 dX9_nextRow_70 ?_
    refine lv_iload_n X.1.1 X.1.2.1 dX9_nextRow_73 rfl (lv_at hl 2 rfl) ?_
    refine e_ild X hW (by decide) rfl dX9_nextRow_74 hf (fun v6 hf => ?_)
    refine lv_istore (lv' := [(4, .int v6), (0, .ref (E.1 89)), (1, .int y1), (2, .int y2), (3, .int y3)]) X.1.1 X.1.2.1 dX9_nextRow_75 hl (by decide) rfl (fun ls hl => ?_)
    refine lv_aload_n X.1.1 X.1.2.1 dX9_nextRow_77 rfl (lv_at hl 1 rfl) ?_
    refine e_getr X hW (C := RX9) (T := TX9) (N := 35) (j := 20) rfl (by decide) inX9 (by decide) (by decide) rfl (t := 105) rfl rfl mw_3_189 dX9_nextRow_78 ?_
    refine lv_iload_n X.1.1 X.1.2.1 dX9_nextRow_81 rfl (lv_at hl 3 rfl) ?_
    refine lv_aload_n X.1.1 X.1.2.1 dX9_nextRow_82 rfl (lv_at hl 1 rfl) ?_
    refine e_getr X hW (C := RX9) (T := TX9) (N := 35) (j := 20) rfl (by decide) inX9 (by decide) (by decide) rfl (t := 105) rfl rfl mw_3_189 dX9_nextRow_83 ?_
    refine lv_iload_n X.1.1 X.1.2.1 dX9_nextRow_86 rfl (lv_at hl 4 rfl) ?_
    refine e_ild X hW (by decide) rfl dX9_nextRow_87 hf (fun v7 hf => ?_)
    refine e_ist X hW hS (by decide) rfl dX9_nextRow_88 hf (fun m8 H locs hf hW hS => ?_)
    refine lv_aload_n X.1.1 X.1.2.1 dX9_nextRow_89 rfl (lv_at hl 1 rfl) ?_
    refine e_getr X hW (C := RX9) (T := TX9) (N := 35) (j := 20) rfl (by decide) inX9 (by decide) (by decide) rfl (t := 105) rfl rfl mw_3_189 dX9_nextRow_90 ?_
    refine lv_iload_n X.1.1 X.1.2.1 dX9_nextRow_93 rfl (lv_at hl 4 rfl) ?_
    refine lv_iload X.1.1 X.1.2.1 dX9_nextRow_94 (lv_at hl 0 rfl) ?_
    refine e_ist X hW hS (by decide) rfl dX9_nextRow_96 hf (fun m9 H locs hf hW hS => ?_)
    refine lv_iload_n X.1.1 X.1.2.1 dX9_nextRow_97 rfl (lv_at hl 3 rfl) ?_
    refine lv_iconst (v := 1) X.1.1 X.1.2.1 dX9_nextRow_98 (by decide) ?_
    refine lv_iadd X.1.1 X.1.2.1 dX9_nextRow_99 ?_
    refine lv_istore (lv' := [(5, .int (y2 + 1)), (4, .int v6), (0, .ref (E.1 89)), (1, .int y1), (2, .int y2), (3, .int y3)]) X.1.1 X.1.2.1 dX9_nextRow_100 hl (by decide) rfl (fun ls hl => ?_)
    refine lv_iload_n X.1.1 X.1.2.1 dX9_nextRow_102 rfl (lv_at hl 3 rfl) ?_
    refine lv_iconst (v := 1) X.1.1 X.1.2.1 dX9_nextRow_103 (by decide) ?_
    refine lv_isub X.1.1 X.1.2.1 dX9_nextRow_104 ?_
    refine lv_istore (lv' := [(6, .int (y1 - 1)), (5, .int (y2 + 1)), (4, .int v6), (0, .ref (E.1 89)), (1, .int y1), (2, .int y2), (3, .int y3)]) X.1.1 X.1.2.1 dX9_nextRow_105 hl (by decide) rfl (fun ls hl => ?_)
    exact wfX9_nextRow_107 X  F (y2 + 1) (y1 - 1) m9 H locs ls hf hW hS (lv_sub hl [3, 1, 0] rfl)
  · rw [if_neg c60] at hf
    refine lv_iinc (v := (y3 + (-1))) (lv' := [(3, .int (y3 + (-1))), (0, .ref (E.1 89)), (1, .int y1), (2, .int y2)]) X.1.1 X.1.2.1 dX9_nextRow_63 hl (k := 3) rfl rfl (by decide) rfl (fun ls hl => ?_)
    refine lv_goto (tgt := 48) X.1.1 X.1.2.1 dX9_nextRow_66 (by decide) ?_
    exact hrec48 y1 y2 (y3 + (-1)) μ H locs ls hf hW hS (lv_sub hl [1, 2, 3, 0] rfl)
theorem wfX9_nextRow_48 {p : Program} {l : Launch} {e : Env} {s : State} {m : MethodId} {args : Array Value} {below : List Frame} {meth : Method} {c : Code} {E : Gv} {F : Nat}  {r : Int32} {u : Mem} (X : Fx p m c cX9_nextRow 7 s args (Cond.code yX9_nextRow cX9_nextRow 7 (some .boolean)) "OvenHouseModel" meth (some .boolean) E)  (n : Nat) : ∀ (y1 : Int32) (y2 : Int32) (y3 : Int32) (μ : Mem) (H : Heap) (locs : List Loc) (ls : Array Slot) (_ : fX9_nextRow_48 F   n y1 y2 y3 μ = some (r, u)) (_ : Wo E μ H) (_ : va_S (AE E) s.heap H locs) (_ : lv_has ls 7 [(0, .ref (E.1 89)), (1, .int y1), (2, .int y2), (3, .int y3)]), W0 p l e rmX9_nextRow s m args below meth c H locs (QcI E r u) E (F0 m 48 ls []) := by
  induction n with
  | zero => intro y1 y2 y3 μ H locs ls hf hW hS hl; cases hf
  | succ n ih => intro y1 y2 y3 μ H locs ls hf hW hS hl; exact wfX9_nextRow_48_b X  _ ih y1 y2 y3 μ H locs ls hf hW hS hl
set_option maxRecDepth 100000 in
set_option maxHeartbeats 4000000 in
theorem wfX9_nextRow_38 {p : Program} {l : Launch} {e : Env} {s : State} {m : MethodId} {args : Array Value} {below : List Frame} {meth : Method} {c : Code} {E : Gv} {F : Nat}  {r : Int32} {u : Mem} (X : Fx p m c cX9_nextRow 7 s args (Cond.code yX9_nextRow cX9_nextRow 7 (some .boolean)) "OvenHouseModel" meth (some .boolean) E)  (y1 : Int32) (y2 : Int32) (μ : Mem) (H : Heap) (locs : List Loc) (ls : Array Slot) (hf : fX9_nextRow_38 F   y1 y2 μ = some (r, u)) (hW : Wo E μ H) (hS : va_S (AE E) s.heap H locs) (hl : lv_has ls 7 [(0, .ref (E.1 89)), (1, .int y1), (2, .int y2)]) : W0 p l e rmX9_nextRow s m args below meth c H locs (QcI E r u) E (F0 m 38 ls []) := by
  unfold fX9_nextRow_38 at hf
  refine lv_iload_n X.1.1 X.1.2.1 dX9_nextRow_38 rfl (lv_at hl 2 rfl) ?_
  refine lv_if_ge (tgt := 44) X.1.1 X.1.2.1 dX9_nextRow_39 (by decide) (fun c39 => ?_) (fun c39 => ?_)
  · rw [if_pos c39] at hf
    refine lv_iload_n X.1.1 X.1.2.1 dX9_nextRow_44 rfl (lv_at hl 1 rfl) ?_
    refine lv_iconst (v := 1) X.1.1 X.1.2.1 dX9_nextRow_45 (by decide) ?_
    refine lv_isub X.1.1 X.1.2.1 dX9_nextRow_46 ?_
    refine lv_istore_n (lv' := [(3, .int (y1 - 1)), (0, .ref (E.1 89)), (1, .int y1), (2, .int y2)]) X.1.1 X.1.2.1 dX9_nextRow_47 rfl hl (by decide) rfl (fun ls hl => ?_)
    exact wfX9_nextRow_48 X  F y1 y2 (y1 - 1) μ H locs ls hf hW hS (lv_sub hl [1, 2, 3, 0] rfl)
  · rw [if_neg c39] at hf
    refine lv_iconst (v := 0) X.1.1 X.1.2.1 dX9_nextRow_42 (by decide) ?_
    exact e_zret X hW hS hf dX9_nextRow_43
set_option maxRecDepth 100000 in
set_option maxHeartbeats 4000000 in
theorem wfX9_nextRow_11_b {p : Program} {l : Launch} {e : Env} {s : State} {m : MethodId} {args : Array Value} {below : List Frame} {meth : Method} {c : Code} {E : Gv} {F : Nat}  {r : Int32} {u : Mem} (X : Fx p m c cX9_nextRow 7 s args (Cond.code yX9_nextRow cX9_nextRow 7 (some .boolean)) "OvenHouseModel" meth (some .boolean) E)  (rec11 : Int32 → Int32 → Mem → Option (Int32 × Mem)) (hrec11 : ∀ (y1 : Int32) (y2 : Int32) (μ : Mem) (H : Heap) (locs : List Loc) (ls : Array Slot), rec11 y1 y2 μ = some (r, u) → Wo E μ H → va_S (AE E) s.heap H locs → lv_has ls 7 [(0, .ref (E.1 89)), (1, .int y1), (2, .int y2)] → W0 p l e rmX9_nextRow s m args below meth c H locs (QcI E r u) E (F0 m 11 ls [])) (y1 : Int32) (y2 : Int32) (μ : Mem) (H : Heap) (locs : List Loc) (ls : Array Slot) (hf : fX9_nextRow_11_b F  rec11 y1 y2 μ = some (r, u)) (hW : Wo E μ H) (hS : va_S (AE E) s.heap H locs) (hl : lv_has ls 7 [(0, .ref (E.1 89)), (1, .int y1), (2, .int y2)]) : W0 p l e rmX9_nextRow s m args below meth c H locs (QcI E r u) E (F0 m 11 ls []) := by
  unfold fX9_nextRow_11_b at hf
  refine lv_iload_n X.1.1 X.1.2.1 dX9_nextRow_11 rfl (lv_at hl 2 rfl) ?_
  refine lv_if_lt (tgt := 38) X.1.1 X.1.2.1 dX9_nextRow_12 (by decide) (fun c12 => ?_) (fun c12 => ?_)
  · rw [if_pos c12] at hf
    exact wfX9_nextRow_38 X  y1 y2 μ H locs ls hf hW hS (lv_sub hl [0, 1, 2] rfl)
  · rw [if_neg c12] at hf
    refine lv_aload_n X.1.1 X.1.2.1 dX9_nextRow_15 rfl (lv_at hl 0 rfl) ?_
    refine e_getr X hW (C := RX9) (T := TX9) (N := 35) (j := 20) rfl (by decide) inX9 (by decide) (by decide) rfl (t := 105) rfl rfl mw_3_189 dX9_nextRow_16 ?_
    refine lv_iload_n X.1.1 X.1.2.1 dX9_nextRow_19 rfl (lv_at hl 2 rfl) ?_
    refine e_ild X hW (by decide) rfl dX9_nextRow_20 hf (fun v2 hf => ?_)
    refine lv_aload_n X.1.1 X.1.2.1 dX9_nextRow_21 rfl (lv_at hl 0 rfl) ?_
    refine e_getr X hW (C := RX9) (T := TX9) (N := 35) (j := 20) rfl (by decide) inX9 (by decide) (by decide) rfl (t := 105) rfl rfl mw_3_189 dX9_nextRow_22 ?_
    refine lv_iload_n X.1.1 X.1.2.1 dX9_nextRow_25 rfl (lv_at hl 2 rfl) ?_
    refine lv_iconst (v := 1) X.1.1 X.1.2.1 dX9_nextRow_26 (by decide) ?_
    refine lv_iadd X.1.1 X.1.2.1 dX9_nextRow_27 ?_
    refine e_ild X hW (by decide) rfl dX9_nextRow_28 hf (fun v3 hf => ?_)
    refine lv_icmp_le (tgt := 38) X.1.1 X.1.2.1 dX9_nextRow_29 (by decide) (fun c29 => ?_) (fun c29 => ?_)
    · rw [if_pos c29] at hf
      exact wfX9_nextRow_38 X  y1 y2 μ H locs ls hf hW hS (lv_sub hl [0, 1, 2] rfl)
    · rw [if_neg c29] at hf
      refine lv_iinc (v := (y2 + (-1))) (lv' := [(2, .int (y2 + (-1))), (0, .ref (E.1 89)), (1, .int y1)]) X.1.1 X.1.2.1 dX9_nextRow_32 hl (k := 2) rfl rfl (by decide) rfl (fun ls hl => ?_)
      refine lv_goto (tgt := 11) X.1.1 X.1.2.1 dX9_nextRow_35 (by decide) ?_
      exact hrec11 y1 (y2 + (-1)) μ H locs ls hf hW hS (lv_sub hl [1, 2, 0] rfl)
theorem wfX9_nextRow_11 {p : Program} {l : Launch} {e : Env} {s : State} {m : MethodId} {args : Array Value} {below : List Frame} {meth : Method} {c : Code} {E : Gv} {F : Nat}  {r : Int32} {u : Mem} (X : Fx p m c cX9_nextRow 7 s args (Cond.code yX9_nextRow cX9_nextRow 7 (some .boolean)) "OvenHouseModel" meth (some .boolean) E)  (n : Nat) : ∀ (y1 : Int32) (y2 : Int32) (μ : Mem) (H : Heap) (locs : List Loc) (ls : Array Slot) (_ : fX9_nextRow_11 F   n y1 y2 μ = some (r, u)) (_ : Wo E μ H) (_ : va_S (AE E) s.heap H locs) (_ : lv_has ls 7 [(0, .ref (E.1 89)), (1, .int y1), (2, .int y2)]), W0 p l e rmX9_nextRow s m args below meth c H locs (QcI E r u) E (F0 m 11 ls []) := by
  induction n with
  | zero => intro y1 y2 μ H locs ls hf hW hS hl; cases hf
  | succ n ih => intro y1 y2 μ H locs ls hf hW hS hl; exact wfX9_nextRow_11_b X  _ ih y1 y2 μ H locs ls hf hW hS hl
set_option maxRecDepth 100000 in
set_option maxHeartbeats 4000000 in
theorem ctfX9_nextRow {l : Launch} {E : Gv} (hD : Do E) (F : Nat)  (μ : Mem) : CtI l yX9_nextRow ((Cond.code yX9_nextRow cX9_nextRow 7 (some .boolean)) :: GG) rmX9_nextRow E [.ref (E.1 89)] μ (fX9_nextRow F μ) := by
  intro r u hf
  refine of_entry (cc := cX9_nextRow) (maxL := 7) (ret := (some .boolean)) (by decide +kernel) rfl hD (Nat.le_of_ble_eq_true rfl) (fun p e s m args below meth c X H locs hW hS ls hl => ?_)
  have hl : lv_has ls 7 [(0, .ref (E.1 89))] := hl
  unfold fX9_nextRow at hf
  refine lv_aload_n X.1.1 X.1.2.1 dX9_nextRow_0 rfl (lv_at hl 0 rfl) ?_
  refine e_getr X hW (C := RX9) (T := TX9) (N := 35) (j := 5) rfl (by decide) inX9 (by decide) (by decide) rfl (t := 94) rfl rfl mw_3_174 dX9_nextRow_1 ?_
  refine lv_iconst (v := 0) X.1.1 X.1.2.1 dX9_nextRow_4 (by decide) ?_
  refine e_ild X hW (by decide) rfl dX9_nextRow_5 hf (fun v1 hf => ?_)
  refine lv_istore_n (lv' := [(1, .int v1), (0, .ref (E.1 89))]) X.1.1 X.1.2.1 dX9_nextRow_6 rfl hl (by decide) rfl (fun ls hl => ?_)
  refine lv_iload_n X.1.1 X.1.2.1 dX9_nextRow_7 rfl (lv_at hl 0 rfl) ?_
  refine lv_iconst (v := 2) X.1.1 X.1.2.1 dX9_nextRow_8 (by decide) ?_
  refine lv_isub X.1.1 X.1.2.1 dX9_nextRow_9 ?_
  refine lv_istore_n (lv' := [(2, .int (v1 - 2)), (1, .int v1), (0, .ref (E.1 89))]) X.1.1 X.1.2.1 dX9_nextRow_10 rfl hl (by decide) rfl (fun ls hl => ?_)
  exact wfX9_nextRow_11 X  F v1 (v1 - 2) μ H locs ls hf hW hS (lv_sub hl [2, 1, 0] rfl)
-- OvenHouseModel.finds
def rmX9_finds : Room := { frames := 0, cells := 0, slots := 0, locals := 0 }
set_option maxRecDepth 100000 in
set_option maxHeartbeats 4000000 in
theorem wfX9_finds_12_b {p : Program} {l : Launch} {e : Env} {s : State} {m : MethodId} {args : Array Value} {below : List Frame} {meth : Method} {c : Code} {E : Gv} {F : Nat} {k1 : Nat} {u : Mem} (X : Fx p m c cX9_finds 3 s args (Cond.code yX9_finds cX9_finds 3 none) "OvenHouseModel" meth none E) (h1 : k1 < NC ∧ kd k1 = 10) (rec12 : Int32 → Mem → Option Mem) (hrec12 : ∀ (y2 : Int32) (μ : Mem) (H : Heap) (locs : List Loc) (ls : Array Slot), rec12 y2 μ = some u → Wo E μ H → va_S (AE E) s.heap H locs → lv_has ls 3 [(0, .ref (E.1 89)), (1, .ref (E.1 k1)), (2, .int y2)] → W0 p l e rmX9_finds s m args below meth c H locs (QcN E u) E (F0 m 12 ls [])) (y2 : Int32) (μ : Mem) (H : Heap) (locs : List Loc) (ls : Array Slot) (hf : fX9_finds_12_b F k1 rec12 y2 μ = some u) (hW : Wo E μ H) (hS : va_S (AE E) s.heap H locs) (hl : lv_has ls 3 [(0, .ref (E.1 89)), (1, .ref (E.1 k1)), (2, .int y2)]) : W0 p l e rmX9_finds s m args below meth c H locs (QcN E u) E (F0 m 12 ls []) := by
  unfold fX9_finds_12_b at hf
  refine lv_iload_n X.1.1 X.1.2.1 dX9_finds_12 rfl (lv_at hl 2 rfl) ?_
  refine lv_aload_n X.1.1 X.1.2.1 dX9_finds_13 rfl (lv_at hl 0 rfl) ?_
  refine e_geti X hW (C := RX9) (T := TX9) (N := 35) (j := 12) rfl (by decide) inX9 (by decide) (by decide) rfl rfl mw_3_181 dX9_finds_14 ?_
  refine lv_icmp_ge (tgt := 35) X.1.1 X.1.2.1 dX9_finds_17 (by decide) (fun c17 => ?_) (fun c17 => ?_)
  · rw [if_pos c17] at hf
    refine lv_aload_n X.1.1 X.1.2.1 dX9_finds_35 rfl (lv_at hl 0 rfl) ?_
    refine lv_iconst (v := 1) X.1.1 X.1.2.1 dX9_finds_36 (by decide) ?_
    refine e_put X hW hS (C := RX9) (T := TX9) (N := 35) (j := 14) (tyF := tyX9) rfl (by decide) inX9 tyX9_ok nmX9 (by decide) (by decide) rfl rfl mw_3_183 rfl rfl rfl dX9_finds_37 hf (fun m3 H locs hf hW hS => ?_)
    refine lv_aload_n X.1.1 X.1.2.1 dX9_finds_40 rfl (lv_at hl 0 rfl) ?_
    refine lv_iconst (v := 1) X.1.1 X.1.2.1 dX9_finds_41 (by decide) ?_
    refine e_put X hW hS (C := RX9) (T := TX9) (N := 35) (j := 15) (tyF := tyX9) rfl (by decide) inX9 tyX9_ok nmX9 (by decide) (by decide) rfl rfl mw_3_184 rfl rfl rfl dX9_finds_42 hf (fun m4 H locs hf hW hS => ?_)
    exact e_vret X hW hS hf dX9_finds_45
  · rw [if_neg c17] at hf
    refine lv_aload_n X.1.1 X.1.2.1 dX9_finds_20 rfl (lv_at hl 0 rfl) ?_
    refine e_getr X hW (C := RX9) (T := TX9) (N := 35) (j := 13) rfl (by decide) inX9 (by decide) (by decide) rfl (t := 100) rfl rfl mw_3_182 dX9_finds_21 ?_
    refine lv_iload_n X.1.1 X.1.2.1 dX9_finds_24 rfl (lv_at hl 2 rfl) ?_
    refine lv_aload_n X.1.1 X.1.2.1 dX9_finds_25 rfl (lv_at hl 1 rfl) ?_
    refine lv_iload_n X.1.1 X.1.2.1 dX9_finds_26 rfl (lv_at hl 2 rfl) ?_
    refine e_ild X hW h1.1 h1.2 dX9_finds_27 hf (fun v5 hf => ?_)
    refine e_ist X hW hS (by decide) rfl dX9_finds_28 hf (fun m6 H locs hf hW hS => ?_)
    refine lv_iinc (v := (y2 + 1)) (lv' := [(2, .int (y2 + 1)), (0, .ref (E.1 89)), (1, .ref (E.1 k1))]) X.1.1 X.1.2.1 dX9_finds_29 hl (k := 2) rfl rfl (by decide) rfl (fun ls hl => ?_)
    refine lv_goto (tgt := 12) X.1.1 X.1.2.1 dX9_finds_32 (by decide) ?_
    exact hrec12 (y2 + 1) m6 H locs ls hf hW hS (lv_sub hl [1, 2, 0] rfl)
theorem wfX9_finds_12 {p : Program} {l : Launch} {e : Env} {s : State} {m : MethodId} {args : Array Value} {below : List Frame} {meth : Method} {c : Code} {E : Gv} {F : Nat} {k1 : Nat} {u : Mem} (X : Fx p m c cX9_finds 3 s args (Cond.code yX9_finds cX9_finds 3 none) "OvenHouseModel" meth none E) (h1 : k1 < NC ∧ kd k1 = 10) (n : Nat) : ∀ (y2 : Int32) (μ : Mem) (H : Heap) (locs : List Loc) (ls : Array Slot) (_ : fX9_finds_12 F k1  n y2 μ = some u) (_ : Wo E μ H) (_ : va_S (AE E) s.heap H locs) (_ : lv_has ls 3 [(0, .ref (E.1 89)), (1, .ref (E.1 k1)), (2, .int y2)]), W0 p l e rmX9_finds s m args below meth c H locs (QcN E u) E (F0 m 12 ls []) := by
  induction n with
  | zero => intro y2 μ H locs ls hf hW hS hl; cases hf
  | succ n ih => intro y2 μ H locs ls hf hW hS hl; exact wfX9_finds_12_b X h1 _ ih y2 μ H locs ls hf hW hS hl
set_option maxRecDepth 100000 in
set_option maxHeartbeats 4000000 in
theorem ctfX9_finds {l : Launch} {E : Gv} (hD : Do E) (F : Nat) (k1 : Nat) (h1 : k1 < NC ∧ kd k1 = 10) (μ : Mem) : CtV l yX9_finds ((Cond.code yX9_finds cX9_finds 3 none) :: GG) rmX9_finds E [.ref (E.1 89), .ref (E.1 k1)] μ (fX9_finds F k1 μ) := by
  intro u hf
  refine of_entry (cc := cX9_finds) (maxL := 3) (ret := none) (by decide +kernel) rfl hD (Nat.le_of_ble_eq_true rfl) (fun p e s m args below meth c X H locs hW hS ls hl => ?_)
  have hl : lv_has ls 3 [(0, .ref (E.1 89)), (1, .ref (E.1 k1))] := hl
  unfold fX9_finds at hf
  refine lv_aload_n X.1.1 X.1.2.1 dX9_finds_0 rfl (lv_at hl 0 rfl) ?_
  refine lv_aload_n X.1.1 X.1.2.1 dX9_finds_1 rfl (lv_at hl 0 rfl) ?_
  refine e_getr X hW (C := RX9) (T := TX9) (N := 35) (j := 5) rfl (by decide) inX9 (by decide) (by decide) rfl (t := 94) rfl rfl mw_3_174 dX9_finds_2 ?_
  refine lv_iconst (v := 0) X.1.1 X.1.2.1 dX9_finds_5 (by decide) ?_
  refine e_ild X hW (by decide) rfl dX9_finds_6 hf (fun v1 hf => ?_)
  refine e_put X hW hS (C := RX9) (T := TX9) (N := 35) (j := 12) (tyF := tyX9) rfl (by decide) inX9 tyX9_ok nmX9 (by decide) (by decide) rfl rfl mw_3_181 rfl rfl rfl dX9_finds_7 hf (fun m2 H locs hf hW hS => ?_)
  refine lv_iconst (v := 0) X.1.1 X.1.2.1 dX9_finds_10 (by decide) ?_
  refine lv_istore_n (lv' := [(2, .int 0), (0, .ref (E.1 89)), (1, .ref (E.1 k1))]) X.1.1 X.1.2.1 dX9_finds_11 rfl hl (by decide) rfl (fun ls hl => ?_)
  exact wfX9_finds_12 X h1 F 0 m2 H locs ls hf hW hS (lv_sub hl [1, 2, 0] rfl)
-- OvenHouseModel.sorts
def rmX9_sorts : Room := { frames := 0, cells := 0, slots := 0, locals := 0 }
set_option maxRecDepth 100000 in
set_option maxHeartbeats 4000000 in
theorem wfX9_sorts_48 {p : Program} {l : Launch} {e : Env} {s : State} {m : MethodId} {args : Array Value} {below : List Frame} {meth : Method} {c : Code} {E : Gv} {F : Nat} {k1 : Nat} {k2 : Nat} {u : Mem} (X : Fx p m c cX9_sorts 5 s args (Cond.code yX9_sorts cX9_sorts 5 none) "OvenHouseModel" meth none E) (h1 : k1 < NC ∧ kd k1 = 10) (h2 : k2 < NC ∧ kd k2 = 10) (rec2 : Int32 → Mem → Option Mem) (hrec2 : ∀ (y3 : Int32) (μ : Mem) (H : Heap) (locs : List Loc) (ls : Array Slot), rec2 y3 μ = some u → Wo E μ H → va_S (AE E) s.heap H locs → lv_has ls 5 [(0, .ref (E.1 89)), (1, .ref (E.1 k1)), (2, .ref (E.1 k2)), (3, .int y3)] → W0 p l e rmX9_sorts s m args below meth c H locs (QcN E u) E (F0 m 2 ls [])) (y3 : Int32) (y4 : Int32) (μ : Mem) (H : Heap) (locs : List Loc) (ls : Array Slot) (hf : fX9_sorts_48 F k1 k2 rec2 y3 y4 μ = some u) (hW : Wo E μ H) (hS : va_S (AE E) s.heap H locs) (hl : lv_has ls 5 [(0, .ref (E.1 89)), (1, .ref (E.1 k1)), (2, .ref (E.1 k2)), (3, .int y3), (4, .int y4)]) : W0 p l e rmX9_sorts s m args below meth c H locs (QcN E u) E (F0 m 48 ls []) := by
  unfold fX9_sorts_48 at hf
  refine lv_aload_n X.1.1 X.1.2.1 dX9_sorts_48 rfl (lv_at hl 1 rfl) ?_
  refine lv_iload X.1.1 X.1.2.1 dX9_sorts_49 (lv_at hl 4 rfl) ?_
  refine lv_iload_n X.1.1 X.1.2.1 dX9_sorts_51 rfl (lv_at hl 3 rfl) ?_
  refine e_ist X hW hS h1.1 h1.2 dX9_sorts_52 hf (fun m6 H locs hf hW hS => ?_)
  refine lv_iinc (v := (y3 + 1)) (lv' := [(3, .int (y3 + 1)), (0, .ref (E.1 89)), (1, .ref (E.1 k1)), (2, .ref (E.1 k2)), (4, .int y4)]) X.1.1 X.1.2.1 dX9_sorts_53 hl (k := 3) rfl rfl (by decide) rfl (fun ls hl => ?_)
  refine lv_goto (tgt := 2) X.1.1 X.1.2.1 dX9_sorts_56 (by decide) ?_
  exact hrec2 (y3 + 1) m6 H locs ls hf hW hS (lv_sub hl [1, 2, 3, 0] rfl)
set_option maxRecDepth 100000 in
set_option maxHeartbeats 4000000 in
theorem wfX9_sorts_13_b {p : Program} {l : Launch} {e : Env} {s : State} {m : MethodId} {args : Array Value} {below : List Frame} {meth : Method} {c : Code} {E : Gv} {F : Nat} {k1 : Nat} {k2 : Nat} {u : Mem} (X : Fx p m c cX9_sorts 5 s args (Cond.code yX9_sorts cX9_sorts 5 none) "OvenHouseModel" meth none E) (h1 : k1 < NC ∧ kd k1 = 10) (h2 : k2 < NC ∧ kd k2 = 10) (rec2 : Int32 → Mem → Option Mem) (hrec2 : ∀ (y3 : Int32) (μ : Mem) (H : Heap) (locs : List Loc) (ls : Array Slot), rec2 y3 μ = some u → Wo E μ H → va_S (AE E) s.heap H locs → lv_has ls 5 [(0, .ref (E.1 89)), (1, .ref (E.1 k1)), (2, .ref (E.1 k2)), (3, .int y3)] → W0 p l e rmX9_sorts s m args below meth c H locs (QcN E u) E (F0 m 2 ls [])) (rec13 : Int32 → Int32 → Mem → Option Mem) (hrec13 : ∀ (y3 : Int32) (y4 : Int32) (μ : Mem) (H : Heap) (locs : List Loc) (ls : Array Slot), rec13 y3 y4 μ = some u → Wo E μ H → va_S (AE E) s.heap H locs → lv_has ls 5 [(0, .ref (E.1 89)), (1, .ref (E.1 k1)), (2, .ref (E.1 k2)), (3, .int y3), (4, .int y4)] → W0 p l e rmX9_sorts s m args below meth c H locs (QcN E u) E (F0 m 13 ls [])) (y3 : Int32) (y4 : Int32) (μ : Mem) (H : Heap) (locs : List Loc) (ls : Array Slot) (hf : fX9_sorts_13_b F k1 k2 rec2 rec13 y3 y4 μ = some u) (hW : Wo E μ H) (hS : va_S (AE E) s.heap H locs) (hl : lv_has ls 5 [(0, .ref (E.1 89)), (1, .ref (E.1 k1)), (2, .ref (E.1 k2)), (3, .int y3), (4, .int y4)]) : W0 p l e rmX9_sorts s m args below meth c H locs (QcN E u) E (F0 m 13 ls []) := by
  unfold fX9_sorts_13_b at hf
  refine lv_iload X.1.1 X.1.2.1 dX9_sorts_13 (lv_at hl 4 rfl) ?_
  refine lv_if_le (tgt := 48) X.1.1 X.1.2.1 dX9_sorts_15 (by decide) (fun c15 => ?_) (fun c15 => ?_)
  · rw [if_pos c15] at hf
    exact wfX9_sorts_48 X h1 h2 rec2 hrec2 y3 y4 μ H locs ls hf hW hS (lv_sub hl [0, 1, 2, 3, 4] rfl)
  · rw [if_neg c15] at hf
    refine lv_aload_n X.1.1 X.1.2.1 dX9_sorts_18 rfl (lv_at hl 2 rfl) ?_
    refine lv_aload_n X.1.1 X.1.2.1 dX9_sorts_19 rfl (lv_at hl 1 rfl) ?_
    refine lv_iload X.1.1 X.1.2.1 dX9_sorts_20 (lv_at hl 4 rfl) ?_
    refine lv_iconst (v := 1) X.1.1 X.1.2.1 dX9_sorts_22 (by decide) ?_
    refine lv_isub X.1.1 X.1.2.1 dX9_sorts_23 ?_
    refine e_ild X hW h1.1 h1.2 dX9_sorts_24 hf (fun v1 hf => ?_)
    refine e_ild X hW h2.1 h2.2 dX9_sorts_25 hf (fun v2 hf => ?_)
    refine lv_aload_n X.1.1 X.1.2.1 dX9_sorts_26 rfl (lv_at hl 2 rfl) ?_
    refine lv_iload_n X.1.1 X.1.2.1 dX9_sorts_27 rfl (lv_at hl 3 rfl) ?_
    refine e_ild X hW h2.1 h2.2 dX9_sorts_28 hf (fun v3 hf => ?_)
    refine lv_icmp_le (tgt := 48) X.1.1 X.1.2.1 dX9_sorts_29 (by decide) (fun c29 => ?_) (fun c29 => ?_)
    · rw [if_pos c29] at hf
      exact wfX9_sorts_48 X h1 h2 rec2 hrec2 y3 y4 μ H locs ls hf hW hS (lv_sub hl [0, 1, 2, 3, 4] rfl)
    · rw [if_neg c29] at hf
      refine lv_aload_n X.1.1 X.1.2.1 dX9_sorts_32 rfl (lv_at hl 1 rfl) ?_
      refine lv_iload X.1.1 X.1.2.1 dX9_sorts_33 (lv_at hl 4 rfl) ?_
      refine lv_aload_n X.1.1 X.1.2.1 dX9_sorts_35 rfl (lv_at hl 1 rfl) ?_
      refine lv_iload X.1.1 X.1.2.1 dX9_sorts_36 (lv_at hl 4 rfl) ?_
      refine lv_iconst (v := 1) X.1.1 X.1.2.1 dX9_sorts_38 (by decide) ?_
      refine lv_isub X.1.1 X.1.2.1 dX9_sorts_39 ?_
      refine e_ild X hW h1.1 h1.2 dX9_sorts_40 hf (fun v4 hf => ?_)
      refine e_ist X hW hS h1.1 h1.2 dX9_sorts_41 hf (fun m5 H locs hf hW hS => ?_)
      refine lv_iinc (v := (y4 + (-1))) (lv' := [(4, .int (y4 + (-1))), (0, .ref (E.1 89)), (1, .ref (E.1 k1)), (2, .ref (E.1 k2)), (3, .int y3)]) X.1.1 X.1.2.1 dX9_sorts_42 hl (k := 4) rfl rfl (by decide) rfl (fun ls hl => ?_)
      refine lv_goto (tgt := 13) X.1.1 X.1.2.1 dX9_sorts_45 (by decide) ?_
      exact hrec13 y3 (y4 + (-1)) m5 H locs ls hf hW hS (lv_sub hl [1, 2, 3, 4, 0] rfl)
theorem wfX9_sorts_13 {p : Program} {l : Launch} {e : Env} {s : State} {m : MethodId} {args : Array Value} {below : List Frame} {meth : Method} {c : Code} {E : Gv} {F : Nat} {k1 : Nat} {k2 : Nat} {u : Mem} (X : Fx p m c cX9_sorts 5 s args (Cond.code yX9_sorts cX9_sorts 5 none) "OvenHouseModel" meth none E) (h1 : k1 < NC ∧ kd k1 = 10) (h2 : k2 < NC ∧ kd k2 = 10) (rec2 : Int32 → Mem → Option Mem) (hrec2 : ∀ (y3 : Int32) (μ : Mem) (H : Heap) (locs : List Loc) (ls : Array Slot), rec2 y3 μ = some u → Wo E μ H → va_S (AE E) s.heap H locs → lv_has ls 5 [(0, .ref (E.1 89)), (1, .ref (E.1 k1)), (2, .ref (E.1 k2)), (3, .int y3)] → W0 p l e rmX9_sorts s m args below meth c H locs (QcN E u) E (F0 m 2 ls [])) (n : Nat) : ∀ (y3 : Int32) (y4 : Int32) (μ : Mem) (H : Heap) (locs : List Loc) (ls : Array Slot) (_ : fX9_sorts_13 F k1 k2 rec2 n y3 y4 μ = some u) (_ : Wo E μ H) (_ : va_S (AE E) s.heap H locs) (_ : lv_has ls 5 [(0, .ref (E.1 89)), (1, .ref (E.1 k1)), (2, .ref (E.1 k2)), (3, .int y3), (4, .int y4)]), W0 p l e rmX9_sorts s m args below meth c H locs (QcN E u) E (F0 m 13 ls []) := by
  induction n with
  | zero => intro y3 y4 μ H locs ls hf hW hS hl; cases hf
  | succ n ih => intro y3 y4 μ H locs ls hf hW hS hl; exact wfX9_sorts_13_b X h1 h2 rec2 hrec2 _ ih y3 y4 μ H locs ls hf hW hS hl
set_option maxRecDepth 100000 in
set_option maxHeartbeats 4000000 in
theorem wfX9_sorts_2_b {p : Program} {l : Launch} {e : Env} {s : State} {m : MethodId} {args : Array Value} {below : List Frame} {meth : Method} {c : Code} {E : Gv} {F : Nat} {k1 : Nat} {k2 : Nat} {u : Mem} (X : Fx p m c cX9_sorts 5 s args (Cond.code yX9_sorts cX9_sorts 5 none) "OvenHouseModel" meth none E) (h1 : k1 < NC ∧ kd k1 = 10) (h2 : k2 < NC ∧ kd k2 = 10) (rec2 : Int32 → Mem → Option Mem) (hrec2 : ∀ (y3 : Int32) (μ : Mem) (H : Heap) (locs : List Loc) (ls : Array Slot), rec2 y3 μ = some u → Wo E μ H → va_S (AE E) s.heap H locs → lv_has ls 5 [(0, .ref (E.1 89)), (1, .ref (E.1 k1)), (2, .ref (E.1 k2)), (3, .int y3)] → W0 p l e rmX9_sorts s m args below meth c H locs (QcN E u) E (F0 m 2 ls [])) (y3 : Int32) (μ : Mem) (H : Heap) (locs : List Loc) (ls : Array Slot) (hf : fX9_sorts_2_b F k1 k2 rec2 y3 μ = some u) (hW : Wo E μ H) (hS : va_S (AE E) s.heap H locs) (hl : lv_has ls 5 [(0, .ref (E.1 89)), (1, .ref (E.1 k1)), (2, .ref (E.1 k2)), (3, .int y3)]) : W0 p l e rmX9_sorts s m args below meth c H locs (QcN E u) E (F0 m 2 ls []) := by
  unfold fX9_sorts_2_b at hf
  refine lv_iload_n X.1.1 X.1.2.1 dX9_sorts_2 rfl (lv_at hl 3 rfl) ?_
  refine lv_aload_n X.1.1 X.1.2.1 dX9_sorts_3 rfl (lv_at hl 0 rfl) ?_
  refine e_geti X hW (C := RX9) (T := TX9) (N := 35) (j := 21) rfl (by decide) inX9 (by decide) (by decide) rfl rfl mw_3_190 dX9_sorts_4 ?_
  refine lv_icmp_ge (tgt := 59) X.1.1 X.1.2.1 dX9_sorts_7 (by decide) (fun c7 => ?_) (fun c7 => ?_)
  · rw [if_pos c7] at hf
    exact e_vret X hW hS hf dX9_sorts_59
  · rw [if_neg c7] at hf
    refine lv_iload_n X.1.1 X.1.2.1 dX9_sorts_10 rfl (lv_at hl 3 rfl) ?_
    refine lv_istore (lv' := [(4, .int y3), (0, .ref (E.1 89)), (1, .ref (E.1 k1)), (2, .ref (E.1 k2)), (3, .int y3)]) X.1.1 X.1.2.1 dX9_sorts_11 hl (by decide) rfl (fun ls hl => ?_)
    exact wfX9_sorts_13 X h1 h2 rec2 hrec2 F y3 y3 μ H locs ls hf hW hS (lv_sub hl [1, 2, 3, 4, 0] rfl)
theorem wfX9_sorts_2 {p : Program} {l : Launch} {e : Env} {s : State} {m : MethodId} {args : Array Value} {below : List Frame} {meth : Method} {c : Code} {E : Gv} {F : Nat} {k1 : Nat} {k2 : Nat} {u : Mem} (X : Fx p m c cX9_sorts 5 s args (Cond.code yX9_sorts cX9_sorts 5 none) "OvenHouseModel" meth none E) (h1 : k1 < NC ∧ kd k1 = 10) (h2 : k2 < NC ∧ kd k2 = 10) (n : Nat) : ∀ (y3 : Int32) (μ : Mem) (H : Heap) (locs : List Loc) (ls : Array Slot) (_ : fX9_sorts_2 F k1 k2  n y3 μ = some u) (_ : Wo E μ H) (_ : va_S (AE E) s.heap H locs) (_ : lv_has ls 5 [(0, .ref (E.1 89)), (1, .ref (E.1 k1)), (2, .ref (E.1 k2)), (3, .int y3)]), W0 p l e rmX9_sorts s m args below meth c H locs (QcN E u) E (F0 m 2 ls []) := by
  induction n with
  | zero => intro y3 μ H locs ls hf hW hS hl; cases hf
  | succ n ih => intro y3 μ H locs ls hf hW hS hl; exact wfX9_sorts_2_b X h1 h2 _ ih y3 μ H locs ls hf hW hS hl
set_option maxRecDepth 100000 in
set_option maxHeartbeats 4000000 in
theorem ctfX9_sorts {l : Launch} {E : Gv} (hD : Do E) (F : Nat) (k1 : Nat) (k2 : Nat) (h1 : k1 < NC ∧ kd k1 = 10) (h2 : k2 < NC ∧ kd k2 = 10) (μ : Mem) : CtV l yX9_sorts ((Cond.code yX9_sorts cX9_sorts 5 none) :: GG) rmX9_sorts E [.ref (E.1 89), .ref (E.1 k1), .ref (E.1 k2)] μ (fX9_sorts F k1 k2 μ) := by
  intro u hf
  refine of_entry (cc := cX9_sorts) (maxL := 5) (ret := none) (by decide +kernel) rfl hD (Nat.le_of_ble_eq_true rfl) (fun p e s m args below meth c X H locs hW hS ls hl => ?_)
  have hl : lv_has ls 5 [(0, .ref (E.1 89)), (1, .ref (E.1 k1)), (2, .ref (E.1 k2))] := hl
  unfold fX9_sorts at hf
  refine lv_iconst (v := 0) X.1.1 X.1.2.1 dX9_sorts_0 (by decide) ?_
  refine lv_istore_n (lv' := [(3, .int 0), (0, .ref (E.1 89)), (1, .ref (E.1 k1)), (2, .ref (E.1 k2))]) X.1.1 X.1.2.1 dX9_sorts_1 rfl hl (by decide) rfl (fun ls hl => ?_)
  exact wfX9_sorts_2 X h1 h2 F 0 μ H locs ls hf hW hS (lv_sub hl [1, 2, 3, 0] rfl)
-- OvenHouseModel.between
def rmX9_between : Room := { frames := 0, cells := 0, slots := 0, locals := 0 }
set_option maxRecDepth 100000 in
set_option maxHeartbeats 4000000 in
theorem wfX9_between_56 {p : Program} {l : Launch} {e : Env} {s : State} {m : MethodId} {args : Array Value} {below : List Frame} {meth : Method} {c : Code} {E : Gv} {F : Nat}  {r : Int32} {u : Mem} (X : Fx p m c cX9_between 7 s args (Cond.code yX9_between cX9_between 7 (some .int)) "OvenHouseModel" meth (some .int) E)  (y1 : Int32) (y2 : Int32) (y3 : Int32) (y5 : Int32) (μ : Mem) (H : Heap) (locs : List Loc) (ls : Array Slot) (hf : fX9_between_56 F   y1 y2 y3 y5 μ = some (r, u)) (hW : Wo E μ H) (hS : va_S (AE E) s.heap H locs) (hl : lv_has ls 7 [(0, .ref (E.1 89)), (1, .int y1), (2, .int y2), (3, .int y3), (5, .int y5)]) : W0 p l e rmX9_between s m args below meth c H locs (QcI E r u) E (F0 m 56 ls []) := by
  unfold fX9_between_56 at hf
  refine lv_aload_n X.1.1 X.1.2.1 dX9_between_56 rfl (lv_at hl 0 rfl) ?_
  refine e_geti X hW (C := RX9) (T := TX9) (N := 35) (j := 22) rfl (by decide) inX9 (by decide) (by decide) rfl rfl mw_3_191 dX9_between_57 ?_
  refine lv_if_eq (tgt := 68) X.1.1 X.1.2.1 dX9_between_60 (by decide) (fun c60 => ?_) (fun c60 => ?_)
  · rw [if_pos c60] at hf
    refine lv_iload_n X.1.1 X.1.2.1 dX9_between_68 rfl (lv_at hl 2 rfl) ?_
    refine lv_iload_n X.1.1 X.1.2.1 dX9_between_69 rfl (lv_at hl 1 rfl) ?_
    refine lv_icmp_le (tgt := 81) X.1.1 X.1.2.1 dX9_between_70 (by decide) (fun c70 => ?_) (fun c70 => ?_)
    · rw [if_pos c70] at hf
      refine lv_iconst (v := 0) X.1.1 X.1.2.1 dX9_between_81 (by decide) ?_
      exact e_iret X hW hS hf dX9_between_82
    · rw [if_neg c70] at hf
      refine lv_iload_n X.1.1 X.1.2.1 dX9_between_73 rfl (lv_at hl 3 rfl) ?_
      refine lv_iload_n X.1.1 X.1.2.1 dX9_between_74 rfl (lv_at hl 2 rfl) ?_
      refine lv_iload_n X.1.1 X.1.2.1 dX9_between_75 rfl (lv_at hl 1 rfl) ?_
      refine lv_isub X.1.1 X.1.2.1 dX9_between_76 ?_
      refine lv_imul X.1.1 X.1.2.1 dX9_between_77 ?_
      refine lv_goto (tgt := 82) X.1.1 X.1.2.1 dX9_between_78 (by decide) ?_
      exact e_iret X hW hS hf dX9_between_82
  · rw [if_neg c60] at hf
    refine lv_iload X.1.1 X.1.2.1 dX9_between_63 (lv_at hl 4 rfl) ?_
    refine lv_goto (tgt := 82) X.1.1 X.1.2.1 dX9_between_65 (by decide) ?_
    exact e_iret X hW hS hf dX9_between_82
set_option maxRecDepth 100000 in
set_option maxHeartbeats 4000000 in
theorem wfX9_between_6_b {p : Program} {l : Launch} {e : Env} {s : State} {m : MethodId} {args : Array Value} {below : List Frame} {meth : Method} {c : Code} {E : Gv} {F : Nat}  {r : Int32} {u : Mem} (X : Fx p m c cX9_between 7 s args (Cond.code yX9_between cX9_between 7 (some .int)) "OvenHouseModel" meth (some .int) E)  (rec6 : Int32 → Int32 → Int32 → Int32 → Int32 → Int32 → Mem → Option (Int32 × Mem)) (hrec6 : ∀ (y1 : Int32) (y2 : Int32) (y3 : Int32) (y4 : Int32) (y5 : Int32) (y6 : Int32) (μ : Mem) (H : Heap) (locs : List Loc) (ls : Array Slot), rec6 y1 y2 y3 y4 y5 y6 μ = some (r, u) → Wo E μ H → va_S (AE E) s.heap H locs → lv_has ls 7 [(0, .ref (E.1 89)), (1, .int y1), (2, .int y2), (3, .int y3), (4, .int y4), (5, .int y5), (6, .int y6)] → W0 p l e rmX9_between s m args below meth c H locs (QcI E r u) E (F0 m 6 ls [])) (y1 : Int32) (y2 : Int32) (y3 : Int32) (y4 : Int32) (y5 : Int32) (y6 : Int32) (μ : Mem) (H : Heap) (locs : List Loc) (ls : Array Slot) (hf : fX9_between_6_b F  rec6 y1 y2 y3 y4 y5 y6 μ = some (r, u)) (hW : Wo E μ H) (hS : va_S (AE E) s.heap H locs) (hl : lv_has ls 7 [(0, .ref (E.1 89)), (1, .int y1), (2, .int y2), (3, .int y3), (4, .int y4), (5, .int y5), (6, .int y6)]) : W0 p l e rmX9_between s m args below meth c H locs (QcI E r u) E (F0 m 6 ls []) := by
  unfold fX9_between_6_b at hf
  refine lv_iload X.1.1 X.1.2.1 dX9_between_6 (lv_at hl 6 rfl) ?_
  refine lv_iload_n X.1.1 X.1.2.1 dX9_between_8 rfl (lv_at hl 2 rfl) ?_
  refine lv_icmp_ge (tgt := 56) X.1.1 X.1.2.1 dX9_between_9 (by decide) (fun c9 => ?_) (fun c9 => ?_)
  · rw [if_pos c9] at hf
    exact wfX9_between_56 X  y1 y2 y3 y5 μ H locs ls hf hW hS (lv_sub hl [0, 1, 2, 3, 5] rfl)
  · rw [if_neg c9] at hf
    refine lv_aload_n X.1.1 X.1.2.1 dX9_between_12 rfl (lv_at hl 0 rfl) ?_
    refine e_geti X hW (C := RX9) (T := TX9) (N := 35) (j := 22) rfl (by decide) inX9 (by decide) (by decide) rfl rfl mw_3_191 dX9_between_13 ?_
    refine lv_if_eq (tgt := 56) X.1.1 X.1.2.1 dX9_between_16 (by decide) (fun c16 => ?_) (fun c16 => ?_)
    · rw [if_pos c16] at hf
      exact wfX9_between_56 X  y1 y2 y3 y5 μ H locs ls hf hW hS (lv_sub hl [0, 1, 2, 3, 5] rfl)
    · rw [if_neg c16] at hf
      refine lv_iload X.1.1 X.1.2.1 dX9_between_19 (lv_at hl 5 rfl) ?_
      refine lv_iload_n X.1.1 X.1.2.1 dX9_between_21 rfl (lv_at hl 3 rfl) ?_
      refine lv_aload_n X.1.1 X.1.2.1 dX9_between_22 rfl (lv_at hl 0 rfl) ?_
      refine e_getr X hW (C := RX9) (T := TX9) (N := 35) (j := 16) rfl (by decide) inX9 (by decide) (by decide) rfl (t := 101) rfl rfl mw_3_185 dX9_between_23 ?_
      refine lv_iload X.1.1 X.1.2.1 dX9_between_26 (lv_at hl 6 rfl) ?_
      refine lv_bipush (v := 50) X.1.1 X.1.2.1 dX9_between_28 (by decide) ?_
      refine lv_idiv X.1.1 X.1.2.1 dX9_between_30 (by decide) ?_
      refine e_ild X hW (by decide) rfl dX9_between_31 hf (fun v1 hf => ?_)
      refine lv_imul X.1.1 X.1.2.1 dX9_between_32 ?_
      refine lv_iload X.1.1 X.1.2.1 dX9_between_33 (lv_at hl 4 rfl) ?_
      refine lv_aload_n X.1.1 X.1.2.1 dX9_between_35 rfl (lv_at hl 0 rfl) ?_
      refine e_getr X hW (C := RX9) (T := TX9) (N := 35) (j := 17) rfl (by decide) inX9 (by decide) (by decide) rfl (t := 102) rfl rfl mw_3_186 dX9_between_36 ?_
      refine lv_iload X.1.1 X.1.2.1 dX9_between_39 (lv_at hl 6 rfl) ?_
      refine lv_bipush (v := 50) X.1.1 X.1.2.1 dX9_between_41 (by decide) ?_
      refine lv_idiv X.1.1 X.1.2.1 dX9_between_43 (by decide) ?_
      refine e_ild X hW (by decide) rfl dX9_between_44 hf (fun v2 hf => ?_)
      refine lv_imul X.1.1 X.1.2.1 dX9_between_45 ?_
      refine lv_iadd X.1.1 X.1.2.1 dX9_between_46 ?_
      refine lv_iadd X.1.1 X.1.2.1 dX9_between_47 ?_
      refine lv_istore (lv' := [(5, .int (y5 + ((y3 * v1) + (y4 * v2)))), (0, .ref (E.1 89)), (1, .int y1), (2, .int y2), (3, .int y3), (4, .int y4), (6, .int y6)]) X.1.1 X.1.2.1 dX9_between_48 hl (by decide) rfl (fun ls hl => ?_)
      refine lv_iinc (v := (y6 + 1)) (lv' := [(6, .int (y6 + 1)), (5, .int (y5 + ((y3 * v1) + (y4 * v2)))), (0, .ref (E.1 89)), (1, .int y1), (2, .int y2), (3, .int y3), (4, .int y4)]) X.1.1 X.1.2.1 dX9_between_50 hl (k := 6) rfl rfl (by decide) rfl (fun ls hl => ?_)
      refine lv_goto (tgt := 6) X.1.1 X.1.2.1 dX9_between_53 (by decide) ?_
      exact hrec6 y1 y2 y3 y4 (y5 + ((y3 * v1) + (y4 * v2))) (y6 + 1) μ H locs ls hf hW hS (lv_sub hl [2, 3, 4, 5, 6, 1, 0] rfl)
theorem wfX9_between_6 {p : Program} {l : Launch} {e : Env} {s : State} {m : MethodId} {args : Array Value} {below : List Frame} {meth : Method} {c : Code} {E : Gv} {F : Nat}  {r : Int32} {u : Mem} (X : Fx p m c cX9_between 7 s args (Cond.code yX9_between cX9_between 7 (some .int)) "OvenHouseModel" meth (some .int) E)  (n : Nat) : ∀ (y1 : Int32) (y2 : Int32) (y3 : Int32) (y4 : Int32) (y5 : Int32) (y6 : Int32) (μ : Mem) (H : Heap) (locs : List Loc) (ls : Array Slot) (_ : fX9_between_6 F   n y1 y2 y3 y4 y5 y6 μ = some (r, u)) (_ : Wo E μ H) (_ : va_S (AE E) s.heap H locs) (_ : lv_has ls 7 [(0, .ref (E.1 89)), (1, .int y1), (2, .int y2), (3, .int y3), (4, .int y4), (5, .int y5), (6, .int y6)]), W0 p l e rmX9_between s m args below meth c H locs (QcI E r u) E (F0 m 6 ls []) := by
  induction n with
  | zero => intro y1 y2 y3 y4 y5 y6 μ H locs ls hf hW hS hl; cases hf
  | succ n ih => intro y1 y2 y3 y4 y5 y6 μ H locs ls hf hW hS hl; exact wfX9_between_6_b X  _ ih y1 y2 y3 y4 y5 y6 μ H locs ls hf hW hS hl
set_option maxRecDepth 100000 in
set_option maxHeartbeats 4000000 in
theorem ctfX9_between {l : Launch} {E : Gv} (hD : Do E) (F : Nat) (x1 : Int32) (x2 : Int32) (x3 : Int32) (x4 : Int32)  (μ : Mem) : CtI l yX9_between ((Cond.code yX9_between cX9_between 7 (some .int)) :: GG) rmX9_between E [.ref (E.1 89), .int x1, .int x2, .int x3, .int x4] μ (fX9_between F x1 x2 x3 x4 μ) := by
  intro r u hf
  refine of_entry (cc := cX9_between) (maxL := 7) (ret := (some .int)) (by decide +kernel) rfl hD (Nat.le_of_ble_eq_true rfl) (fun p e s m args below meth c X H locs hW hS ls hl => ?_)
  have hl : lv_has ls 7 [(0, .ref (E.1 89)), (1, .int x1), (2, .int x2), (3, .int x3), (4, .int x4)] := hl
  unfold fX9_between at hf
  refine lv_iconst (v := 0) X.1.1 X.1.2.1 dX9_between_0 (by decide) ?_
  refine lv_istore (lv' := [(5, .int 0), (0, .ref (E.1 89)), (1, .int x1), (2, .int x2), (3, .int x3), (4, .int x4)]) X.1.1 X.1.2.1 dX9_between_1 hl (by decide) rfl (fun ls hl => ?_)
  refine lv_iload_n X.1.1 X.1.2.1 dX9_between_3 rfl (lv_at hl 2 rfl) ?_
  refine lv_istore (lv' := [(6, .int x1), (5, .int 0), (0, .ref (E.1 89)), (1, .int x1), (2, .int x2), (3, .int x3), (4, .int x4)]) X.1.1 X.1.2.1 dX9_between_4 hl (by decide) rfl (fun ls hl => ?_)
  exact wfX9_between_6 X  F x1 x2 x3 x4 0 x1 μ H locs ls hf hW hS (lv_sub hl [2, 3, 4, 5, 6, 1, 0] rfl)
-- OvenHouseModel.costOf
def rmX9_costOf : Room := { frames := 1, cells := 0, slots := 0, locals := 26 }
set_option maxRecDepth 100000 in
set_option maxHeartbeats 4000000 in
theorem ctfX9_costOf {l : Launch} {E : Gv} (hD : Do E) (F : Nat) (x1 : Int32) (x2 : Int32)  (μ : Mem) : CtI l yX9_costOf ((Cond.code yX9_costOf cX9_costOf 3 (some .int)) :: GG) rmX9_costOf E [.ref (E.1 89), .int x1, .int x2] μ (fX9_costOf F x1 x2 μ) := by
  intro r u hf
  refine of_entry (cc := cX9_costOf) (maxL := 3) (ret := (some .int)) (by decide +kernel) rfl hD (Nat.le_of_ble_eq_true rfl) (fun p e s m args below meth c X H locs hW hS ls hl => ?_)
  have hl : lv_has ls 3 [(0, .ref (E.1 89)), (1, .int x1), (2, .int x2)] := hl
  unfold fX9_costOf at hf
  refine lv_iload_n X.1.1 X.1.2.1 dX9_costOf_0 rfl (lv_at hl 1 rfl) ?_
  refine lv_iload_n X.1.1 X.1.2.1 dX9_costOf_1 rfl (lv_at hl 2 rfl) ?_
  refine lv_icmp_ge (tgt := 16) X.1.1 X.1.2.1 dX9_costOf_2 (by decide) (fun c2 => ?_) (fun c2 => ?_)
  · rw [if_pos c2] at hf
    refine lv_aload_n X.1.1 X.1.2.1 dX9_costOf_16 rfl (lv_at hl 0 rfl) ?_
    refine lv_iload_n X.1.1 X.1.2.1 dX9_costOf_17 rfl (lv_at hl 2 rfl) ?_
    refine lv_iload_n X.1.1 X.1.2.1 dX9_costOf_18 rfl (lv_at hl 1 rfl) ?_
    refine lv_iconst (v := 0) X.1.1 X.1.2.1 dX9_costOf_19 (by decide) ?_
    refine lv_iconst (v := 1) X.1.1 X.1.2.1 dX9_costOf_20 (by decide) ?_
    refine e_vi (rest := []) (As := [.int x2, .int x1, .int 0, .int 1]) X hl.1 hW hS (C := RX9) (T := TX9) (N := 35) rfl (by decide) (ctfX9_between X.2.2.2.2 F x2 x1 0 1 μ) (cwV (rm := rmX9_between) 4 X.1.2.2.2.2 (gd_V mw_4_210 mw_4_212 mw_0_33 mw_1_11 mw_4_213) rfl rfl rfl (by decide +kernel) ⟨Nat.le_of_ble_eq_true rfl, Nat.le_of_ble_eq_true rfl⟩) rfl rfl (Nat.le_of_ble_eq_true rfl) dX9_costOf_21 ⟨Nat.zero_le _, Nat.zero_le _⟩ hf (fun r2 m1 H locs hf hW hS => ?_)
    exact e_iret X hW hS hf dX9_costOf_24
  · rw [if_neg c2] at hf
    refine lv_aload_n X.1.1 X.1.2.1 dX9_costOf_5 rfl (lv_at hl 0 rfl) ?_
    refine lv_iload_n X.1.1 X.1.2.1 dX9_costOf_6 rfl (lv_at hl 1 rfl) ?_
    refine lv_iload_n X.1.1 X.1.2.1 dX9_costOf_7 rfl (lv_at hl 2 rfl) ?_
    refine lv_iconst (v := 1) X.1.1 X.1.2.1 dX9_costOf_8 (by decide) ?_
    refine lv_iconst (v := 0) X.1.1 X.1.2.1 dX9_costOf_9 (by decide) ?_
    refine e_vi (rest := []) (As := [.int x1, .int x2, .int 1, .int 0]) X hl.1 hW hS (C := RX9) (T := TX9) (N := 35) rfl (by decide) (ctfX9_between X.2.2.2.2 F x1 x2 1 0 μ) (cwV (rm := rmX9_between) 4 X.1.2.2.2.2 (gd_V mw_4_210 mw_4_212 mw_0_33 mw_1_11 mw_4_213) rfl rfl rfl (by decide +kernel) ⟨Nat.le_of_ble_eq_true rfl, Nat.le_of_ble_eq_true rfl⟩) rfl rfl (Nat.le_of_ble_eq_true rfl) dX9_costOf_10 ⟨Nat.zero_le _, Nat.zero_le _⟩ hf (fun r4 m3 H locs hf hW hS => ?_)
    refine lv_goto (tgt := 24) X.1.1 X.1.2.1 dX9_costOf_13 (by decide) ?_
    exact e_iret X hW hS hf dX9_costOf_24
-- OvenHouseModel.ringCost
def rmX9_ringCost : Room := { frames := 2, cells := 0, slots := 0, locals := 48 }
set_option maxRecDepth 100000 in
set_option maxHeartbeats 4000000 in
theorem wfX9_ringCost_4_b {p : Program} {l : Launch} {e : Env} {s : State} {m : MethodId} {args : Array Value} {below : List Frame} {meth : Method} {c : Code} {E : Gv} {F : Nat}  {r : Int32} {u : Mem} (X : Fx p m c cX9_ringCost 3 s args (Cond.code yX9_ringCost cX9_ringCost 3 (some .int)) "OvenHouseModel" meth (some .int) E)  (rec4 : Int32 → Int32 → Mem → Option (Int32 × Mem)) (hrec4 : ∀ (y1 : Int32) (y2 : Int32) (μ : Mem) (H : Heap) (locs : List Loc) (ls : Array Slot), rec4 y1 y2 μ = some (r, u) → Wo E μ H → va_S (AE E) s.heap H locs → lv_has ls 3 [(0, .ref (E.1 89)), (1, .int y1), (2, .int y2)] → W0 p l e rmX9_ringCost s m args below meth c H locs (QcI E r u) E (F0 m 4 ls [])) (y1 : Int32) (y2 : Int32) (μ : Mem) (H : Heap) (locs : List Loc) (ls : Array Slot) (hf : fX9_ringCost_4_b F  rec4 y1 y2 μ = some (r, u)) (hW : Wo E μ H) (hS : va_S (AE E) s.heap H locs) (hl : lv_has ls 3 [(0, .ref (E.1 89)), (1, .int y1), (2, .int y2)]) : W0 p l e rmX9_ringCost s m args below meth c H locs (QcI E r u) E (F0 m 4 ls []) := by
  unfold fX9_ringCost_4_b at hf
  refine lv_iload_n X.1.1 X.1.2.1 dX9_ringCost_4 rfl (lv_at hl 2 rfl) ?_
  refine lv_aload_n X.1.1 X.1.2.1 dX9_ringCost_5 rfl (lv_at hl 0 rfl) ?_
  refine e_geti X hW (C := RX9) (T := TX9) (N := 35) (j := 21) rfl (by decide) inX9 (by decide) (by decide) rfl rfl mw_3_190 dX9_ringCost_6 ?_
  refine lv_icmp_ge (tgt := 42) X.1.1 X.1.2.1 dX9_ringCost_9 (by decide) (fun c9 => ?_) (fun c9 => ?_)
  · rw [if_pos c9] at hf
    refine lv_iload_n X.1.1 X.1.2.1 dX9_ringCost_42 rfl (lv_at hl 1 rfl) ?_
    exact e_iret X hW hS hf dX9_ringCost_43
  · rw [if_neg c9] at hf
    refine lv_iload_n X.1.1 X.1.2.1 dX9_ringCost_12 rfl (lv_at hl 1 rfl) ?_
    refine lv_aload_n X.1.1 X.1.2.1 dX9_ringCost_13 rfl (lv_at hl 0 rfl) ?_
    refine lv_aload_n X.1.1 X.1.2.1 dX9_ringCost_14 rfl (lv_at hl 0 rfl) ?_
    refine e_getr X hW (C := RX9) (T := TX9) (N := 35) (j := 24) rfl (by decide) inX9 (by decide) (by decide) rfl (t := 107) rfl rfl mw_3_193 dX9_ringCost_15 ?_
    refine lv_iload_n X.1.1 X.1.2.1 dX9_ringCost_18 rfl (lv_at hl 2 rfl) ?_
    refine e_ild X hW (by decide) rfl dX9_ringCost_19 hf (fun v1 hf => ?_)
    refine lv_aload_n X.1.1 X.1.2.1 dX9_ringCost_20 rfl (lv_at hl 0 rfl) ?_
    refine e_getr X hW (C := RX9) (T := TX9) (N := 35) (j := 23) rfl (by decide) inX9 (by decide) (by decide) rfl (t := 106) rfl rfl mw_3_192 dX9_ringCost_21 ?_
    refine lv_aload_n X.1.1 X.1.2.1 dX9_ringCost_24 rfl (lv_at hl 0 rfl) ?_
    refine e_getr X hW (C := RX9) (T := TX9) (N := 35) (j := 27) rfl (by decide) inX9 (by decide) (by decide) rfl (t := 110) rfl rfl mw_3_196 dX9_ringCost_25 ?_
    refine lv_iload_n X.1.1 X.1.2.1 dX9_ringCost_28 rfl (lv_at hl 2 rfl) ?_
    refine e_ild X hW (by decide) rfl dX9_ringCost_29 hf (fun v2 hf => ?_)
    refine e_ild X hW (by decide) rfl dX9_ringCost_30 hf (fun v3 hf => ?_)
    refine e_vi (rest := [.int y1]) (As := [.int v1, .int v3]) X hl.1 hW hS (C := RX9) (T := TX9) (N := 35) rfl (by decide) (ctfX9_costOf X.2.2.2.2 F v1 v3 μ) (cwV (rm := rmX9_costOf) 2 X.1.2.2.2.2 (gd_V mw_4_206 mw_4_208 mw_0_32 mw_1_11 mw_4_209) rfl rfl rfl (by decide +kernel) ⟨Nat.le_of_ble_eq_true rfl, Nat.le_of_ble_eq_true rfl⟩) rfl rfl (Nat.le_of_ble_eq_true rfl) dX9_ringCost_31 ⟨Nat.zero_le _, Nat.zero_le _⟩ hf (fun r5 m4 H locs hf hW hS => ?_)
    refine lv_iadd X.1.1 X.1.2.1 dX9_ringCost_34 ?_
    refine lv_istore_n (lv' := [(1, .int (y1 + r5)), (0, .ref (E.1 89)), (2, .int y2)]) X.1.1 X.1.2.1 dX9_ringCost_35 rfl hl (by decide) rfl (fun ls hl => ?_)
    refine lv_iinc (v := (y2 + 1)) (lv' := [(2, .int (y2 + 1)), (1, .int (y1 + r5)), (0, .ref (E.1 89))]) X.1.1 X.1.2.1 dX9_ringCost_36 hl (k := 2) rfl rfl (by decide) rfl (fun ls hl => ?_)
    refine lv_goto (tgt := 4) X.1.1 X.1.2.1 dX9_ringCost_39 (by decide) ?_
    exact hrec4 (y1 + r5) (y2 + 1) m4 H locs ls hf hW hS (lv_sub hl [2, 1, 0] rfl)
theorem wfX9_ringCost_4 {p : Program} {l : Launch} {e : Env} {s : State} {m : MethodId} {args : Array Value} {below : List Frame} {meth : Method} {c : Code} {E : Gv} {F : Nat}  {r : Int32} {u : Mem} (X : Fx p m c cX9_ringCost 3 s args (Cond.code yX9_ringCost cX9_ringCost 3 (some .int)) "OvenHouseModel" meth (some .int) E)  (n : Nat) : ∀ (y1 : Int32) (y2 : Int32) (μ : Mem) (H : Heap) (locs : List Loc) (ls : Array Slot) (_ : fX9_ringCost_4 F   n y1 y2 μ = some (r, u)) (_ : Wo E μ H) (_ : va_S (AE E) s.heap H locs) (_ : lv_has ls 3 [(0, .ref (E.1 89)), (1, .int y1), (2, .int y2)]), W0 p l e rmX9_ringCost s m args below meth c H locs (QcI E r u) E (F0 m 4 ls []) := by
  induction n with
  | zero => intro y1 y2 μ H locs ls hf hW hS hl; cases hf
  | succ n ih => intro y1 y2 μ H locs ls hf hW hS hl; exact wfX9_ringCost_4_b X  _ ih y1 y2 μ H locs ls hf hW hS hl
set_option maxRecDepth 100000 in
set_option maxHeartbeats 4000000 in
theorem ctfX9_ringCost {l : Launch} {E : Gv} (hD : Do E) (F : Nat)  (μ : Mem) : CtI l yX9_ringCost ((Cond.code yX9_ringCost cX9_ringCost 3 (some .int)) :: GG) rmX9_ringCost E [.ref (E.1 89)] μ (fX9_ringCost F μ) := by
  intro r u hf
  refine of_entry (cc := cX9_ringCost) (maxL := 3) (ret := (some .int)) (by decide +kernel) rfl hD (Nat.le_of_ble_eq_true rfl) (fun p e s m args below meth c X H locs hW hS ls hl => ?_)
  have hl : lv_has ls 3 [(0, .ref (E.1 89))] := hl
  unfold fX9_ringCost at hf
  refine lv_iconst (v := 0) X.1.1 X.1.2.1 dX9_ringCost_0 (by decide) ?_
  refine lv_istore_n (lv' := [(1, .int 0), (0, .ref (E.1 89))]) X.1.1 X.1.2.1 dX9_ringCost_1 rfl hl (by decide) rfl (fun ls hl => ?_)
  refine lv_iconst (v := 0) X.1.1 X.1.2.1 dX9_ringCost_2 (by decide) ?_
  refine lv_istore_n (lv' := [(2, .int 0), (1, .int 0), (0, .ref (E.1 89))]) X.1.1 X.1.2.1 dX9_ringCost_3 rfl hl (by decide) rfl (fun ls hl => ?_)
  exact wfX9_ringCost_4 X  F 0 0 μ H locs ls hf hW hS (lv_sub hl [2, 1, 0] rfl)
-- OvenHouseModel.higher
def rmX9_higher : Room := { frames := 0, cells := 0, slots := 0, locals := 0 }
set_option maxRecDepth 100000 in
set_option maxHeartbeats 4000000 in
theorem ctfX9_higher {l : Launch} {E : Gv} (hD : Do E) (F : Nat) (x1 : Int32)  (μ : Mem) : CtI l yX9_higher ((Cond.code yX9_higher cX9_higher 2 (some .int)) :: GG) rmX9_higher E [.ref (E.1 89), .int x1] μ (fX9_higher F x1 μ) := by
  intro r u hf
  refine of_entry (cc := cX9_higher) (maxL := 2) (ret := (some .int)) (by decide +kernel) rfl hD (Nat.le_of_ble_eq_true rfl) (fun p e s m args below meth c X H locs hW hS ls hl => ?_)
  have hl : lv_has ls 2 [(0, .ref (E.1 89)), (1, .int x1)] := hl
  unfold fX9_higher at hf
  refine lv_aload_n X.1.1 X.1.2.1 dX9_higher_0 rfl (lv_at hl 0 rfl) ?_
  refine e_getr X hW (C := RX9) (T := TX9) (N := 35) (j := 24) rfl (by decide) inX9 (by decide) (by decide) rfl (t := 107) rfl rfl mw_3_193 dX9_higher_1 ?_
  refine lv_aload_n X.1.1 X.1.2.1 dX9_higher_4 rfl (lv_at hl 0 rfl) ?_
  refine e_getr X hW (C := RX9) (T := TX9) (N := 35) (j := 25) rfl (by decide) inX9 (by decide) (by decide) rfl (t := 108) rfl rfl mw_3_194 dX9_higher_5 ?_
  refine lv_iload_n X.1.1 X.1.2.1 dX9_higher_8 rfl (lv_at hl 1 rfl) ?_
  refine e_ild X hW (by decide) rfl dX9_higher_9 hf (fun v1 hf => ?_)
  refine e_ild X hW (by decide) rfl dX9_higher_10 hf (fun v2 hf => ?_)
  refine lv_aload_n X.1.1 X.1.2.1 dX9_higher_11 rfl (lv_at hl 0 rfl) ?_
  refine e_getr X hW (C := RX9) (T := TX9) (N := 35) (j := 23) rfl (by decide) inX9 (by decide) (by decide) rfl (t := 106) rfl rfl mw_3_192 dX9_higher_12 ?_
  refine lv_aload_n X.1.1 X.1.2.1 dX9_higher_15 rfl (lv_at hl 0 rfl) ?_
  refine e_getr X hW (C := RX9) (T := TX9) (N := 35) (j := 26) rfl (by decide) inX9 (by decide) (by decide) rfl (t := 109) rfl rfl mw_3_195 dX9_higher_16 ?_
  refine lv_iload_n X.1.1 X.1.2.1 dX9_higher_19 rfl (lv_at hl 1 rfl) ?_
  refine e_ild X hW (by decide) rfl dX9_higher_20 hf (fun v3 hf => ?_)
  refine e_ild X hW (by decide) rfl dX9_higher_21 hf (fun v4 hf => ?_)
  refine lv_icmp_le (tgt := 39) X.1.1 X.1.2.1 dX9_higher_22 (by decide) (fun c22 => ?_) (fun c22 => ?_)
  · rw [if_pos c22] at hf
    refine lv_aload_n X.1.1 X.1.2.1 dX9_higher_39 rfl (lv_at hl 0 rfl) ?_
    refine e_getr X hW (C := RX9) (T := TX9) (N := 35) (j := 23) rfl (by decide) inX9 (by decide) (by decide) rfl (t := 106) rfl rfl mw_3_192 dX9_higher_40 ?_
    refine lv_aload_n X.1.1 X.1.2.1 dX9_higher_43 rfl (lv_at hl 0 rfl) ?_
    refine e_getr X hW (C := RX9) (T := TX9) (N := 35) (j := 26) rfl (by decide) inX9 (by decide) (by decide) rfl (t := 109) rfl rfl mw_3_195 dX9_higher_44 ?_
    refine lv_iload_n X.1.1 X.1.2.1 dX9_higher_47 rfl (lv_at hl 1 rfl) ?_
    refine e_ild X hW (by decide) rfl dX9_higher_48 hf (fun v5 hf => ?_)
    refine e_ild X hW (by decide) rfl dX9_higher_49 hf (fun v6 hf => ?_)
    exact e_iret X hW hS hf dX9_higher_50
  · rw [if_neg c22] at hf
    refine lv_aload_n X.1.1 X.1.2.1 dX9_higher_25 rfl (lv_at hl 0 rfl) ?_
    refine e_getr X hW (C := RX9) (T := TX9) (N := 35) (j := 24) rfl (by decide) inX9 (by decide) (by decide) rfl (t := 107) rfl rfl mw_3_193 dX9_higher_26 ?_
    refine lv_aload_n X.1.1 X.1.2.1 dX9_higher_29 rfl (lv_at hl 0 rfl) ?_
    refine e_getr X hW (C := RX9) (T := TX9) (N := 35) (j := 25) rfl (by decide) inX9 (by decide) (by decide) rfl (t := 108) rfl rfl mw_3_194 dX9_higher_30 ?_
    refine lv_iload_n X.1.1 X.1.2.1 dX9_higher_33 rfl (lv_at hl 1 rfl) ?_
    refine e_ild X hW (by decide) rfl dX9_higher_34 hf (fun v7 hf => ?_)
    refine e_ild X hW (by decide) rfl dX9_higher_35 hf (fun v8 hf => ?_)
    refine lv_goto (tgt := 50) X.1.1 X.1.2.1 dX9_higher_36 (by decide) ?_
    exact e_iret X hW hS hf dX9_higher_50
-- OvenHouseModel.lower
def rmX9_lower : Room := { frames := 0, cells := 0, slots := 0, locals := 0 }
set_option maxRecDepth 100000 in
set_option maxHeartbeats 4000000 in
theorem ctfX9_lower {l : Launch} {E : Gv} (hD : Do E) (F : Nat) (x1 : Int32)  (μ : Mem) : CtI l yX9_lower ((Cond.code yX9_lower cX9_lower 2 (some .int)) :: GG) rmX9_lower E [.ref (E.1 89), .int x1] μ (fX9_lower F x1 μ) := by
  intro r u hf
  refine of_entry (cc := cX9_lower) (maxL := 2) (ret := (some .int)) (by decide +kernel) rfl hD (Nat.le_of_ble_eq_true rfl) (fun p e s m args below meth c X H locs hW hS ls hl => ?_)
  have hl : lv_has ls 2 [(0, .ref (E.1 89)), (1, .int x1)] := hl
  unfold fX9_lower at hf
  refine lv_aload_n X.1.1 X.1.2.1 dX9_lower_0 rfl (lv_at hl 0 rfl) ?_
  refine e_getr X hW (C := RX9) (T := TX9) (N := 35) (j := 24) rfl (by decide) inX9 (by decide) (by decide) rfl (t := 107) rfl rfl mw_3_193 dX9_lower_1 ?_
  refine lv_aload_n X.1.1 X.1.2.1 dX9_lower_4 rfl (lv_at hl 0 rfl) ?_
  refine e_getr X hW (C := RX9) (T := TX9) (N := 35) (j := 25) rfl (by decide) inX9 (by decide) (by decide) rfl (t := 108) rfl rfl mw_3_194 dX9_lower_5 ?_
  refine lv_iload_n X.1.1 X.1.2.1 dX9_lower_8 rfl (lv_at hl 1 rfl) ?_
  refine e_ild X hW (by decide) rfl dX9_lower_9 hf (fun v1 hf => ?_)
  refine e_ild X hW (by decide) rfl dX9_lower_10 hf (fun v2 hf => ?_)
  refine lv_aload_n X.1.1 X.1.2.1 dX9_lower_11 rfl (lv_at hl 0 rfl) ?_
  refine e_getr X hW (C := RX9) (T := TX9) (N := 35) (j := 23) rfl (by decide) inX9 (by decide) (by decide) rfl (t := 106) rfl rfl mw_3_192 dX9_lower_12 ?_
  refine lv_aload_n X.1.1 X.1.2.1 dX9_lower_15 rfl (lv_at hl 0 rfl) ?_
  refine e_getr X hW (C := RX9) (T := TX9) (N := 35) (j := 26) rfl (by decide) inX9 (by decide) (by decide) rfl (t := 109) rfl rfl mw_3_195 dX9_lower_16 ?_
  refine lv_iload_n X.1.1 X.1.2.1 dX9_lower_19 rfl (lv_at hl 1 rfl) ?_
  refine e_ild X hW (by decide) rfl dX9_lower_20 hf (fun v3 hf => ?_)
  refine e_ild X hW (by decide) rfl dX9_lower_21 hf (fun v4 hf => ?_)
  refine lv_icmp_ge (tgt := 39) X.1.1 X.1.2.1 dX9_lower_22 (by decide) (fun c22 => ?_) (fun c22 => ?_)
  · rw [if_pos c22] at hf
    refine lv_aload_n X.1.1 X.1.2.1 dX9_lower_39 rfl (lv_at hl 0 rfl) ?_
    refine e_getr X hW (C := RX9) (T := TX9) (N := 35) (j := 23) rfl (by decide) inX9 (by decide) (by decide) rfl (t := 106) rfl rfl mw_3_192 dX9_lower_40 ?_
    refine lv_aload_n X.1.1 X.1.2.1 dX9_lower_43 rfl (lv_at hl 0 rfl) ?_
    refine e_getr X hW (C := RX9) (T := TX9) (N := 35) (j := 26) rfl (by decide) inX9 (by decide) (by decide) rfl (t := 109) rfl rfl mw_3_195 dX9_lower_44 ?_
    refine lv_iload_n X.1.1 X.1.2.1 dX9_lower_47 rfl (lv_at hl 1 rfl) ?_
    refine e_ild X hW (by decide) rfl dX9_lower_48 hf (fun v5 hf => ?_)
    refine e_ild X hW (by decide) rfl dX9_lower_49 hf (fun v6 hf => ?_)
    exact e_iret X hW hS hf dX9_lower_50
  · rw [if_neg c22] at hf
    refine lv_aload_n X.1.1 X.1.2.1 dX9_lower_25 rfl (lv_at hl 0 rfl) ?_
    refine e_getr X hW (C := RX9) (T := TX9) (N := 35) (j := 24) rfl (by decide) inX9 (by decide) (by decide) rfl (t := 107) rfl rfl mw_3_193 dX9_lower_26 ?_
    refine lv_aload_n X.1.1 X.1.2.1 dX9_lower_29 rfl (lv_at hl 0 rfl) ?_
    refine e_getr X hW (C := RX9) (T := TX9) (N := 35) (j := 25) rfl (by decide) inX9 (by decide) (by decide) rfl (t := 108) rfl rfl mw_3_194 dX9_lower_30 ?_
    refine lv_iload_n X.1.1 X.1.2.1 dX9_lower_33 rfl (lv_at hl 1 rfl) ?_
    refine e_ild X hW (by decide) rfl dX9_lower_34 hf (fun v7 hf => ?_)
    refine e_ild X hW (by decide) rfl dX9_lower_35 hf (fun v8 hf => ?_)
    refine lv_goto (tgt := 50) X.1.1 X.1.2.1 dX9_lower_36 (by decide) ?_
    exact e_iret X hW hS hf dX9_lower_50
-- OvenHouseModel.exchange
def rmX9_exchange : Room := { frames := 0, cells := 0, slots := 0, locals := 0 }
set_option maxRecDepth 100000 in
set_option maxHeartbeats 4000000 in
theorem ctfX9_exchange {l : Launch} {E : Gv} (hD : Do E) (F : Nat) (x1 : Int32)  (μ : Mem) : CtV l yX9_exchange ((Cond.code yX9_exchange cX9_exchange 3 none) :: GG) rmX9_exchange E [.ref (E.1 89), .int x1] μ (fX9_exchange F x1 μ) := by
  intro u hf
  refine of_entry (cc := cX9_exchange) (maxL := 3) (ret := none) (by decide +kernel) rfl hD (Nat.le_of_ble_eq_true rfl) (fun p e s m args below meth c X H locs hW hS ls hl => ?_)
  have hl : lv_has ls 3 [(0, .ref (E.1 89)), (1, .int x1)] := hl
  unfold fX9_exchange at hf
  refine lv_aload_n X.1.1 X.1.2.1 dX9_exchange_0 rfl (lv_at hl 0 rfl) ?_
  refine e_getr X hW (C := RX9) (T := TX9) (N := 35) (j := 27) rfl (by decide) inX9 (by decide) (by decide) rfl (t := 110) rfl rfl mw_3_196 dX9_exchange_1 ?_
  refine lv_aload_n X.1.1 X.1.2.1 dX9_exchange_4 rfl (lv_at hl 0 rfl) ?_
  refine e_getr X hW (C := RX9) (T := TX9) (N := 35) (j := 25) rfl (by decide) inX9 (by decide) (by decide) rfl (t := 108) rfl rfl mw_3_194 dX9_exchange_5 ?_
  refine lv_iload_n X.1.1 X.1.2.1 dX9_exchange_8 rfl (lv_at hl 1 rfl) ?_
  refine e_ild X hW (by decide) rfl dX9_exchange_9 hf (fun v1 hf => ?_)
  refine e_ild X hW (by decide) rfl dX9_exchange_10 hf (fun v2 hf => ?_)
  refine lv_istore_n (lv' := [(2, .int v2), (0, .ref (E.1 89)), (1, .int x1)]) X.1.1 X.1.2.1 dX9_exchange_11 rfl hl (by decide) rfl (fun ls hl => ?_)
  refine lv_aload_n X.1.1 X.1.2.1 dX9_exchange_12 rfl (lv_at hl 1 rfl) ?_
  refine e_getr X hW (C := RX9) (T := TX9) (N := 35) (j := 27) rfl (by decide) inX9 (by decide) (by decide) rfl (t := 110) rfl rfl mw_3_196 dX9_exchange_13 ?_
  refine lv_aload_n X.1.1 X.1.2.1 dX9_exchange_16 rfl (lv_at hl 1 rfl) ?_
  refine e_getr X hW (C := RX9) (T := TX9) (N := 35) (j := 25) rfl (by decide) inX9 (by decide) (by decide) rfl (t := 108) rfl rfl mw_3_194 dX9_exchange_17 ?_
  refine lv_iload_n X.1.1 X.1.2.1 dX9_exchange_20 rfl (lv_at hl 2 rfl) ?_
  refine e_ild X hW (by decide) rfl dX9_exchange_21 hf (fun v3 hf => ?_)
  refine lv_aload_n X.1.1 X.1.2.1 dX9_exchange_22 rfl (lv_at hl 1 rfl) ?_
  refine e_getr X hW (C := RX9) (T := TX9) (N := 35) (j := 27) rfl (by decide) inX9 (by decide) (by decide) rfl (t := 110) rfl rfl mw_3_196 dX9_exchange_23 ?_
  refine lv_aload_n X.1.1 X.1.2.1 dX9_exchange_26 rfl (lv_at hl 1 rfl) ?_
  refine e_getr X hW (C := RX9) (T := TX9) (N := 35) (j := 25) rfl (by decide) inX9 (by decide) (by decide) rfl (t := 108) rfl rfl mw_3_194 dX9_exchange_27 ?_
  refine lv_iload_n X.1.1 X.1.2.1 dX9_exchange_30 rfl (lv_at hl 2 rfl) ?_
  refine lv_iconst (v := 1) X.1.1 X.1.2.1 dX9_exchange_31 (by decide) ?_
  refine lv_iadd X.1.1 X.1.2.1 dX9_exchange_32 ?_
  refine e_ild X hW (by decide) rfl dX9_exchange_33 hf (fun v4 hf => ?_)
  refine e_ild X hW (by decide) rfl dX9_exchange_34 hf (fun v5 hf => ?_)
  refine e_ist X hW hS (by decide) rfl dX9_exchange_35 hf (fun m6 H locs hf hW hS => ?_)
  refine lv_aload_n X.1.1 X.1.2.1 dX9_exchange_36 rfl (lv_at hl 1 rfl) ?_
  refine e_getr X hW (C := RX9) (T := TX9) (N := 35) (j := 27) rfl (by decide) inX9 (by decide) (by decide) rfl (t := 110) rfl rfl mw_3_196 dX9_exchange_37 ?_
  refine lv_aload_n X.1.1 X.1.2.1 dX9_exchange_40 rfl (lv_at hl 1 rfl) ?_
  refine e_getr X hW (C := RX9) (T := TX9) (N := 35) (j := 25) rfl (by decide) inX9 (by decide) (by decide) rfl (t := 108) rfl rfl mw_3_194 dX9_exchange_41 ?_
  refine lv_iload_n X.1.1 X.1.2.1 dX9_exchange_44 rfl (lv_at hl 2 rfl) ?_
  refine lv_iconst (v := 1) X.1.1 X.1.2.1 dX9_exchange_45 (by decide) ?_
  refine lv_iadd X.1.1 X.1.2.1 dX9_exchange_46 ?_
  refine e_ild X hW (by decide) rfl dX9_exchange_47 hf (fun v7 hf => ?_)
  refine lv_iload_n X.1.1 X.1.2.1 dX9_exchange_48 rfl (lv_at hl 0 rfl) ?_
  refine e_ist X hW hS (by decide) rfl dX9_exchange_49 hf (fun m8 H locs hf hW hS => ?_)
  exact e_vret X hW hS hf dX9_exchange_50
