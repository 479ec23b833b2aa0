-- OvenHouse.leastByRings
def rmX8_leastByRings : Room := { frames := 5, cells := 0, slots := 0, locals := 108 }
set_option maxRecDepth 100000 in
set_option maxHeartbeats 4000000 in
theorem ctfX8_leastByRings {l : Launch} {E : Gv} (hD : Do E) (F : Nat)  (μ : Mem) : CtI l yX8_leastByRings ((Cond.code yX8_leastByRings cX8_leastByRings 3 (some .int)) :: GG) rmX8_leastByRings E [.ref (E.1 0)] μ (fX8_leastByRings F μ) := by
  intro r u hf
  refine of_entry (cc := cX8_leastByRings) (maxL := 3) (ret := (some .int)) (by decide +kernel) rfl hD (Nat.le_of_ble_eq_true rfl) (fun p e s m args below meth c X H locs hW hS ls hl => ?_)
  have hl : lv_has ls 3 [(0, .ref (E.1 0))] := hl
  unfold fX8_leastByRings at hf
  refine lv_aload_n X.1.1 X.1.2.1 dX8_leastByRings_0 rfl (lv_at hl 0 rfl) ?_
  refine e_getr X hW (C := RX8) (T := TX8) (N := 11) (j := 1) rfl (by decide) inX8 (by decide) (by decide) rfl (t := 9) rfl rfl mw_2_13 dX8_leastByRings_1 ?_
  refine e_geti X hW (C := RX3) (T := TX3) (N := 7) (j := 6) rfl (by decide) inX3 (by decide) (by decide) rfl rfl mw_1_72 dX8_leastByRings_4 ?_
  refine lv_istore_n (lv' := [(1, .int (μ 9 6)), (0, .ref (E.1 0))]) X.1.1 X.1.2.1 dX8_leastByRings_7 rfl hl (by decide) rfl (fun ls hl => ?_)
  refine lv_aload_n X.1.1 X.1.2.1 dX8_leastByRings_8 rfl (lv_at hl 1 rfl) ?_
  refine e_getr X hW (C := RX8) (T := TX8) (N := 11) (j := 5) rfl (by decide) inX8 (by decide) (by decide) rfl (t := 61) rfl rfl mw_2_17 dX8_leastByRings_9 ?_
  refine lv_iload_n X.1.1 X.1.2.1 dX8_leastByRings_12 rfl (lv_at hl 0 rfl) ?_
  refine lv_iconst (v := 1) X.1.1 X.1.2.1 dX8_leastByRings_13 (by decide) ?_
  refine lv_iadd X.1.1 X.1.2.1 dX8_leastByRings_14 ?_
  refine e_put X hW hS (C := RX5) (T := TX5) (N := 15) (j := 9) (tyF := tyX5) rfl (by decide) inX5 tyX5_ok nmX5 (by decide) (by decide) rfl rfl mw_1_178 rfl rfl rfl dX8_leastByRings_15 hf (fun m1 H locs hf hW hS => ?_)
  refine lv_aload_n X.1.1 X.1.2.1 dX8_leastByRings_18 rfl (lv_at hl 1 rfl) ?_
  refine e_getr X hW (C := RX8) (T := TX8) (N := 11) (j := 1) rfl (by decide) inX8 (by decide) (by decide) rfl (t := 9) rfl rfl mw_2_13 dX8_leastByRings_19 ?_
  refine e_getr X hW (C := RX3) (T := TX3) (N := 7) (j := 0) rfl (by decide) inX3 (by decide) (by decide) rfl (t := 10) rfl rfl mw_1_59 dX8_leastByRings_22 ?_
  refine lv_iconst (v := 0) X.1.1 X.1.2.1 dX8_leastByRings_25 (by decide) ?_
  refine lv_aload_n X.1.1 X.1.2.1 dX8_leastByRings_26 rfl (lv_at hl 1 rfl) ?_
  refine e_getr X hW (C := RX8) (T := TX8) (N := 11) (j := 5) rfl (by decide) inX8 (by decide) (by decide) rfl (t := 61) rfl rfl mw_2_17 dX8_leastByRings_27 ?_
  refine e_getr X hW (C := RX5) (T := TX5) (N := 15) (j := 0) rfl (by decide) inX5 (by decide) (by decide) rfl (t := 62) rfl rfl mw_1_166 dX8_leastByRings_30 ?_
  refine lv_iconst (v := 0) X.1.1 X.1.2.1 dX8_leastByRings_33 (by decide) ?_
  refine lv_iload_n X.1.1 X.1.2.1 dX8_leastByRings_34 rfl (lv_at hl 0 rfl) ?_
  refine e_cpy X hl.1 hW hS mw_2_98 mw_2_100 mw_2_99 mw_1_12 (by decide) (by decide) rfl rfl ⟨Nat.le_of_ble_eq_true rfl, Nat.le_of_ble_eq_true rfl⟩ dX8_leastByRings_35 hf (fun m2 H locs hf hW hS => ?_)
  refine lv_aload_n X.1.1 X.1.2.1 dX8_leastByRings_38 rfl (lv_at hl 1 rfl) ?_
  refine e_getr X hW (C := RX8) (T := TX8) (N := 11) (j := 1) rfl (by decide) inX8 (by decide) (by decide) rfl (t := 9) rfl rfl mw_2_13 dX8_leastByRings_39 ?_
  refine e_getr X hW (C := RX3) (T := TX3) (N := 7) (j := 1) rfl (by decide) inX3 (by decide) (by decide) rfl (t := 11) rfl rfl mw_1_62 dX8_leastByRings_42 ?_
  refine lv_iconst (v := 0) X.1.1 X.1.2.1 dX8_leastByRings_45 (by decide) ?_
  refine lv_aload_n X.1.1 X.1.2.1 dX8_leastByRings_46 rfl (lv_at hl 1 rfl) ?_
  refine e_getr X hW (C := RX8) (T := TX8) (N := 11) (j := 5) rfl (by decide) inX8 (by decide) (by decide) rfl (t := 61) rfl rfl mw_2_17 dX8_leastByRings_47 ?_
  refine e_getr X hW (C := RX5) (T := TX5) (N := 15) (j := 1) rfl (by decide) inX5 (by decide) (by decide) rfl (t := 63) rfl rfl mw_1_168 dX8_leastByRings_50 ?_
  refine lv_iconst (v := 0) X.1.1 X.1.2.1 dX8_leastByRings_53 (by decide) ?_
  refine lv_iload_n X.1.1 X.1.2.1 dX8_leastByRings_54 rfl (lv_at hl 0 rfl) ?_
  refine e_cpy X hl.1 hW hS mw_2_98 mw_2_100 mw_2_99 mw_1_12 (by decide) (by decide) rfl rfl ⟨Nat.le_of_ble_eq_true rfl, Nat.le_of_ble_eq_true rfl⟩ dX8_leastByRings_55 hf (fun m3 H locs hf hW hS => ?_)
  refine lv_aload_n X.1.1 X.1.2.1 dX8_leastByRings_58 rfl (lv_at hl 1 rfl) ?_
  refine e_getr X hW (C := RX8) (T := TX8) (N := 11) (j := 5) rfl (by decide) inX8 (by decide) (by decide) rfl (t := 61) rfl rfl mw_2_17 dX8_leastByRings_59 ?_
  refine e_getr X hW (C := RX5) (T := TX5) (N := 15) (j := 0) rfl (by decide) inX5 (by decide) (by decide) rfl (t := 62) rfl rfl mw_1_166 dX8_leastByRings_62 ?_
  refine lv_iload_n X.1.1 X.1.2.1 dX8_leastByRings_65 rfl (lv_at hl 0 rfl) ?_
  refine lv_iconst (v := 0) X.1.1 X.1.2.1 dX8_leastByRings_66 (by decide) ?_
  refine e_ist X hW hS (by decide) rfl dX8_leastByRings_67 hf (fun m4 H locs hf hW hS => ?_)
  refine lv_aload_n X.1.1 X.1.2.1 dX8_leastByRings_68 rfl (lv_at hl 1 rfl) ?_
  refine e_getr X hW (C := RX8) (T := TX8) (N := 11) (j := 5) rfl (by decide) inX8 (by decide) (by decide) rfl (t := 61) rfl rfl mw_2_17 dX8_leastByRings_69 ?_
  refine e_getr X hW (C := RX5) (T := TX5) (N := 15) (j := 1) rfl (by decide) inX5 (by decide) (by decide) rfl (t := 63) rfl rfl mw_1_168 dX8_leastByRings_72 ?_
  refine lv_iload_n X.1.1 X.1.2.1 dX8_leastByRings_75 rfl (lv_at hl 0 rfl) ?_
  refine lv_iconst (v := 0) X.1.1 X.1.2.1 dX8_leastByRings_76 (by decide) ?_
  refine e_ist X hW hS (by decide) rfl dX8_leastByRings_77 hf (fun m5 H locs hf hW hS => ?_)
  refine lv_aload_n X.1.1 X.1.2.1 dX8_leastByRings_78 rfl (lv_at hl 1 rfl) ?_
  refine e_getr X hW (C := RX8) (T := TX8) (N := 11) (j := 5) rfl (by decide) inX8 (by decide) (by decide) rfl (t := 61) rfl rfl mw_2_17 dX8_leastByRings_79 ?_
  refine lv_aload_n X.1.1 X.1.2.1 dX8_leastByRings_82 rfl (lv_at hl 1 rfl) ?_
  refine e_getr X hW (C := RX8) (T := TX8) (N := 11) (j := 8) rfl (by decide) inX8 (by decide) (by decide) rfl (t := 76) rfl rfl mw_2_20 dX8_leastByRings_83 ?_
  refine e_vi (rest := []) (As := [.ref (E.1 76)]) X hl.1 hW hS (C := RX5) (T := TX5) (N := 15) rfl (by decide) (ctfX5_joinAll X.2.2.2.2 F 76 isPr_76 m5) (cwV (rm := rmX5_joinAll) 1 X.1.2.2.2.2 (gd_V mw_3_19 mw_3_20 mw_3_21 mw_1_8 mw_3_22) rfl rfl rfl (by decide +kernel) ⟨Nat.le_of_ble_eq_true rfl, Nat.le_of_ble_eq_true rfl⟩) rfl rfl (Nat.le_of_ble_eq_true rfl) dX8_leastByRings_86 ⟨Nat.zero_le _, Nat.zero_le _⟩ hf (fun r7 m6 H locs hf hW hS => ?_)
  refine lv_istore_n (lv' := [(2, .int r7), (1, .int (μ 9 6)), (0, .ref (E.1 0))]) X.1.1 X.1.2.1 dX8_leastByRings_89 rfl hl (by decide) rfl (fun ls hl => ?_)
  refine lv_aload_n X.1.1 X.1.2.1 dX8_leastByRings_90 rfl (lv_at hl 2 rfl) ?_
  refine e_getr X hW (C := RX8) (T := TX8) (N := 11) (j := 5) rfl (by decide) inX8 (by decide) (by decide) rfl (t := 61) rfl rfl mw_2_17 dX8_leastByRings_91 ?_
  refine lv_aload_n X.1.1 X.1.2.1 dX8_leastByRings_94 rfl (lv_at hl 2 rfl) ?_
  refine e_getr X hW (C := RX8) (T := TX8) (N := 11) (j := 5) rfl (by decide) inX8 (by decide) (by decide) rfl (t := 61) rfl rfl mw_2_17 dX8_leastByRings_95 ?_
  refine e_getr X hW (C := RX5) (T := TX5) (N := 15) (j := 4) rfl (by decide) inX5 (by decide) (by decide) rfl (t := 66) rfl rfl mw_1_172 dX8_leastByRings_98 ?_
  refine lv_iload_n X.1.1 X.1.2.1 dX8_leastByRings_101 rfl (lv_at hl 1 rfl) ?_
  refine e_ild X hW (by decide) rfl dX8_leastByRings_102 hf (fun v8 hf => ?_)
  refine lv_aload_n X.1.1 X.1.2.1 dX8_leastByRings_103 rfl (lv_at hl 2 rfl) ?_
  refine e_getr X hW (C := RX8) (T := TX8) (N := 11) (j := 9) rfl (by decide) inX8 (by decide) (by decide) rfl (t := 79) rfl rfl mw_2_21 dX8_leastByRings_104 ?_
  refine lv_iload_n X.1.1 X.1.2.1 dX8_leastByRings_107 rfl (lv_at hl 1 rfl) ?_
  refine e_vv (rest := []) (As := [.int v8, .ref (E.1 79), .int (μ 9 6)]) X hl.1 hW hS (C := RX5) (T := TX5) (N := 15) rfl (by decide) (ctfX5_rowFrom X.2.2.2.2 F v8 79 (μ 9 6) ⟨(by decide), rfl⟩ m6) (cwV (rm := rmX5_rowFrom) 3 X.1.2.2.2.2 (gd_V mw_3_69 mw_3_70 mw_3_71 mw_1_8 mw_3_72) rfl rfl rfl (by decide +kernel) ⟨Nat.le_of_ble_eq_true rfl, Nat.le_of_ble_eq_true rfl⟩) rfl rfl (Nat.le_of_ble_eq_true rfl) dX8_leastByRings_108 ⟨Nat.zero_le _, Nat.zero_le _⟩ hf (fun m9 H locs hf hW hS => ?_)
  refine lv_aload_n X.1.1 X.1.2.1 dX8_leastByRings_111 rfl (lv_at hl 2 rfl) ?_
  refine e_getr X hW (C := RX8) (T := TX8) (N := 11) (j := 3) rfl (by decide) inX8 (by decide) (by decide) rfl (t := 53) rfl rfl mw_2_15 dX8_leastByRings_112 ?_
  refine lv_aload_n X.1.1 X.1.2.1 dX8_leastByRings_115 rfl (lv_at hl 2 rfl) ?_
  refine e_getr X hW (C := RX8) (T := TX8) (N := 11) (j := 9) rfl (by decide) inX8 (by decide) (by decide) rfl (t := 79) rfl rfl mw_2_21 dX8_leastByRings_116 ?_
  refine lv_iload_n X.1.1 X.1.2.1 dX8_leastByRings_119 rfl (lv_at hl 1 rfl) ?_
  refine e_vv (rest := []) (As := [.ref (E.1 79), .int (μ 9 6)]) X hl.1 hW hS (C := RX0) (T := TX0) (N := 3) rfl (by decide) (ctfX0_become X.2.2.2.2 F 79 (μ 9 6) ⟨(by decide), rfl⟩ m9) (cwV (rm := rmX0_become) 2 X.1.2.2.2.2 (gd_V mw_3_73 mw_3_74 mw_3_75 mw_1_6 mw_3_76) rfl rfl rfl (by decide +kernel) ⟨Nat.le_of_ble_eq_true rfl, Nat.le_of_ble_eq_true rfl⟩) rfl rfl (Nat.le_of_ble_eq_true rfl) dX8_leastByRings_120 ⟨Nat.zero_le _, Nat.zero_le _⟩ hf (fun m10 H locs hf hW hS => ?_)
  refine lv_aload_n X.1.1 X.1.2.1 dX8_leastByRings_123 rfl (lv_at hl 2 rfl) ?_
  refine e_getr X hW (C := RX8) (T := TX8) (N := 11) (j := 1) rfl (by decide) inX8 (by decide) (by decide) rfl (t := 9) rfl rfl mw_2_13 dX8_leastByRings_124 ?_
  refine lv_aload_n X.1.1 X.1.2.1 dX8_leastByRings_127 rfl (lv_at hl 2 rfl) ?_
  refine e_getr X hW (C := RX8) (T := TX8) (N := 11) (j := 1) rfl (by decide) inX8 (by decide) (by decide) rfl (t := 9) rfl rfl mw_2_13 dX8_leastByRings_128 ?_
  refine e_getr X hW (C := RX3) (T := TX3) (N := 7) (j := 1) rfl (by decide) inX3 (by decide) (by decide) rfl (t := 11) rfl rfl mw_1_62 dX8_leastByRings_131 ?_
  refine e_vi (rest := []) (As := [.ref (E.1 11)]) X hl.1 hW hS (C := RX3) (T := TX3) (N := 7) rfl (by decide) (ctfX3_sum X.2.2.2.2 F 11 ⟨(by decide), rfl⟩ m10) (cwV (rm := rmX3_sum) 1 X.1.2.2.2.2 (gd_V mw_2_236 mw_2_237 mw_2_238 mw_1_4 mw_2_239) rfl rfl rfl (by decide +kernel) ⟨Nat.le_of_ble_eq_true rfl, Nat.le_of_ble_eq_true rfl⟩) rfl rfl (Nat.le_of_ble_eq_true rfl) dX8_leastByRings_134 ⟨Nat.zero_le _, Nat.zero_le _⟩ hf (fun r12 m11 H locs hf hW hS => ?_)
  refine lv_iload_n X.1.1 X.1.2.1 dX8_leastByRings_137 rfl (lv_at hl 0 rfl) ?_
  refine lv_iadd X.1.1 X.1.2.1 dX8_leastByRings_138 ?_
  exact e_iret X hW hS hf dX8_leastByRings_139
-- OvenHouse.leastOfAllRows
def rmX8_leastOfAllRows : Room := { frames := 3, cells := 0, slots := 0, locals := 64 }
set_option maxRecDepth 100000 in
set_option maxHeartbeats 4000000 in
theorem wfX8_leastOfAllRows_109 {p : Program} {l : Launch} {e : Env} {s : State} {m : MethodId} {args : Array Value} {below : List Frame} {meth : Method} {c : Code} {E : Gv} {F : Nat}  {r : Int32} {u : Mem} (X : Fx p m c cX8_leastOfAllRows 6 s args (Cond.code yX8_leastOfAllRows cX8_leastOfAllRows 6 (some .int)) "OvenHouse" meth (some .int) E)  (rec23 : Int32 → Int32 → Int32 → Int32 → Mem → Option (Int32 × Mem)) (hrec23 : ∀ (y1 : Int32) (y2 : Int32) (y3 : Int32) (y4 : Int32) (μ : Mem) (H : Heap) (locs : List Loc) (ls : Array Slot), rec23 y1 y2 y3 y4 μ = some (r, u) → Wo E μ H → va_S (AE E) s.heap H locs → lv_has ls 6 [(0, .ref (E.1 0)), (1, .int y1), (2, .int y2), (3, .int y3), (4, .int y4)] → W0 p l e rmX8_leastOfAllRows s m args below meth c H locs (QcI E r u) E (F0 m 23 ls [])) (y1 : Int32) (y2 : Int32) (y4 : Int32) (μ : Mem) (H : Heap) (locs : List Loc) (ls : Array Slot) (hf : fX8_leastOfAllRows_109 F  rec23 y1 y2 y4 μ = some (r, u)) (hW : Wo E μ H) (hS : va_S (AE E) s.heap H locs) (hl : lv_has ls 6 [(0, .ref (E.1 0)), (1, .int y1), (2, .int y2), (4, .int y4)]) : W0 p l e rmX8_leastOfAllRows s m args below meth c H locs (QcI E r u) E (F0 m 109 ls []) := by
  unfold fX8_leastOfAllRows_109 at hf
  refine lv_aload_n X.1.1 X.1.2.1 dX8_leastOfAllRows_109 rfl (lv_at hl 0 rfl) ?_
  refine e_getr X hW (C := RX8) (T := TX8) (N := 11) (j := 6) rfl (by decide) inX8 (by decide) (by decide) rfl (t := 71) rfl rfl mw_2_18 dX8_leastOfAllRows_110 ?_
  refine e_vi (rest := []) (As := []) X hl.1 hW hS (C := RX6) (T := TX6) (N := 2) rfl (by decide) (ctfX6_step X.2.2.2.2 F μ) (cwV (rm := rmX6_step) 0 X.1.2.2.2.2 (gd_V mw_3_91 mw_3_92 mw_3_93 mw_1_9 mw_3_94) rfl rfl rfl (by decide +kernel) ⟨Nat.le_of_ble_eq_true rfl, Nat.le_of_ble_eq_true rfl⟩) rfl rfl (Nat.le_of_ble_eq_true rfl) dX8_leastOfAllRows_113 ⟨Nat.zero_le _, Nat.zero_le _⟩ hf (fun r7 m6 H locs hf hW hS => ?_)
  refine lv_istore_n (lv' := [(3, .int r7), (0, .ref (E.1 0)), (1, .int y1), (2, .int y2), (4, .int y4)]) X.1.1 X.1.2.1 dX8_leastOfAllRows_116 rfl hl (by decide) rfl (fun ls hl => ?_)
  refine lv_iinc (v := (y4 + 1)) (lv' := [(4, .int (y4 + 1)), (3, .int r7), (0, .ref (E.1 0)), (1, .int y1), (2, .int y2)]) X.1.1 X.1.2.1 dX8_leastOfAllRows_117 hl (k := 4) rfl rfl (by decide) rfl (fun ls hl => ?_)
  refine lv_goto (tgt := 23) X.1.1 X.1.2.1 dX8_leastOfAllRows_120 (by decide) ?_
  exact hrec23 y1 y2 r7 (y4 + 1) m6 H locs ls hf hW hS (lv_sub hl [2, 3, 4, 1, 0] rfl)
set_option maxRecDepth 100000 in
set_option maxHeartbeats 4000000 in
theorem wfX8_leastOfAllRows_83 {p : Program} {l : Launch} {e : Env} {s : State} {m : MethodId} {args : Array Value} {below : List Frame} {meth : Method} {c : Code} {E : Gv} {F : Nat}  {r : Int32} {u : Mem} (X : Fx p m c cX8_leastOfAllRows 6 s args (Cond.code yX8_leastOfAllRows cX8_leastOfAllRows 6 (some .int)) "OvenHouse" meth (some .int) E)  (rec23 : Int32 → Int32 → Int32 → Int32 → Mem → Option (Int32 × Mem)) (hrec23 : ∀ (y1 : Int32) (y2 : Int32) (y3 : Int32) (y4 : Int32) (μ : Mem) (H : Heap) (locs : List Loc) (ls : Array Slot), rec23 y1 y2 y3 y4 μ = some (r, u) → Wo E μ H → va_S (AE E) s.heap H locs → lv_has ls 6 [(0, .ref (E.1 0)), (1, .int y1), (2, .int y2), (3, .int y3), (4, .int y4)] → W0 p l e rmX8_leastOfAllRows s m args below meth c H locs (QcI E r u) E (F0 m 23 ls [])) (y1 : Int32) (y4 : Int32) (y5 : Int32) (μ : Mem) (H : Heap) (locs : List Loc) (ls : Array Slot) (hf : fX8_leastOfAllRows_83 F  rec23 y1 y4 y5 μ = some (r, u)) (hW : Wo E μ H) (hS : va_S (AE E) s.heap H locs) (hl : lv_has ls 6 [(0, .ref (E.1 0)), (1, .int y1), (4, .int y4), (5, .int y5)]) : W0 p l e rmX8_leastOfAllRows s m args below meth c H locs (QcI E r u) E (F0 m 83 ls []) := by
  unfold fX8_leastOfAllRows_83 at hf
  refine lv_iload X.1.1 X.1.2.1 dX8_leastOfAllRows_83 (lv_at hl 3 rfl) ?_
  refine lv_istore_n (lv' := [(2, .int y5), (0, .ref (E.1 0)), (1, .int y1), (4, .int y4), (5, .int y5)]) X.1.1 X.1.2.1 dX8_leastOfAllRows_85 rfl hl (by decide) rfl (fun ls hl => ?_)
  refine lv_aload_n X.1.1 X.1.2.1 dX8_leastOfAllRows_86 rfl (lv_at hl 1 rfl) ?_
  refine e_getr X hW (C := RX8) (T := TX8) (N := 11) (j := 6) rfl (by decide) inX8 (by decide) (by decide) rfl (t := 71) rfl rfl mw_2_18 dX8_leastOfAllRows_87 ?_
  refine e_getr X hW (C := RX6) (T := TX6) (N := 2) (j := 0) rfl (by decide) inX6 (by decide) (by decide) rfl (t := 72) rfl rfl mw_1_228 dX8_leastOfAllRows_90 ?_
  refine lv_iconst (v := 0) X.1.1 X.1.2.1 dX8_leastOfAllRows_93 (by decide) ?_
  refine lv_aload_n X.1.1 X.1.2.1 dX8_leastOfAllRows_94 rfl (lv_at hl 1 rfl) ?_
  refine e_getr X hW (C := RX8) (T := TX8) (N := 11) (j := 9) rfl (by decide) inX8 (by decide) (by decide) rfl (t := 79) rfl rfl mw_2_21 dX8_leastOfAllRows_95 ?_
  refine lv_iconst (v := 0) X.1.1 X.1.2.1 dX8_leastOfAllRows_98 (by decide) ?_
  refine lv_aload_n X.1.1 X.1.2.1 dX8_leastOfAllRows_99 rfl (lv_at hl 1 rfl) ?_
  refine e_getr X hW (C := RX8) (T := TX8) (N := 11) (j := 1) rfl (by decide) inX8 (by decide) (by decide) rfl (t := 9) rfl rfl mw_2_13 dX8_leastOfAllRows_100 ?_
  refine e_geti X hW (C := RX3) (T := TX3) (N := 7) (j := 6) rfl (by decide) inX3 (by decide) (by decide) rfl rfl mw_1_72 dX8_leastOfAllRows_103 ?_
  refine e_cpy X hl.1 hW hS mw_2_98 mw_2_100 mw_2_99 mw_1_12 (by decide) (by decide) rfl rfl ⟨Nat.le_of_ble_eq_true rfl, Nat.le_of_ble_eq_true rfl⟩ dX8_leastOfAllRows_106 hf (fun m8 H locs hf hW hS => ?_)
  exact wfX8_leastOfAllRows_109 X rec23 hrec23 y1 y5 y4 m8 H locs ls hf hW hS (lv_sub hl [1, 2, 0, 3] rfl)
set_option maxRecDepth 100000 in
set_option maxHeartbeats 4000000 in
theorem wfX8_leastOfAllRows_23_b {p : Program} {l : Launch} {e : Env} {s : State} {m : MethodId} {args : Array Value} {below : List Frame} {meth : Method} {c : Code} {E : Gv} {F : Nat}  {r : Int32} {u : Mem} (X : Fx p m c cX8_leastOfAllRows 6 s args (Cond.code yX8_leastOfAllRows cX8_leastOfAllRows 6 (some .int)) "OvenHouse" meth (some .int) E)  (rec23 : Int32 → Int32 → Int32 → Int32 → Mem → Option (Int32 × Mem)) (hrec23 : ∀ (y1 : Int32) (y2 : Int32) (y3 : Int32) (y4 : Int32) (μ : Mem) (H : Heap) (locs : List Loc) (ls : Array Slot), rec23 y1 y2 y3 y4 μ = some (r, u) → Wo E μ H → va_S (AE E) s.heap H locs → lv_has ls 6 [(0, .ref (E.1 0)), (1, .int y1), (2, .int y2), (3, .int y3), (4, .int y4)] → W0 p l e rmX8_leastOfAllRows s m args below meth c H locs (QcI E r u) E (F0 m 23 ls [])) (y1 : Int32) (y2 : Int32) (y3 : Int32) (y4 : Int32) (μ : Mem) (H : Heap) (locs : List Loc) (ls : Array Slot) (hf : fX8_leastOfAllRows_23_b F  rec23 y1 y2 y3 y4 μ = some (r, u)) (hW : Wo E μ H) (hS : va_S (AE E) s.heap H locs) (hl : lv_has ls 6 [(0, .ref (E.1 0)), (1, .int y1), (2, .int y2), (3, .int y3), (4, .int y4)]) : W0 p l e rmX8_leastOfAllRows s m args below meth c H locs (QcI E r u) E (F0 m 23 ls []) := by
  unfold fX8_leastOfAllRows_23_b at hf
  refine lv_iload X.1.1 X.1.2.1 dX8_leastOfAllRows_23 (lv_at hl 4 rfl) ?_
  refine lv_sipush (v := 5040) X.1.1 X.1.2.1 dX8_leastOfAllRows_25 (by decide) ?_
  refine lv_icmp_ge (tgt := 123) X.1.1 X.1.2.1 dX8_leastOfAllRows_28 (by decide) (fun c28 => ?_) (fun c28 => ?_)
  · rw [if_pos c28] at hf
    refine lv_iload_n X.1.1 X.1.2.1 dX8_leastOfAllRows_123 rfl (lv_at hl 2 rfl) ?_
    exact e_iret X hW hS hf dX8_leastOfAllRows_124
  · rw [if_neg c28] at hf
    refine lv_iload_n X.1.1 X.1.2.1 dX8_leastOfAllRows_31 rfl (lv_at hl 3 rfl) ?_
    refine lv_if_lt (tgt := 123) X.1.1 X.1.2.1 dX8_leastOfAllRows_32 (by decide) (fun c32 => ?_) (fun c32 => ?_)
    · rw [if_pos c32] at hf
      refine lv_iload_n X.1.1 X.1.2.1 dX8_leastOfAllRows_123 rfl (lv_at hl 2 rfl) ?_
      exact e_iret X hW hS hf dX8_leastOfAllRows_124
    · rw [if_neg c32] at hf
      refine lv_aload_n X.1.1 X.1.2.1 dX8_leastOfAllRows_35 rfl (lv_at hl 0 rfl) ?_
      refine e_getr X hW (C := RX8) (T := TX8) (N := 11) (j := 4) rfl (by decide) inX8 (by decide) (by decide) rfl (t := 55) rfl rfl mw_2_16 dX8_leastOfAllRows_36 ?_
      refine lv_aload_n X.1.1 X.1.2.1 dX8_leastOfAllRows_39 rfl (lv_at hl 0 rfl) ?_
      refine e_getr X hW (C := RX8) (T := TX8) (N := 11) (j := 1) rfl (by decide) inX8 (by decide) (by decide) rfl (t := 9) rfl rfl mw_2_13 dX8_leastOfAllRows_40 ?_
      refine lv_aload_n X.1.1 X.1.2.1 dX8_leastOfAllRows_43 rfl (lv_at hl 0 rfl) ?_
      refine e_getr X hW (C := RX8) (T := TX8) (N := 11) (j := 6) rfl (by decide) inX8 (by decide) (by decide) rfl (t := 71) rfl rfl mw_2_18 dX8_leastOfAllRows_44 ?_
      refine e_getr X hW (C := RX6) (T := TX6) (N := 2) (j := 0) rfl (by decide) inX6 (by decide) (by decide) rfl (t := 72) rfl rfl mw_1_228 dX8_leastOfAllRows_47 ?_
      refine lv_iload_n X.1.1 X.1.2.1 dX8_leastOfAllRows_50 rfl (lv_at hl 3 rfl) ?_
      refine e_vi (rest := []) (As := [.ref (E.1 9), .ref (E.1 72), .int y3]) X hl.1 hW hS (C := RX1) (T := TX1) (N := 7) rfl (by decide) (ctfX1_endOf X.2.2.2.2 F 72 y3 ⟨(by decide), rfl⟩ μ) (cwV (rm := rmX1_endOf) 3 X.1.2.2.2.2 (gd_V mw_2_189 mw_2_190 mw_2_191 mw_1_7 mw_2_192) rfl rfl rfl (by decide +kernel) ⟨Nat.le_of_ble_eq_true rfl, Nat.le_of_ble_eq_true rfl⟩) rfl rfl (Nat.le_of_ble_eq_true rfl) dX8_leastOfAllRows_51 ⟨Nat.zero_le _, Nat.zero_le _⟩ hf (fun r3 m2 H locs hf hW hS => ?_)
      refine lv_istore (lv' := [(5, .int r3), (0, .ref (E.1 0)), (1, .int y1), (2, .int y2), (3, .int y3), (4, .int y4)]) X.1.1 X.1.2.1 dX8_leastOfAllRows_54 hl (by decide) rfl (fun ls hl => ?_)
      refine lv_iload X.1.1 X.1.2.1 dX8_leastOfAllRows_56 (lv_at hl 0 rfl) ?_
      refine lv_iload_n X.1.1 X.1.2.1 dX8_leastOfAllRows_58 rfl (lv_at hl 3 rfl) ?_
      refine lv_icmp_ge (tgt := 109) X.1.1 X.1.2.1 dX8_leastOfAllRows_59 (by decide) (fun c59 => ?_) (fun c59 => ?_)
      · rw [if_pos c59] at hf
        exact wfX8_leastOfAllRows_109 X rec23 hrec23 y1 y2 y4 m2 H locs ls hf hW hS (lv_sub hl [1, 2, 3, 5] rfl)
      · rw [if_neg c59] at hf
        refine lv_iload_n X.1.1 X.1.2.1 dX8_leastOfAllRows_62 rfl (lv_at hl 2 rfl) ?_
        refine lv_if_eq (tgt := 83) X.1.1 X.1.2.1 dX8_leastOfAllRows_63 (by decide) (fun c63 => ?_) (fun c63 => ?_)
        · rw [if_pos c63] at hf
          exact wfX8_leastOfAllRows_83 X rec23 hrec23 y1 y4 r3 m2 H locs ls hf hW hS (lv_sub hl [1, 2, 5, 0] rfl)
        · rw [if_neg c63] at hf
          refine lv_aload_n X.1.1 X.1.2.1 dX8_leastOfAllRows_66 rfl (lv_at hl 1 rfl) ?_
          refine e_getr X hW (C := RX8) (T := TX8) (N := 11) (j := 1) rfl (by decide) inX8 (by decide) (by decide) rfl (t := 9) rfl rfl mw_2_13 dX8_leastOfAllRows_67 ?_
          refine lv_aload_n X.1.1 X.1.2.1 dX8_leastOfAllRows_70 rfl (lv_at hl 1 rfl) ?_
          refine e_getr X hW (C := RX8) (T := TX8) (N := 11) (j := 6) rfl (by decide) inX8 (by decide) (by decide) rfl (t := 71) rfl rfl mw_2_18 dX8_leastOfAllRows_71 ?_
          refine e_getr X hW (C := RX6) (T := TX6) (N := 2) (j := 0) rfl (by decide) inX6 (by decide) (by decide) rfl (t := 72) rfl rfl mw_1_228 dX8_leastOfAllRows_74 ?_
          refine e_vi (rest := []) (As := [.ref (E.1 72)]) X hl.1 hW hS (C := RX3) (T := TX3) (N := 7) rfl (by decide) (ctfX3_isOrder X.2.2.2.2 F 72 ⟨(by decide), rfl⟩ m2) (cwV (rm := rmX3_isOrder) 1 X.1.2.2.2.2 (gd_V mw_3_87 mw_3_88 mw_3_89 mw_1_4 mw_3_90) rfl rfl rfl (by decide +kernel) ⟨Nat.le_of_ble_eq_true rfl, Nat.le_of_ble_eq_true rfl⟩) rfl rfl (Nat.le_of_ble_eq_true rfl) dX8_leastOfAllRows_77 ⟨Nat.zero_le _, Nat.zero_le _⟩ hf (fun r5 m4 H locs hf hW hS => ?_)
          refine lv_if_ne (tgt := 109) X.1.1 X.1.2.1 dX8_leastOfAllRows_80 (by decide) (fun c80 => ?_) (fun c80 => ?_)
          · rw [if_neg c80] at hf
            exact wfX8_leastOfAllRows_109 X rec23 hrec23 y1 y2 y4 m4 H locs ls hf hW hS (lv_sub hl [1, 2, 3, 5] rfl)
          · rw [if_pos c80] at hf
            exact wfX8_leastOfAllRows_83 X rec23 hrec23 y1 y4 r3 m4 H locs ls hf hW hS (lv_sub hl [1, 2, 5, 0] rfl)
theorem wfX8_leastOfAllRows_23 {p : Program} {l : Launch} {e : Env} {s : State} {m : MethodId} {args : Array Value} {below : List Frame} {meth : Method} {c : Code} {E : Gv} {F : Nat}  {r : Int32} {u : Mem} (X : Fx p m c cX8_leastOfAllRows 6 s args (Cond.code yX8_leastOfAllRows cX8_leastOfAllRows 6 (some .int)) "OvenHouse" meth (some .int) E)  (n : Nat) : ∀ (y1 : Int32) (y2 : Int32) (y3 : Int32) (y4 : Int32) (μ : Mem) (H : Heap) (locs : List Loc) (ls : Array Slot) (_ : fX8_leastOfAllRows_23 F   n y1 y2 y3 y4 μ = some (r, u)) (_ : Wo E μ H) (_ : va_S (AE E) s.heap H locs) (_ : lv_has ls 6 [(0, .ref (E.1 0)), (1, .int y1), (2, .int y2), (3, .int y3), (4, .int y4)]), W0 p l e rmX8_leastOfAllRows s m args below meth c H locs (QcI E r u) E (F0 m 23 ls []) := by
  induction n with
  | zero => intro y1 y2 y3 y4 μ H locs ls hf hW hS hl; cases hf
  | succ n ih => intro y1 y2 y3 y4 μ H locs ls hf hW hS hl; exact wfX8_leastOfAllRows_23_b X  _ ih y1 y2 y3 y4 μ H locs ls hf hW hS hl
set_option maxRecDepth 100000 in
set_option maxHeartbeats 4000000 in
theorem ctfX8_leastOfAllRows {l : Launch} {E : Gv} (hD : Do E) (F : Nat) (x1 : Int32)  (μ : Mem) : CtI l yX8_leastOfAllRows ((Cond.code yX8_leastOfAllRows cX8_leastOfAllRows 6 (some .int)) :: GG) rmX8_leastOfAllRows E [.ref (E.1 0), .int x1] μ (fX8_leastOfAllRows F x1 μ) := by
  intro r u hf
  refine of_entry (cc := cX8_leastOfAllRows) (maxL := 6) (ret := (some .int)) (by decide +kernel) rfl hD (Nat.le_of_ble_eq_true rfl) (fun p e s m args below meth c X H locs hW hS ls hl => ?_)
  have hl : lv_has ls 6 [(0, .ref (E.1 0)), (1, .int x1)] := hl
  unfold fX8_leastOfAllRows at hf
  refine lv_aload_n X.1.1 X.1.2.1 dX8_leastOfAllRows_0 rfl (lv_at hl 0 rfl) ?_
  refine e_getr X hW (C := RX8) (T := TX8) (N := 11) (j := 6) rfl (by decide) inX8 (by decide) (by decide) rfl (t := 71) rfl rfl mw_2_18 dX8_leastOfAllRows_1 ?_
  refine lv_aload_n X.1.1 X.1.2.1 dX8_leastOfAllRows_4 rfl (lv_at hl 0 rfl) ?_
  refine e_getr X hW (C := RX8) (T := TX8) (N := 11) (j := 1) rfl (by decide) inX8 (by decide) (by decide) rfl (t := 9) rfl rfl mw_2_13 dX8_leastOfAllRows_5 ?_
  refine e_geti X hW (C := RX3) (T := TX3) (N := 7) (j := 6) rfl (by decide) inX3 (by decide) (by decide) rfl rfl mw_1_72 dX8_leastOfAllRows_8 ?_
  refine e_vv (rest := []) (As := [.int (μ 9 6)]) X hl.1 hW hS (C := RX6) (T := TX6) (N := 2) rfl (by decide) (ctfX6_begin X.2.2.2.2 F (μ 9 6) μ) (cwV (rm := rmX6_begin) 1 X.1.2.2.2.2 (gd_V mw_3_82 mw_3_83 mw_3_84 mw_1_9 mw_3_85) rfl rfl rfl (by decide +kernel) ⟨Nat.le_of_ble_eq_true rfl, Nat.le_of_ble_eq_true rfl⟩) rfl rfl (Nat.le_of_ble_eq_true rfl) dX8_leastOfAllRows_11 ⟨Nat.zero_le _, Nat.zero_le _⟩ hf (fun m1 H locs hf hW hS => ?_)
  refine lv_ldcw X.1.1 X.1.2.1 X.1.2.2.2.1 (X.1.2.2.2.2 _ (List.mem_cons_of_mem _ mw_3_86)) dX8_leastOfAllRows_14 ?_
  refine lv_istore_n (lv' := [(2, .int 2147483647), (0, .ref (E.1 0)), (1, .int x1)]) X.1.1 X.1.2.1 dX8_leastOfAllRows_17 rfl hl (by decide) rfl (fun ls hl => ?_)
  refine lv_iconst (v := 0) X.1.1 X.1.2.1 dX8_leastOfAllRows_18 (by decide) ?_
  refine lv_istore_n (lv' := [(3, .int 0), (2, .int 2147483647), (0, .ref (E.1 0)), (1, .int x1)]) X.1.1 X.1.2.1 dX8_leastOfAllRows_19 rfl hl (by decide) rfl (fun ls hl => ?_)
  refine lv_iconst (v := 0) X.1.1 X.1.2.1 dX8_leastOfAllRows_20 (by decide) ?_
  refine lv_istore (lv' := [(4, .int 0), (3, .int 0), (2, .int 2147483647), (0, .ref (E.1 0)), (1, .int x1)]) X.1.1 X.1.2.1 dX8_leastOfAllRows_21 hl (by decide) rfl (fun ls hl => ?_)
  exact wfX8_leastOfAllRows_23 X  F x1 2147483647 0 0 m1 H locs ls hf hW hS (lv_sub hl [3, 4, 2, 1, 0] rfl)
-- OvenHouse.least
def rmX8_least : Room := { frames := 6, cells := 0, slots := 0, locals := 130 }
set_option maxRecDepth 100000 in
set_option maxHeartbeats 4000000 in
theorem wfX8_least_91 {p : Program} {l : Launch} {e : Env} {s : State} {m : MethodId} {args : Array Value} {below : List Frame} {meth : Method} {c : Code} {E : Gv} {F : Nat}  {r : Int32} {u : Mem} (X : Fx p m c cX8_least 4 s args (Cond.code yX8_least cX8_least 4 (some .int)) "OvenHouse" meth (some .int) E)  (y3 : Int32) (μ : Mem) (H : Heap) (locs : List Loc) (ls : Array Slot) (hf : fX8_least_91 F   y3 μ = some (r, u)) (hW : Wo E μ H) (hS : va_S (AE E) s.heap H locs) (hl : lv_has ls 4 [(0, .ref (E.1 0)), (3, .int y3)]) : W0 p l e rmX8_least s m args below meth c H locs (QcI E r u) E (F0 m 91 ls []) := by
  unfold fX8_least_91 at hf
  refine lv_aload_n X.1.1 X.1.2.1 dX8_least_91 rfl (lv_at hl 0 rfl) ?_
  refine e_getr X hW (C := RX8) (T := TX8) (N := 11) (j := 3) rfl (by decide) inX8 (by decide) (by decide) rfl (t := 53) rfl rfl mw_2_15 dX8_least_92 ?_
  refine lv_aload_n X.1.1 X.1.2.1 dX8_least_95 rfl (lv_at hl 0 rfl) ?_
  refine e_getr X hW (C := RX8) (T := TX8) (N := 11) (j := 9) rfl (by decide) inX8 (by decide) (by decide) rfl (t := 79) rfl rfl mw_2_21 dX8_least_96 ?_
  refine lv_aload_n X.1.1 X.1.2.1 dX8_least_99 rfl (lv_at hl 0 rfl) ?_
  refine e_getr X hW (C := RX8) (T := TX8) (N := 11) (j := 1) rfl (by decide) inX8 (by decide) (by decide) rfl (t := 9) rfl rfl mw_2_13 dX8_least_100 ?_
  refine e_geti X hW (C := RX3) (T := TX3) (N := 7) (j := 6) rfl (by decide) inX3 (by decide) (by decide) rfl rfl mw_1_72 dX8_least_103 ?_
  refine e_vv (rest := []) (As := [.ref (E.1 79), .int (μ 9 6)]) X hl.1 hW hS (C := RX0) (T := TX0) (N := 3) rfl (by decide) (ctfX0_become X.2.2.2.2 F 79 (μ 9 6) ⟨(by decide), rfl⟩ μ) (cwV (rm := rmX0_become) 2 X.1.2.2.2.2 (gd_V mw_3_73 mw_3_74 mw_3_75 mw_1_6 mw_3_76) rfl rfl rfl (by decide +kernel) ⟨Nat.le_of_ble_eq_true rfl, Nat.le_of_ble_eq_true rfl⟩) rfl rfl (Nat.le_of_ble_eq_true rfl) dX8_least_106 ⟨Nat.zero_le _, Nat.zero_le _⟩ hf (fun m11 H locs hf hW hS => ?_)
  refine lv_iload_n X.1.1 X.1.2.1 dX8_least_109 rfl (lv_at hl 1 rfl) ?_
  exact e_iret X hW hS hf dX8_least_110
set_option maxRecDepth 100000 in
set_option maxHeartbeats 4000000 in
theorem wfX8_least_31 {p : Program} {l : Launch} {e : Env} {s : State} {m : MethodId} {args : Array Value} {below : List Frame} {meth : Method} {c : Code} {E : Gv} {F : Nat}  {r : Int32} {u : Mem} (X : Fx p m c cX8_least 4 s args (Cond.code yX8_least cX8_least 4 (some .int)) "OvenHouse" meth (some .int) E)  (y1 : Int32) (y2 : Int32) (μ : Mem) (H : Heap) (locs : List Loc) (ls : Array Slot) (hf : fX8_least_31 F   y1 y2 μ = some (r, u)) (hW : Wo E μ H) (hS : va_S (AE E) s.heap H locs) (hl : lv_has ls 4 [(0, .ref (E.1 0)), (1, .int y1), (2, .int y2)]) : W0 p l e rmX8_least s m args below meth c H locs (QcI E r u) E (F0 m 31 ls []) := by
  unfold fX8_least_31 at hf
  refine lv_iload_n X.1.1 X.1.2.1 dX8_least_31 rfl (lv_at hl 1 rfl) ?_
  refine lv_if_ne (tgt := 40) X.1.1 X.1.2.1 dX8_least_32 (by decide) (fun c32 => ?_) (fun c32 => ?_)
  · rw [if_neg c32] at hf
    refine lv_aload_n X.1.1 X.1.2.1 dX8_least_40 rfl (lv_at hl 0 rfl) ?_
    refine e_getr X hW (C := RX8) (T := TX8) (N := 11) (j := 4) rfl (by decide) inX8 (by decide) (by decide) rfl (t := 55) rfl rfl mw_2_16 dX8_least_41 ?_
    refine lv_iload_n X.1.1 X.1.2.1 dX8_least_44 rfl (lv_at hl 1 rfl) ?_
    refine lv_iload_n X.1.1 X.1.2.1 dX8_least_45 rfl (lv_at hl 2 rfl) ?_
    refine e_vv (rest := []) (As := [.int y1, .int y2]) X hl.1 hW hS (C := RX1) (T := TX1) (N := 7) rfl (by decide) (ctfX1_follow X.2.2.2.2 F y1 y2 μ) (cwV (rm := rmX1_follow) 2 X.1.2.2.2.2 (gd_V mw_2_185 mw_2_186 mw_2_187 mw_1_7 mw_2_188) rfl rfl rfl (by decide +kernel) ⟨Nat.le_of_ble_eq_true rfl, Nat.le_of_ble_eq_true rfl⟩) rfl rfl (Nat.le_of_ble_eq_true rfl) dX8_least_46 ⟨Nat.zero_le _, Nat.zero_le _⟩ hf (fun m3 H locs hf hW hS => ?_)
    refine lv_iload_n X.1.1 X.1.2.1 dX8_least_49 rfl (lv_at hl 1 rfl) ?_
    refine lv_iconst (v := 1) X.1.1 X.1.2.1 dX8_least_50 (by decide) ?_
    refine lv_icmp_ne (tgt := 85) X.1.1 X.1.2.1 dX8_least_51 (by decide) (fun c51 => ?_) (fun c51 => ?_)
    · rw [if_neg c51] at hf
      refine lv_aload_n X.1.1 X.1.2.1 dX8_least_85 rfl (lv_at hl 0 rfl) ?_
      refine lv_iconst (v := 0) X.1.1 X.1.2.1 dX8_least_86 (by decide) ?_
      refine e_vi (rest := []) (As := [.int 0]) X hl.1 hW hS (C := RX8) (T := TX8) (N := 11) rfl (by decide) (ctfX8_leastOfAllRows X.2.2.2.2 F 0 m3) (cwV (rm := rmX8_leastOfAllRows) 1 X.1.2.2.2.2 (gd_V mw_3_78 mw_3_80 mw_0_10 mw_1_1 mw_3_81) rfl rfl rfl (by decide +kernel) ⟨Nat.le_of_ble_eq_true rfl, Nat.le_of_ble_eq_true rfl⟩) rfl rfl (Nat.le_of_ble_eq_true rfl) dX8_least_87 ⟨Nat.zero_le _, Nat.zero_le _⟩ hf (fun r5 m4 H locs hf hW hS => ?_)
      refine lv_istore_n (lv' := [(3, .int r5), (0, .ref (E.1 0)), (1, .int y1), (2, .int y2)]) X.1.1 X.1.2.1 dX8_least_90 rfl hl (by decide) rfl (fun ls hl => ?_)
      exact wfX8_least_91 X  r5 m4 H locs ls hf hW hS (lv_sub hl [1, 0] rfl)
    · rw [if_pos c51] at hf
      refine lv_aload_n X.1.1 X.1.2.1 dX8_least_54 rfl (lv_at hl 0 rfl) ?_
      refine e_getr X hW (C := RX8) (T := TX8) (N := 11) (j := 1) rfl (by decide) inX8 (by decide) (by decide) rfl (t := 9) rfl rfl mw_2_13 dX8_least_55 ?_
      refine lv_aload_n X.1.1 X.1.2.1 dX8_least_58 rfl (lv_at hl 0 rfl) ?_
      refine e_getr X hW (C := RX8) (T := TX8) (N := 11) (j := 9) rfl (by decide) inX8 (by decide) (by decide) rfl (t := 79) rfl rfl mw_2_21 dX8_least_59 ?_
      refine e_vv (rest := []) (As := [.ref (E.1 79)]) X hl.1 hW hS (C := RX3) (T := TX3) (N := 7) rfl (by decide) (ctfX3_byRule X.2.2.2.2 F 79 ⟨(by decide), rfl⟩ m3) (cwV (rm := rmX3_byRule) 1 X.1.2.2.2.2 (gd_V mw_2_177 mw_2_178 mw_2_179 mw_1_4 mw_2_180) rfl rfl rfl (by decide +kernel) ⟨Nat.le_of_ble_eq_true rfl, Nat.le_of_ble_eq_true rfl⟩) rfl rfl (Nat.le_of_ble_eq_true rfl) dX8_least_62 ⟨Nat.zero_le _, Nat.zero_le _⟩ hf (fun m6 H locs hf hW hS => ?_)
      refine lv_aload_n X.1.1 X.1.2.1 dX8_least_65 rfl (lv_at hl 0 rfl) ?_
      refine e_getr X hW (C := RX8) (T := TX8) (N := 11) (j := 4) rfl (by decide) inX8 (by decide) (by decide) rfl (t := 55) rfl rfl mw_2_16 dX8_least_66 ?_
      refine lv_aload_n X.1.1 X.1.2.1 dX8_least_69 rfl (lv_at hl 0 rfl) ?_
      refine e_getr X hW (C := RX8) (T := TX8) (N := 11) (j := 1) rfl (by decide) inX8 (by decide) (by decide) rfl (t := 9) rfl rfl mw_2_13 dX8_least_70 ?_
      refine lv_aload_n X.1.1 X.1.2.1 dX8_least_73 rfl (lv_at hl 0 rfl) ?_
      refine e_getr X hW (C := RX8) (T := TX8) (N := 11) (j := 9) rfl (by decide) inX8 (by decide) (by decide) rfl (t := 79) rfl rfl mw_2_21 dX8_least_74 ?_
      refine lv_iconst (v := 0) X.1.1 X.1.2.1 dX8_least_77 (by decide) ?_
      refine e_vi (rest := []) (As := [.ref (E.1 9), .ref (E.1 79), .int 0]) X hl.1 hW hS (C := RX1) (T := TX1) (N := 7) rfl (by decide) (ctfX1_endOf X.2.2.2.2 F 79 0 ⟨(by decide), rfl⟩ m6) (cwV (rm := rmX1_endOf) 3 X.1.2.2.2.2 (gd_V mw_2_189 mw_2_190 mw_2_191 mw_1_7 mw_2_192) rfl rfl rfl (by decide +kernel) ⟨Nat.le_of_ble_eq_true rfl, Nat.le_of_ble_eq_true rfl⟩) rfl rfl (Nat.le_of_ble_eq_true rfl) dX8_least_78 ⟨Nat.zero_le _, Nat.zero_le _⟩ hf (fun r8 m7 H locs hf hW hS => ?_)
      refine lv_istore_n (lv' := [(3, .int r8), (0, .ref (E.1 0)), (1, .int y1), (2, .int y2)]) X.1.1 X.1.2.1 dX8_least_81 rfl hl (by decide) rfl (fun ls hl => ?_)
      refine lv_goto (tgt := 91) X.1.1 X.1.2.1 dX8_least_82 (by decide) ?_
      exact wfX8_least_91 X  r8 m7 H locs ls hf hW hS (lv_sub hl [1, 0] rfl)
  · rw [if_pos c32] at hf
    refine lv_aload_n X.1.1 X.1.2.1 dX8_least_35 rfl (lv_at hl 0 rfl) ?_
    refine e_vi (rest := []) (As := []) X hl.1 hW hS (C := RX8) (T := TX8) (N := 11) rfl (by decide) (ctfX8_leastByRings X.2.2.2.2 F μ) (cwV (rm := rmX8_leastByRings) 0 X.1.2.2.2.2 (gd_V mw_3_15 mw_3_17 mw_0_1 mw_1_1 mw_3_18) rfl rfl rfl (by decide +kernel) ⟨Nat.le_of_ble_eq_true rfl, Nat.le_of_ble_eq_true rfl⟩) rfl rfl (Nat.le_of_ble_eq_true rfl) dX8_least_36 ⟨Nat.zero_le _, Nat.zero_le _⟩ hf (fun r10 m9 H locs hf hW hS => ?_)
    exact e_iret X hW hS hf dX8_least_39
set_option maxRecDepth 100000 in
set_option maxHeartbeats 4000000 in
theorem ctfX8_least {l : Launch} {E : Gv} (hD : Do E) (F : Nat) (x1 : Int32) (x2 : Int32)  (μ : Mem) : CtI l yX8_least ((Cond.code yX8_least cX8_least 4 (some .int)) :: GG) rmX8_least E [.ref (E.1 0), .int x1, .int x2] μ (fX8_least F x1 x2 μ) := by
  intro r u hf
  refine of_entry (cc := cX8_least) (maxL := 4) (ret := (some .int)) (by decide +kernel) rfl hD (Nat.le_of_ble_eq_true rfl) (fun p e s m args below meth c X H locs hW hS ls hl => ?_)
  have hl : lv_has ls 4 [(0, .ref (E.1 0)), (1, .int x1), (2, .int x2)] := hl
  unfold fX8_least at hf
  refine lv_iload_n X.1.1 X.1.2.1 dX8_least_0 rfl (lv_at hl 1 rfl) ?_
  refine lv_iload_n X.1.1 X.1.2.1 dX8_least_1 rfl (lv_at hl 2 rfl) ?_
  refine e_si (rest := []) (As := [.int x1, .int x2]) X hl.1 hW hS (ctfX8_isLaw X.2.2.2.2 F x1 x2 μ) (cwS (rm := rmX8_isLaw) 2 X.1.2.2.2.2 (gd_S mw_2_225 mw_2_226 mw_1_1 mw_2_227) rfl rfl rfl (by decide +kernel) ⟨Nat.le_of_ble_eq_true rfl, Nat.le_of_ble_eq_true rfl⟩) rfl rfl (Nat.le_of_ble_eq_true rfl) dX8_least_2 ⟨Nat.zero_le _, Nat.zero_le _⟩ hf (fun r2 m1 H locs hf hW hS => ?_)
  refine lv_if_ne (tgt := 11) X.1.1 X.1.2.1 dX8_least_5 (by decide) (fun c5 => ?_) (fun c5 => ?_)
  · rw [if_neg c5] at hf
    refine lv_iload_n X.1.1 X.1.2.1 dX8_least_11 rfl (lv_at hl 1 rfl) ?_
    refine lv_iconst (v := 2) X.1.1 X.1.2.1 dX8_least_12 (by decide) ?_
    refine lv_icmp_ne (tgt := 31) X.1.1 X.1.2.1 dX8_least_13 (by decide) (fun c13 => ?_) (fun c13 => ?_)
    · rw [if_neg c13] at hf
      exact wfX8_least_31 X  x1 x2 m1 H locs ls hf hW hS (lv_sub hl [0, 1, 2] rfl)
    · rw [if_pos c13] at hf
      refine lv_aload_n X.1.1 X.1.2.1 dX8_least_16 rfl (lv_at hl 0 rfl) ?_
      refine e_getr X hW (C := RX8) (T := TX8) (N := 11) (j := 1) rfl (by decide) inX8 (by decide) (by decide) rfl (t := 9) rfl rfl mw_2_13 dX8_least_17 ?_
      refine e_geti X hW (C := RX3) (T := TX3) (N := 7) (j := 6) rfl (by decide) inX3 (by decide) (by decide) rfl rfl mw_1_72 dX8_least_20 ?_
      refine lv_bipush (v := 7) X.1.1 X.1.2.1 dX8_least_23 (by decide) ?_
      refine lv_icmp_le (tgt := 31) X.1.1 X.1.2.1 dX8_least_25 (by decide) (fun c25 => ?_) (fun c25 => ?_)
      · rw [if_pos c25] at hf
        exact wfX8_least_31 X  x1 x2 m1 H locs ls hf hW hS (lv_sub hl [0, 1, 2] rfl)
      · rw [if_neg c25] at hf
        refine lv_bipush (v := (-4)) X.1.1 X.1.2.1 dX8_least_28 (by decide) ?_
        exact e_iret X hW hS hf dX8_least_30
  · rw [if_pos c5] at hf
    refine lv_bipush (v := (-2)) X.1.1 X.1.2.1 dX8_least_8 (by decide) ?_
    exact e_iret X hW hS hf dX8_least_10
-- OvenHouse.second
def rmX8_second : Room := { frames := 4, cells := 0, slots := 0, locals := 89 }
set_option maxRecDepth 100000 in
set_option maxHeartbeats 4000000 in
theorem ctfX8_second {l : Launch} {E : Gv} (hD : Do E) (F : Nat) (x1 : Int32) (x2 : Int32)  (μ : Mem) : CtI l yX8_second ((Cond.code yX8_second cX8_second 3 (some .int)) :: GG) rmX8_second E [.ref (E.1 0), .int x1, .int x2] μ (fX8_second F x1 x2 μ) := by
  intro r u hf
  refine of_entry (cc := cX8_second) (maxL := 3) (ret := (some .int)) (by decide +kernel) rfl hD (Nat.le_of_ble_eq_true rfl) (fun p e s m args below meth c X H locs hW hS ls hl => ?_)
  have hl : lv_has ls 3 [(0, .ref (E.1 0)), (1, .int x1), (2, .int x2)] := hl
  unfold fX8_second at hf
  refine lv_iload_n X.1.1 X.1.2.1 dX8_second_0 rfl (lv_at hl 1 rfl) ?_
  refine lv_iload_n X.1.1 X.1.2.1 dX8_second_1 rfl (lv_at hl 2 rfl) ?_
  refine e_si (rest := []) (As := [.int x1, .int x2]) X hl.1 hW hS (ctfX8_isLaw X.2.2.2.2 F x1 x2 μ) (cwS (rm := rmX8_isLaw) 2 X.1.2.2.2.2 (gd_S mw_2_225 mw_2_226 mw_1_1 mw_2_227) rfl rfl rfl (by decide +kernel) ⟨Nat.le_of_ble_eq_true rfl, Nat.le_of_ble_eq_true rfl⟩) rfl rfl (Nat.le_of_ble_eq_true rfl) dX8_second_2 ⟨Nat.zero_le _, Nat.zero_le _⟩ hf (fun r2 m1 H locs hf hW hS => ?_)
  refine lv_if_ne (tgt := 11) X.1.1 X.1.2.1 dX8_second_5 (by decide) (fun c5 => ?_) (fun c5 => ?_)
  · rw [if_neg c5] at hf
    refine lv_aload_n X.1.1 X.1.2.1 dX8_second_11 rfl (lv_at hl 0 rfl) ?_
    refine e_getr X hW (C := RX8) (T := TX8) (N := 11) (j := 1) rfl (by decide) inX8 (by decide) (by decide) rfl (t := 9) rfl rfl mw_2_13 dX8_second_12 ?_
    refine e_geti X hW (C := RX3) (T := TX3) (N := 7) (j := 6) rfl (by decide) inX3 (by decide) (by decide) rfl rfl mw_1_72 dX8_second_15 ?_
    refine lv_iconst (v := 2) X.1.1 X.1.2.1 dX8_second_18 (by decide) ?_
    refine lv_icmp_ge (tgt := 24) X.1.1 X.1.2.1 dX8_second_19 (by decide) (fun c19 => ?_) (fun c19 => ?_)
    · rw [if_pos c19] at hf
      refine lv_aload_n X.1.1 X.1.2.1 dX8_second_24 rfl (lv_at hl 0 rfl) ?_
      refine e_getr X hW (C := RX8) (T := TX8) (N := 11) (j := 1) rfl (by decide) inX8 (by decide) (by decide) rfl (t := 9) rfl rfl mw_2_13 dX8_second_25 ?_
      refine e_geti X hW (C := RX3) (T := TX3) (N := 7) (j := 6) rfl (by decide) inX3 (by decide) (by decide) rfl rfl mw_1_72 dX8_second_28 ?_
      refine lv_bipush (v := 7) X.1.1 X.1.2.1 dX8_second_31 (by decide) ?_
      refine lv_icmp_le (tgt := 39) X.1.1 X.1.2.1 dX8_second_33 (by decide) (fun c33 => ?_) (fun c33 => ?_)
      · rw [if_pos c33] at hf
        refine lv_aload_n X.1.1 X.1.2.1 dX8_second_39 rfl (lv_at hl 0 rfl) ?_
        refine e_getr X hW (C := RX8) (T := TX8) (N := 11) (j := 4) rfl (by decide) inX8 (by decide) (by decide) rfl (t := 55) rfl rfl mw_2_16 dX8_second_40 ?_
        refine lv_iload_n X.1.1 X.1.2.1 dX8_second_43 rfl (lv_at hl 1 rfl) ?_
        refine lv_iload_n X.1.1 X.1.2.1 dX8_second_44 rfl (lv_at hl 2 rfl) ?_
        refine e_vv (rest := []) (As := [.int x1, .int x2]) X hl.1 hW hS (C := RX1) (T := TX1) (N := 7) rfl (by decide) (ctfX1_follow X.2.2.2.2 F x1 x2 m1) (cwV (rm := rmX1_follow) 2 X.1.2.2.2.2 (gd_V mw_2_185 mw_2_186 mw_2_187 mw_1_7 mw_2_188) rfl rfl rfl (by decide +kernel) ⟨Nat.le_of_ble_eq_true rfl, Nat.le_of_ble_eq_true rfl⟩) rfl rfl (Nat.le_of_ble_eq_true rfl) dX8_second_45 ⟨Nat.zero_le _, Nat.zero_le _⟩ hf (fun m3 H locs hf hW hS => ?_)
        refine lv_aload_n X.1.1 X.1.2.1 dX8_second_48 rfl (lv_at hl 0 rfl) ?_
        refine lv_iconst (v := 1) X.1.1 X.1.2.1 dX8_second_49 (by decide) ?_
        refine e_vi (rest := []) (As := [.int 1]) X hl.1 hW hS (C := RX8) (T := TX8) (N := 11) rfl (by decide) (ctfX8_leastOfAllRows X.2.2.2.2 F 1 m3) (cwV (rm := rmX8_leastOfAllRows) 1 X.1.2.2.2.2 (gd_V mw_3_78 mw_3_80 mw_0_10 mw_1_1 mw_3_81) rfl rfl rfl (by decide +kernel) ⟨Nat.le_of_ble_eq_true rfl, Nat.le_of_ble_eq_true rfl⟩) rfl rfl (Nat.le_of_ble_eq_true rfl) dX8_second_50 ⟨Nat.zero_le _, Nat.zero_le _⟩ hf (fun r5 m4 H locs hf hW hS => ?_)
        exact e_iret X hW hS hf dX8_second_53
      · rw [if_neg c33] at hf
        refine lv_bipush (v := (-4)) X.1.1 X.1.2.1 dX8_second_36 (by decide) ?_
        exact e_iret X hW hS hf dX8_second_38
    · rw [if_neg c19] at hf
      refine lv_iconst (v := (-1)) X.1.1 X.1.2.1 dX8_second_22 (by decide) ?_
      exact e_iret X hW hS hf dX8_second_23
  · rw [if_pos c5] at hf
    refine lv_bipush (v := (-2)) X.1.1 X.1.2.1 dX8_second_8 (by decide) ?_
    exact e_iret X hW hS hf dX8_second_10
-- OvenHouse.passOfNeighbours
def rmX8_passOfNeighbours : Room := { frames := 3, cells := 0, slots := 0, locals := 64 }
set_option maxRecDepth 100000 in
set_option maxHeartbeats 4000000 in
theorem wfX8_passOfNeighbours_24_b {p : Program} {l : Launch} {e : Env} {s : State} {m : MethodId} {args : Array Value} {below : List Frame} {meth : Method} {c : Code} {E : Gv} {F : Nat}  {r : Int32} {u : Mem} (X : Fx p m c cX8_passOfNeighbours 5 s args (Cond.code yX8_passOfNeighbours cX8_passOfNeighbours 5 (some .int)) "OvenHouse" meth (some .int) E)  (rec24 : Int32 → Int32 → Int32 → Mem → Option (Int32 × Mem)) (hrec24 : ∀ (y1 : Int32) (y2 : Int32) (y3 : Int32) (μ : Mem) (H : Heap) (locs : List Loc) (ls : Array Slot), rec24 y1 y2 y3 μ = some (r, u) → Wo E μ H → va_S (AE E) s.heap H locs → lv_has ls 5 [(0, .ref (E.1 0)), (1, .int y1), (2, .int y2), (3, .int y3)] → W0 p l e rmX8_passOfNeighbours s m args below meth c H locs (QcI E r u) E (F0 m 24 ls [])) (y1 : Int32) (y2 : Int32) (y3 : Int32) (μ : Mem) (H : Heap) (locs : List Loc) (ls : Array Slot) (hf : fX8_passOfNeighbours_24_b F  rec24 y1 y2 y3 μ = some (r, u)) (hW : Wo E μ H) (hS : va_S (AE E) s.heap H locs) (hl : lv_has ls 5 [(0, .ref (E.1 0)), (1, .int y1), (2, .int y2), (3, .int y3)]) : W0 p l e rmX8_passOfNeighbours s m args below meth c H locs (QcI E r u) E (F0 m 24 ls []) := by
  unfold fX8_passOfNeighbours_24_b at hf
  refine lv_iload_n X.1.1 X.1.2.1 dX8_passOfNeighbours_24 rfl (lv_at hl 3 rfl) ?_
  refine lv_iconst (v := 1) X.1.1 X.1.2.1 dX8_passOfNeighbours_25 (by decide) ?_
  refine lv_iadd X.1.1 X.1.2.1 dX8_passOfNeighbours_26 ?_
  refine lv_aload_n X.1.1 X.1.2.1 dX8_passOfNeighbours_27 rfl (lv_at hl 0 rfl) ?_
  refine e_getr X hW (C := RX8) (T := TX8) (N := 11) (j := 1) rfl (by decide) inX8 (by decide) (by decide) rfl (t := 9) rfl rfl mw_2_13 dX8_passOfNeighbours_28 ?_
  refine e_geti X hW (C := RX3) (T := TX3) (N := 7) (j := 6) rfl (by decide) inX3 (by decide) (by decide) rfl rfl mw_1_72 dX8_passOfNeighbours_31 ?_
  refine lv_icmp_ge (tgt := 113) X.1.1 X.1.2.1 dX8_passOfNeighbours_34 (by decide) (fun c34 => ?_) (fun c34 => ?_)
  · rw [if_pos c34] at hf
    refine lv_iload_n X.1.1 X.1.2.1 dX8_passOfNeighbours_113 rfl (lv_at hl 1 rfl) ?_
    exact e_iret X hW hS hf dX8_passOfNeighbours_114
  · rw [if_neg c34] at hf
    refine lv_aload_n X.1.1 X.1.2.1 dX8_passOfNeighbours_37 rfl (lv_at hl 0 rfl) ?_
    refine e_getr X hW (C := RX8) (T := TX8) (N := 11) (j := 1) rfl (by decide) inX8 (by decide) (by decide) rfl (t := 9) rfl rfl mw_2_13 dX8_passOfNeighbours_38 ?_
    refine e_getr X hW (C := RX3) (T := TX3) (N := 7) (j := 4) rfl (by decide) inX3 (by decide) (by decide) rfl (t := 14) rfl rfl mw_1_68 dX8_passOfNeighbours_41 ?_
    refine lv_iload_n X.1.1 X.1.2.1 dX8_passOfNeighbours_44 rfl (lv_at hl 3 rfl) ?_
    refine lv_iload_n X.1.1 X.1.2.1 dX8_passOfNeighbours_45 rfl (lv_at hl 3 rfl) ?_
    refine lv_iconst (v := 1) X.1.1 X.1.2.1 dX8_passOfNeighbours_46 (by decide) ?_
    refine lv_iadd X.1.1 X.1.2.1 dX8_passOfNeighbours_47 ?_
    refine e_sv (rest := []) (As := [.ref (E.1 14), .int y3, .int (y3 + 1)]) X hl.1 hW hS (ctfX8_exchange X.2.2.2.2 F 14 y3 (y3 + 1) ⟨(by decide), rfl⟩ μ) (cwS (rm := rmX8_exchange) 3 X.1.2.2.2.2 (gd_S mw_2_170 mw_2_171 mw_1_1 mw_2_172) rfl rfl rfl (by decide +kernel) ⟨Nat.le_of_ble_eq_true rfl, Nat.le_of_ble_eq_true rfl⟩) rfl rfl (Nat.le_of_ble_eq_true rfl) dX8_passOfNeighbours_48 ⟨Nat.zero_le _, Nat.zero_le _⟩ hf (fun m3 H locs hf hW hS => ?_)
    refine lv_aload_n X.1.1 X.1.2.1 dX8_passOfNeighbours_51 rfl (lv_at hl 0 rfl) ?_
    refine e_getr X hW (C := RX8) (T := TX8) (N := 11) (j := 4) rfl (by decide) inX8 (by decide) (by decide) rfl (t := 55) rfl rfl mw_2_16 dX8_passOfNeighbours_52 ?_
    refine lv_aload_n X.1.1 X.1.2.1 dX8_passOfNeighbours_55 rfl (lv_at hl 0 rfl) ?_
    refine e_getr X hW (C := RX8) (T := TX8) (N := 11) (j := 1) rfl (by decide) inX8 (by decide) (by decide) rfl (t := 9) rfl rfl mw_2_13 dX8_passOfNeighbours_56 ?_
    refine lv_aload_n X.1.1 X.1.2.1 dX8_passOfNeighbours_59 rfl (lv_at hl 0 rfl) ?_
    refine e_getr X hW (C := RX8) (T := TX8) (N := 11) (j := 1) rfl (by decide) inX8 (by decide) (by decide) rfl (t := 9) rfl rfl mw_2_13 dX8_passOfNeighbours_60 ?_
    refine e_getr X hW (C := RX3) (T := TX3) (N := 7) (j := 4) rfl (by decide) inX3 (by decide) (by decide) rfl (t := 14) rfl rfl mw_1_68 dX8_passOfNeighbours_63 ?_
    refine lv_iconst (v := 0) X.1.1 X.1.2.1 dX8_passOfNeighbours_66 (by decide) ?_
    refine lv_iload_n X.1.1 X.1.2.1 dX8_passOfNeighbours_67 rfl (lv_at hl 3 rfl) ?_
    refine lv_iconst (v := 1) X.1.1 X.1.2.1 dX8_passOfNeighbours_68 (by decide) ?_
    refine lv_isub X.1.1 X.1.2.1 dX8_passOfNeighbours_69 ?_
    refine e_max X hl.1 mw_3_10 mw_2_198 mw_1_13 mw_2_199 ⟨Nat.le_of_ble_eq_true rfl, Nat.le_of_ble_eq_true rfl⟩ ⟨Nat.zero_le _, Nat.zero_le _⟩ dX8_passOfNeighbours_70 ?_
    refine e_vi (rest := []) (As := [.ref (E.1 9), .ref (E.1 14), .int (imax 0 (y3 - 1))]) X hl.1 hW hS (C := RX1) (T := TX1) (N := 7) rfl (by decide) (ctfX1_endOf X.2.2.2.2 F 14 (imax 0 (y3 - 1)) ⟨(by decide), rfl⟩ m3) (cwV (rm := rmX1_endOf) 3 X.1.2.2.2.2 (gd_V mw_2_189 mw_2_190 mw_2_191 mw_1_7 mw_2_192) rfl rfl rfl (by decide +kernel) ⟨Nat.le_of_ble_eq_true rfl, Nat.le_of_ble_eq_true rfl⟩) rfl rfl (Nat.le_of_ble_eq_true rfl) dX8_passOfNeighbours_73 ⟨Nat.zero_le _, Nat.zero_le _⟩ hf (fun r5 m4 H locs hf hW hS => ?_)
    refine lv_istore (lv' := [(4, .int r5), (0, .ref (E.1 0)), (1, .int y1), (2, .int y2), (3, .int y3)]) X.1.1 X.1.2.1 dX8_passOfNeighbours_76 hl (by decide) rfl (fun ls hl => ?_)
    refine lv_iload X.1.1 X.1.2.1 dX8_passOfNeighbours_78 (lv_at hl 0 rfl) ?_
    refine lv_iload_n X.1.1 X.1.2.1 dX8_passOfNeighbours_80 rfl (lv_at hl 3 rfl) ?_
    refine lv_icmp_ge (tgt := 93) X.1.1 X.1.2.1 dX8_passOfNeighbours_81 (by decide) (fun c81 => ?_) (fun c81 => ?_)
    · rw [if_pos c81] at hf
      refine lv_aload_n X.1.1 X.1.2.1 dX8_passOfNeighbours_93 rfl (lv_at hl 1 rfl) ?_
      refine e_getr X hW (C := RX8) (T := TX8) (N := 11) (j := 1) rfl (by decide) inX8 (by decide) (by decide) rfl (t := 9) rfl rfl mw_2_13 dX8_passOfNeighbours_94 ?_
      refine e_getr X hW (C := RX3) (T := TX3) (N := 7) (j := 4) rfl (by decide) inX3 (by decide) (by decide) rfl (t := 14) rfl rfl mw_1_68 dX8_passOfNeighbours_97 ?_
      refine lv_iload_n X.1.1 X.1.2.1 dX8_passOfNeighbours_100 rfl (lv_at hl 4 rfl) ?_
      refine lv_iload_n X.1.1 X.1.2.1 dX8_passOfNeighbours_101 rfl (lv_at hl 4 rfl) ?_
      refine lv_iconst (v := 1) X.1.1 X.1.2.1 dX8_passOfNeighbours_102 (by decide) ?_
      refine lv_iadd X.1.1 X.1.2.1 dX8_passOfNeighbours_103 ?_
      refine e_sv (rest := []) (As := [.ref (E.1 14), .int y3, .int (y3 + 1)]) X hl.1 hW hS (ctfX8_exchange X.2.2.2.2 F 14 y3 (y3 + 1) ⟨(by decide), rfl⟩ m4) (cwS (rm := rmX8_exchange) 3 X.1.2.2.2.2 (gd_S mw_2_170 mw_2_171 mw_1_1 mw_2_172) rfl rfl rfl (by decide +kernel) ⟨Nat.le_of_ble_eq_true rfl, Nat.le_of_ble_eq_true rfl⟩) rfl rfl (Nat.le_of_ble_eq_true rfl) dX8_passOfNeighbours_104 ⟨Nat.zero_le _, Nat.zero_le _⟩ hf (fun m6 H locs hf hW hS => ?_)
      refine lv_iinc (v := (y3 + 1)) (lv' := [(3, .int (y3 + 1)), (4, .int r5), (0, .ref (E.1 0)), (1, .int y1), (2, .int y2)]) X.1.1 X.1.2.1 dX8_passOfNeighbours_107 hl (k := 4) rfl rfl (by decide) rfl (fun ls hl => ?_)
      refine lv_goto (tgt := 24) X.1.1 X.1.2.1 dX8_passOfNeighbours_110 (by decide) ?_
      exact hrec24 y1 y2 (y3 + 1) m6 H locs ls hf hW hS (lv_sub hl [2, 3, 4, 0] rfl)
    · rw [if_neg c81] at hf
      refine lv_iload X.1.1 X.1.2.1 dX8_passOfNeighbours_84 (lv_at hl 0 rfl) ?_
      refine lv_istore_n (lv' := [(2, .int r5), (4, .int r5), (0, .ref (E.1 0)), (1, .int y1), (3, .int y3)]) X.1.1 X.1.2.1 dX8_passOfNeighbours_86 rfl hl (by decide) rfl (fun ls hl => ?_)
      refine lv_iinc (v := (y1 + 1)) (lv' := [(1, .int (y1 + 1)), (2, .int r5), (4, .int r5), (0, .ref (E.1 0)), (3, .int y3)]) X.1.1 X.1.2.1 dX8_passOfNeighbours_87 hl (k := 3) rfl rfl (by decide) rfl (fun ls hl => ?_)
      refine lv_goto (tgt := 107) X.1.1 X.1.2.1 dX8_passOfNeighbours_90 (by decide) ?_
      refine lv_iinc (v := (y3 + 1)) (lv' := [(3, .int (y3 + 1)), (1, .int (y1 + 1)), (2, .int r5), (4, .int r5), (0, .ref (E.1 0))]) X.1.1 X.1.2.1 dX8_passOfNeighbours_107 hl (k := 4) rfl rfl (by decide) rfl (fun ls hl => ?_)
      refine lv_goto (tgt := 24) X.1.1 X.1.2.1 dX8_passOfNeighbours_110 (by decide) ?_
      exact hrec24 (y1 + 1) r5 (y3 + 1) m4 H locs ls hf hW hS (lv_sub hl [4, 1, 2, 0] rfl)
theorem wfX8_passOfNeighbours_24 {p : Program} {l : Launch} {e : Env} {s : State} {m : MethodId} {args : Array Value} {below : List Frame} {meth : Method} {c : Code} {E : Gv} {F : Nat}  {r : Int32} {u : Mem} (X : Fx p m c cX8_passOfNeighbours 5 s args (Cond.code yX8_passOfNeighbours cX8_passOfNeighbours 5 (some .int)) "OvenHouse" meth (some .int) E)  (n : Nat) : ∀ (y1 : Int32) (y2 : Int32) (y3 : Int32) (μ : Mem) (H : Heap) (locs : List Loc) (ls : Array Slot) (_ : fX8_passOfNeighbours_24 F   n y1 y2 y3 μ = some (r, u)) (_ : Wo E μ H) (_ : va_S (AE E) s.heap H locs) (_ : lv_has ls 5 [(0, .ref (E.1 0)), (1, .int y1), (2, .int y2), (3, .int y3)]), W0 p l e rmX8_passOfNeighbours s m args below meth c H locs (QcI E r u) E (F0 m 24 ls []) := by
  induction n with
  | zero => intro y1 y2 y3 μ H locs ls hf hW hS hl; cases hf
  | succ n ih => intro y1 y2 y3 μ H locs ls hf hW hS hl; exact wfX8_passOfNeighbours_24_b X  _ ih y1 y2 y3 μ H locs ls hf hW hS hl
set_option maxRecDepth 100000 in
set_option maxHeartbeats 4000000 in
theorem ctfX8_passOfNeighbours {l : Launch} {E : Gv} (hD : Do E) (F : Nat)  (μ : Mem) : CtI l yX8_passOfNeighbours ((Cond.code yX8_passOfNeighbours cX8_passOfNeighbours 5 (some .int)) :: GG) rmX8_passOfNeighbours E [.ref (E.1 0)] μ (fX8_passOfNeighbours F μ) := by
  intro r u hf
  refine of_entry (cc := cX8_passOfNeighbours) (maxL := 5) (ret := (some .int)) (by decide +kernel) rfl hD (Nat.le_of_ble_eq_true rfl) (fun p e s m args below meth c X H locs hW hS ls hl => ?_)
  have hl : lv_has ls 5 [(0, .ref (E.1 0))] := hl
  unfold fX8_passOfNeighbours at hf
  refine lv_iconst (v := 0) X.1.1 X.1.2.1 dX8_passOfNeighbours_0 (by decide) ?_
  refine lv_istore_n (lv' := [(1, .int 0), (0, .ref (E.1 0))]) X.1.1 X.1.2.1 dX8_passOfNeighbours_1 rfl hl (by decide) rfl (fun ls hl => ?_)
  refine lv_aload_n X.1.1 X.1.2.1 dX8_passOfNeighbours_2 rfl (lv_at hl 1 rfl) ?_
  refine e_getr X hW (C := RX8) (T := TX8) (N := 11) (j := 4) rfl (by decide) inX8 (by decide) (by decide) rfl (t := 55) rfl rfl mw_2_16 dX8_passOfNeighbours_3 ?_
  refine lv_aload_n X.1.1 X.1.2.1 dX8_passOfNeighbours_6 rfl (lv_at hl 1 rfl) ?_
  refine e_getr X hW (C := RX8) (T := TX8) (N := 11) (j := 1) rfl (by decide) inX8 (by decide) (by decide) rfl (t := 9) rfl rfl mw_2_13 dX8_passOfNeighbours_7 ?_
  refine lv_aload_n X.1.1 X.1.2.1 dX8_passOfNeighbours_10 rfl (lv_at hl 1 rfl) ?_
  refine e_getr X hW (C := RX8) (T := TX8) (N := 11) (j := 1) rfl (by decide) inX8 (by decide) (by decide) rfl (t := 9) rfl rfl mw_2_13 dX8_passOfNeighbours_11 ?_
  refine e_getr X hW (C := RX3) (T := TX3) (N := 7) (j := 4) rfl (by decide) inX3 (by decide) (by decide) rfl (t := 14) rfl rfl mw_1_68 dX8_passOfNeighbours_14 ?_
  refine lv_iconst (v := 0) X.1.1 X.1.2.1 dX8_passOfNeighbours_17 (by decide) ?_
  refine e_vi (rest := []) (As := [.ref (E.1 9), .ref (E.1 14), .int 0]) X hl.1 hW hS (C := RX1) (T := TX1) (N := 7) rfl (by decide) (ctfX1_endOf X.2.2.2.2 F 14 0 ⟨(by decide), rfl⟩ μ) (cwV (rm := rmX1_endOf) 3 X.1.2.2.2.2 (gd_V mw_2_189 mw_2_190 mw_2_191 mw_1_7 mw_2_192) rfl rfl rfl (by decide +kernel) ⟨Nat.le_of_ble_eq_true rfl, Nat.le_of_ble_eq_true rfl⟩) rfl rfl (Nat.le_of_ble_eq_true rfl) dX8_passOfNeighbours_18 ⟨Nat.zero_le _, Nat.zero_le _⟩ hf (fun r2 m1 H locs hf hW hS => ?_)
  refine lv_istore_n (lv' := [(2, .int r2), (1, .int 0), (0, .ref (E.1 0))]) X.1.1 X.1.2.1 dX8_passOfNeighbours_21 rfl hl (by decide) rfl (fun ls hl => ?_)
  refine lv_iconst (v := 0) X.1.1 X.1.2.1 dX8_passOfNeighbours_22 (by decide) ?_
  refine lv_istore_n (lv' := [(3, .int 0), (2, .int r2), (1, .int 0), (0, .ref (E.1 0))]) X.1.1 X.1.2.1 dX8_passOfNeighbours_23 rfl hl (by decide) rfl (fun ls hl => ?_)
  exact wfX8_passOfNeighbours_24 X  F 0 r2 0 m1 H locs ls hf hW hS (lv_sub hl [3, 2, 1, 0] rfl)
-- OvenHouse.better
def rmX8_better : Room := { frames := 4, cells := 0, slots := 0, locals := 88 }
set_option maxRecDepth 100000 in
set_option maxHeartbeats 4000000 in
theorem wfX8_better_39_b {p : Program} {l : Launch} {e : Env} {s : State} {m : MethodId} {args : Array Value} {below : List Frame} {meth : Method} {c : Code} {E : Gv} {F : Nat}  {r : Int32} {u : Mem} (X : Fx p m c cX8_better 6 s args (Cond.code yX8_better cX8_better 6 (some .int)) "OvenHouse" meth (some .int) E)  (rec39 : Int32 → Int32 → Int32 → Mem → Option (Int32 × Mem)) (hrec39 : ∀ (y3 : Int32) (y4 : Int32) (y5 : Int32) (μ : Mem) (H : Heap) (locs : List Loc) (ls : Array Slot), rec39 y3 y4 y5 μ = some (r, u) → Wo E μ H → va_S (AE E) s.heap H locs → lv_has ls 6 [(0, .ref (E.1 0)), (3, .int y3), (4, .int y4), (5, .int y5)] → W0 p l e rmX8_better s m args below meth c H locs (QcI E r u) E (F0 m 39 ls [])) (y3 : Int32) (y4 : Int32) (y5 : Int32) (μ : Mem) (H : Heap) (locs : List Loc) (ls : Array Slot) (hf : fX8_better_39_b F  rec39 y3 y4 y5 μ = some (r, u)) (hW : Wo E μ H) (hS : va_S (AE E) s.heap H locs) (hl : lv_has ls 6 [(0, .ref (E.1 0)), (3, .int y3), (4, .int y4), (5, .int y5)]) : W0 p l e rmX8_better s m args below meth c H locs (QcI E r u) E (F0 m 39 ls []) := by
  unfold fX8_better_39_b at hf
  refine lv_iload X.1.1 X.1.2.1 dX8_better_39 (lv_at hl 3 rfl) ?_
  refine lv_ldc X.1.1 X.1.2.1 X.1.2.2.2.1 (X.1.2.2.2.2 _ (List.mem_cons_of_mem _ mw_3_104)) dX8_better_41 ?_
  refine lv_icmp_ge (tgt := 68) X.1.1 X.1.2.1 dX8_better_43 (by decide) (fun c43 => ?_) (fun c43 => ?_)
  · rw [if_pos c43] at hf
    refine lv_iload_n X.1.1 X.1.2.1 dX8_better_68 rfl (lv_at hl 1 rfl) ?_
    exact e_iret X hW hS hf dX8_better_69
  · rw [if_neg c43] at hf
    refine lv_iload X.1.1 X.1.2.1 dX8_better_46 (lv_at hl 2 rfl) ?_
    refine lv_if_le (tgt := 68) X.1.1 X.1.2.1 dX8_better_48 (by decide) (fun c48 => ?_) (fun c48 => ?_)
    · rw [if_pos c48] at hf
      refine lv_iload_n X.1.1 X.1.2.1 dX8_better_68 rfl (lv_at hl 1 rfl) ?_
      exact e_iret X hW hS hf dX8_better_69
    · rw [if_neg c48] at hf
      refine lv_aload_n X.1.1 X.1.2.1 dX8_better_51 rfl (lv_at hl 0 rfl) ?_
      refine e_vi (rest := []) (As := []) X hl.1 hW hS (C := RX8) (T := TX8) (N := 11) rfl (by decide) (ctfX8_passOfNeighbours X.2.2.2.2 F μ) (cwV (rm := rmX8_passOfNeighbours) 0 X.1.2.2.2.2 (gd_V mw_3_105 mw_3_107 mw_0_11 mw_1_1 mw_3_108) rfl rfl rfl (by decide +kernel) ⟨Nat.le_of_ble_eq_true rfl, Nat.le_of_ble_eq_true rfl⟩) rfl rfl (Nat.le_of_ble_eq_true rfl) dX8_better_52 ⟨Nat.zero_le _, Nat.zero_le _⟩ hf (fun r6 m5 H locs hf hW hS => ?_)
      refine lv_istore (lv' := [(4, .int r6), (0, .ref (E.1 0)), (3, .int y3), (5, .int y5)]) X.1.1 X.1.2.1 dX8_better_55 hl (by decide) rfl (fun ls hl => ?_)
      refine lv_iload_n X.1.1 X.1.2.1 dX8_better_57 rfl (lv_at hl 2 rfl) ?_
      refine lv_iload X.1.1 X.1.2.1 dX8_better_58 (lv_at hl 0 rfl) ?_
      refine lv_iadd X.1.1 X.1.2.1 dX8_better_60 ?_
      refine lv_istore_n (lv' := [(3, .int (y3 + r6)), (4, .int r6), (0, .ref (E.1 0)), (5, .int y5)]) X.1.1 X.1.2.1 dX8_better_61 rfl hl (by decide) rfl (fun ls hl => ?_)
      refine lv_iinc (v := (y5 + 1)) (lv' := [(5, .int (y5 + 1)), (3, .int (y3 + r6)), (4, .int r6), (0, .ref (E.1 0))]) X.1.1 X.1.2.1 dX8_better_62 hl (k := 3) rfl rfl (by decide) rfl (fun ls hl => ?_)
      refine lv_goto (tgt := 39) X.1.1 X.1.2.1 dX8_better_65 (by decide) ?_
      exact hrec39 (y3 + r6) r6 (y5 + 1) m5 H locs ls hf hW hS (lv_sub hl [3, 1, 2, 0] rfl)
theorem wfX8_better_39 {p : Program} {l : Launch} {e : Env} {s : State} {m : MethodId} {args : Array Value} {below : List Frame} {meth : Method} {c : Code} {E : Gv} {F : Nat}  {r : Int32} {u : Mem} (X : Fx p m c cX8_better 6 s args (Cond.code yX8_better cX8_better 6 (some .int)) "OvenHouse" meth (some .int) E)  (n : Nat) : ∀ (y3 : Int32) (y4 : Int32) (y5 : Int32) (μ : Mem) (H : Heap) (locs : List Loc) (ls : Array Slot) (_ : fX8_better_39 F   n y3 y4 y5 μ = some (r, u)) (_ : Wo E μ H) (_ : va_S (AE E) s.heap H locs) (_ : lv_has ls 6 [(0, .ref (E.1 0)), (3, .int y3), (4, .int y4), (5, .int y5)]), W0 p l e rmX8_better s m args below meth c H locs (QcI E r u) E (F0 m 39 ls []) := by
  induction n with
  | zero => intro y3 y4 y5 μ H locs ls hf hW hS hl; cases hf
  | succ n ih => intro y3 y4 y5 μ H locs ls hf hW hS hl; exact wfX8_better_39_b X  _ ih y3 y4 y5 μ H locs ls hf hW hS hl
set_option maxRecDepth 100000 in
set_option maxHeartbeats 4000000 in
theorem ctfX8_better {l : Launch} {E : Gv} (hD : Do E) (F : Nat) (x1 : Int32) (x2 : Int32)  (μ : Mem) : CtI l yX8_better ((Cond.code yX8_better cX8_better 6 (some .int)) :: GG) rmX8_better E [.ref (E.1 0), .int x1, .int x2] μ (fX8_better F x1 x2 μ) := by
  intro r u hf
  refine of_entry (cc := cX8_better) (maxL := 6) (ret := (some .int)) (by decide +kernel) rfl hD (Nat.le_of_ble_eq_true rfl) (fun p e s m args below meth c X H locs hW hS ls hl => ?_)
  have hl : lv_has ls 6 [(0, .ref (E.1 0)), (1, .int x1), (2, .int x2)] := hl
  unfold fX8_better at hf
  refine lv_iload_n X.1.1 X.1.2.1 dX8_better_0 rfl (lv_at hl 1 rfl) ?_
  refine lv_iload_n X.1.1 X.1.2.1 dX8_better_1 rfl (lv_at hl 2 rfl) ?_
  refine e_si (rest := []) (As := [.int x1, .int x2]) X hl.1 hW hS (ctfX8_isLaw X.2.2.2.2 F x1 x2 μ) (cwS (rm := rmX8_isLaw) 2 X.1.2.2.2.2 (gd_S mw_2_225 mw_2_226 mw_1_1 mw_2_227) rfl rfl rfl (by decide +kernel) ⟨Nat.le_of_ble_eq_true rfl, Nat.le_of_ble_eq_true rfl⟩) rfl rfl (Nat.le_of_ble_eq_true rfl) dX8_better_2 ⟨Nat.zero_le _, Nat.zero_le _⟩ hf (fun r2 m1 H locs hf hW hS => ?_)
  refine lv_if_ne (tgt := 11) X.1.1 X.1.2.1 dX8_better_5 (by decide) (fun c5 => ?_) (fun c5 => ?_)
  · rw [if_neg c5] at hf
    refine lv_aload_n X.1.1 X.1.2.1 dX8_better_11 rfl (lv_at hl 0 rfl) ?_
    refine e_getr X hW (C := RX8) (T := TX8) (N := 11) (j := 2) rfl (by decide) inX8 (by decide) (by decide) rfl (t := 16) rfl rfl mw_2_14 dX8_better_12 ?_
    refine lv_aload_n X.1.1 X.1.2.1 dX8_better_15 rfl (lv_at hl 0 rfl) ?_
    refine e_getr X hW (C := RX8) (T := TX8) (N := 11) (j := 1) rfl (by decide) inX8 (by decide) (by decide) rfl (t := 9) rfl rfl mw_2_13 dX8_better_16 ?_
    refine e_vv (rest := []) (As := [.ref (E.1 9)]) X hl.1 hW hS (C := RX2) (T := TX2) (N := 3) rfl (by decide) (ctfX2_keep X.2.2.2.2 F m1) (cwV (rm := rmX2_keep) 1 X.1.2.2.2.2 (gd_V mw_2_112 mw_2_113 mw_2_114 mw_1_5 mw_2_115) rfl rfl rfl (by decide +kernel) ⟨Nat.le_of_ble_eq_true rfl, Nat.le_of_ble_eq_true rfl⟩) rfl rfl (Nat.le_of_ble_eq_true rfl) dX8_better_19 ⟨Nat.zero_le _, Nat.zero_le _⟩ hf (fun m3 H locs hf hW hS => ?_)
    refine lv_aload_n X.1.1 X.1.2.1 dX8_better_22 rfl (lv_at hl 0 rfl) ?_
    refine e_getr X hW (C := RX8) (T := TX8) (N := 11) (j := 4) rfl (by decide) inX8 (by decide) (by decide) rfl (t := 55) rfl rfl mw_2_16 dX8_better_23 ?_
    refine lv_iload_n X.1.1 X.1.2.1 dX8_better_26 rfl (lv_at hl 1 rfl) ?_
    refine lv_iload_n X.1.1 X.1.2.1 dX8_better_27 rfl (lv_at hl 2 rfl) ?_
    refine e_vv (rest := []) (As := [.int x1, .int x2]) X hl.1 hW hS (C := RX1) (T := TX1) (N := 7) rfl (by decide) (ctfX1_follow X.2.2.2.2 F x1 x2 m3) (cwV (rm := rmX1_follow) 2 X.1.2.2.2.2 (gd_V mw_2_185 mw_2_186 mw_2_187 mw_1_7 mw_2_188) rfl rfl rfl (by decide +kernel) ⟨Nat.le_of_ble_eq_true rfl, Nat.le_of_ble_eq_true rfl⟩) rfl rfl (Nat.le_of_ble_eq_true rfl) dX8_better_28 ⟨Nat.zero_le _, Nat.zero_le _⟩ hf (fun m4 H locs hf hW hS => ?_)
    refine lv_iconst (v := 0) X.1.1 X.1.2.1 dX8_better_31 (by decide) ?_
    refine lv_istore_n (lv' := [(3, .int 0), (0, .ref (E.1 0)), (1, .int x1), (2, .int x2)]) X.1.1 X.1.2.1 dX8_better_32 rfl hl (by decide) rfl (fun ls hl => ?_)
    refine lv_iconst (v := 1) X.1.1 X.1.2.1 dX8_better_33 (by decide) ?_
    refine lv_istore (lv' := [(4, .int 1), (3, .int 0), (0, .ref (E.1 0)), (1, .int x1), (2, .int x2)]) X.1.1 X.1.2.1 dX8_better_34 hl (by decide) rfl (fun ls hl => ?_)
    refine lv_iconst (v := 0) X.1.1 X.1.2.1 dX8_better_36 (by decide) ?_
    refine lv_istore (lv' := [(5, .int 0), (4, .int 1), (3, .int 0), (0, .ref (E.1 0)), (1, .int x1), (2, .int x2)]) X.1.1 X.1.2.1 dX8_better_37 hl (by decide) rfl (fun ls hl => ?_)
    exact wfX8_better_39 X  F 0 1 0 m4 H locs ls hf hW hS (lv_sub hl [3, 2, 1, 0] rfl)
  · rw [if_pos c5] at hf
    refine lv_bipush (v := (-2)) X.1.1 X.1.2.1 dX8_better_8 (by decide) ?_
    exact e_iret X hW hS hf dX8_better_10
-- OvenHouse.best
def rmX8_best : Room := { frames := 0, cells := 0, slots := 0, locals := 0 }
set_option maxRecDepth 100000 in
set_option maxHeartbeats 4000000 in
theorem ctfX8_best {l : Launch} {E : Gv} (hD : Do E) (F : Nat) (x1 : Int32)  (μ : Mem) : CtI l yX8_best ((Cond.code yX8_best cX8_best 2 (some .int)) :: GG) rmX8_best E [.ref (E.1 0), .int x1] μ (fX8_best F x1 μ) := by
  intro r u hf
  refine of_entry (cc := cX8_best) (maxL := 2) (ret := (some .int)) (by decide +kernel) rfl hD (Nat.le_of_ble_eq_true rfl) (fun p e s m args below meth c X H locs hW hS ls hl => ?_)
  have hl : lv_has ls 2 [(0, .ref (E.1 0)), (1, .int x1)] := hl
  unfold fX8_best at hf
  refine lv_iload_n X.1.1 X.1.2.1 dX8_best_0 rfl (lv_at hl 1 rfl) ?_
  refine lv_if_lt (tgt := 27) X.1.1 X.1.2.1 dX8_best_1 (by decide) (fun c1 => ?_) (fun c1 => ?_)
  · rw [if_pos c1] at hf
    refine lv_iconst (v := (-1)) X.1.1 X.1.2.1 dX8_best_27 (by decide) ?_
    exact e_iret X hW hS hf dX8_best_28
  · rw [if_neg c1] at hf
    refine lv_iload_n X.1.1 X.1.2.1 dX8_best_4 rfl (lv_at hl 1 rfl) ?_
    refine lv_aload_n X.1.1 X.1.2.1 dX8_best_5 rfl (lv_at hl 0 rfl) ?_
    refine e_getr X hW (C := RX8) (T := TX8) (N := 11) (j := 3) rfl (by decide) inX8 (by decide) (by decide) rfl (t := 53) rfl rfl mw_2_15 dX8_best_6 ?_
    refine e_geti X hW (C := RX0) (T := TX0) (N := 3) (j := 1) rfl (by decide) inX0 (by decide) (by decide) rfl rfl mw_1_117 dX8_best_9 ?_
    refine lv_icmp_ge (tgt := 27) X.1.1 X.1.2.1 dX8_best_12 (by decide) (fun c12 => ?_) (fun c12 => ?_)
    · rw [if_pos c12] at hf
      refine lv_iconst (v := (-1)) X.1.1 X.1.2.1 dX8_best_27 (by decide) ?_
      exact e_iret X hW hS hf dX8_best_28
    · rw [if_neg c12] at hf
      refine lv_aload_n X.1.1 X.1.2.1 dX8_best_15 rfl (lv_at hl 0 rfl) ?_
      refine e_getr X hW (C := RX8) (T := TX8) (N := 11) (j := 3) rfl (by decide) inX8 (by decide) (by decide) rfl (t := 53) rfl rfl mw_2_15 dX8_best_16 ?_
      refine e_getr X hW (C := RX0) (T := TX0) (N := 3) (j := 0) rfl (by decide) inX0 (by decide) (by decide) rfl (t := 54) rfl rfl mw_1_115 dX8_best_19 ?_
      refine lv_iload_n X.1.1 X.1.2.1 dX8_best_22 rfl (lv_at hl 1 rfl) ?_
      refine e_ild X hW (by decide) rfl dX8_best_23 hf (fun v1 hf => ?_)
      refine lv_goto (tgt := 28) X.1.1 X.1.2.1 dX8_best_24 (by decide) ?_
      exact e_iret X hW hS hf dX8_best_28
-- OvenHouse.rings
def rmX8_rings : Room := { frames := 0, cells := 0, slots := 0, locals := 0 }
set_option maxRecDepth 100000 in
set_option maxHeartbeats 4000000 in
theorem ctfX8_rings {l : Launch} {E : Gv} (hD : Do E) (F : Nat) (x1 : Int32)  (μ : Mem) : CtI l yX8_rings ((Cond.code yX8_rings cX8_rings 2 (some .int)) :: GG) rmX8_rings E [.ref (E.1 0), .int x1] μ (fX8_rings F x1 μ) := by
  intro r u hf
  refine of_entry (cc := cX8_rings) (maxL := 2) (ret := (some .int)) (by decide +kernel) rfl hD (Nat.le_of_ble_eq_true rfl) (fun p e s m args below meth c X H locs hW hS ls hl => ?_)
  have hl : lv_has ls 2 [(0, .ref (E.1 0)), (1, .int x1)] := hl
  unfold fX8_rings at hf
  refine lv_aload_n X.1.1 X.1.2.1 dX8_rings_0 rfl (lv_at hl 0 rfl) ?_
  refine e_getr X hW (C := RX8) (T := TX8) (N := 11) (j := 5) rfl (by decide) inX8 (by decide) (by decide) rfl (t := 61) rfl rfl mw_2_17 dX8_rings_1 ?_
  refine e_geti X hW (C := RX5) (T := TX5) (N := 15) (j := 10) rfl (by decide) inX5 (by decide) (by decide) rfl rfl mw_1_180 dX8_rings_4 ?_
  refine lv_if_ne (tgt := 13) X.1.1 X.1.2.1 dX8_rings_7 (by decide) (fun c7 => ?_) (fun c7 => ?_)
  · rw [if_neg c7] at hf
    refine lv_iload_n X.1.1 X.1.2.1 dX8_rings_13 rfl (lv_at hl 1 rfl) ?_
    by_cases c14_0 : x1 = 0
    · rw [if_pos c14_0] at hf
      refine lv_tableIn (off := 30) (tgt := 44) X.1.1 X.1.2.1 dX8_rings_14 (by rw [c14_0]; decide) (by rw [c14_0]; decide) (by rw [c14_0]; rfl) (by decide) ?_
      refine lv_aload_n X.1.1 X.1.2.1 dX8_rings_44 rfl (lv_at hl 0 rfl) ?_
      refine e_getr X hW (C := RX8) (T := TX8) (N := 11) (j := 5) rfl (by decide) inX8 (by decide) (by decide) rfl (t := 61) rfl rfl mw_2_17 dX8_rings_45 ?_
      refine e_geti X hW (C := RX5) (T := TX5) (N := 15) (j := 11) rfl (by decide) inX5 (by decide) (by decide) rfl rfl mw_1_182 dX8_rings_48 ?_
      exact e_iret X hW hS hf dX8_rings_51
    · rw [if_neg c14_0] at hf
      by_cases c14_1 : x1 = 1
      · rw [if_pos c14_1] at hf
        refine lv_tableIn (off := 38) (tgt := 52) X.1.1 X.1.2.1 dX8_rings_14 (by rw [c14_1]; decide) (by rw [c14_1]; decide) (by rw [c14_1]; rfl) (by decide) ?_
        refine lv_aload_n X.1.1 X.1.2.1 dX8_rings_52 rfl (lv_at hl 0 rfl) ?_
        refine e_getr X hW (C := RX8) (T := TX8) (N := 11) (j := 5) rfl (by decide) inX8 (by decide) (by decide) rfl (t := 61) rfl rfl mw_2_17 dX8_rings_53 ?_
        refine e_geti X hW (C := RX5) (T := TX5) (N := 15) (j := 12) rfl (by decide) inX5 (by decide) (by decide) rfl rfl mw_1_184 dX8_rings_56 ?_
        exact e_iret X hW hS hf dX8_rings_59
      · rw [if_neg c14_1] at hf
        by_cases c14_2 : x1 = 2
        · rw [if_pos c14_2] at hf
          refine lv_tableIn (off := 46) (tgt := 60) X.1.1 X.1.2.1 dX8_rings_14 (by rw [c14_2]; decide) (by rw [c14_2]; decide) (by rw [c14_2]; rfl) (by decide) ?_
          refine lv_aload_n X.1.1 X.1.2.1 dX8_rings_60 rfl (lv_at hl 0 rfl) ?_
          refine e_getr X hW (C := RX8) (T := TX8) (N := 11) (j := 5) rfl (by decide) inX8 (by decide) (by decide) rfl (t := 61) rfl rfl mw_2_17 dX8_rings_61 ?_
          refine e_geti X hW (C := RX5) (T := TX5) (N := 15) (j := 13) rfl (by decide) inX5 (by decide) (by decide) rfl rfl mw_1_186 dX8_rings_64 ?_
          exact e_iret X hW hS hf dX8_rings_67
        · rw [if_neg c14_2] at hf
          by_cases c14_3 : x1 = 3
          · rw [if_pos c14_3] at hf
            refine lv_tableIn (off := 54) (tgt := 68) X.1.1 X.1.2.1 dX8_rings_14 (by rw [c14_3]; decide) (by rw [c14_3]; decide) (by rw [c14_3]; rfl) (by decide) ?_
            refine lv_aload_n X.1.1 X.1.2.1 dX8_rings_68 rfl (lv_at hl 0 rfl) ?_
            refine e_getr X hW (C := RX8) (T := TX8) (N := 11) (j := 5) rfl (by decide) inX8 (by decide) (by decide) rfl (t := 61) rfl rfl mw_2_17 dX8_rings_69 ?_
            refine e_geti X hW (C := RX5) (T := TX5) (N := 15) (j := 14) rfl (by decide) inX5 (by decide) (by decide) rfl rfl mw_1_188 dX8_rings_72 ?_
            exact e_iret X hW hS hf dX8_rings_75
          · rw [if_neg c14_3] at hf
            refine lv_tableOut (tgt := 76) X.1.1 X.1.2.1 dX8_rings_14 (by have e0 := lv_neT c14_0 (a := 0) rfl; have e1 := lv_neT c14_1 (a := 1) rfl; have e2 := lv_neT c14_2 (a := 2) rfl; have e3 := lv_neT c14_3 (a := 3) rfl; have e := e0; omega) (by decide) ?_
            refine lv_bipush (v := (-2)) X.1.1 X.1.2.1 dX8_rings_76 (by decide) ?_
            exact e_iret X hW hS hf dX8_rings_78
  · rw [if_pos c7] at hf
    refine lv_bipush (v := (-2)) X.1.1 X.1.2.1 dX8_rings_10 (by decide) ?_
    exact e_iret X hW hS hf dX8_rings_12
-- OvenHouse.wayBetween
def rmX8_wayBetween : Room := { frames := 3, cells := 0, slots := 0, locals := 62 }
set_option maxRecDepth 100000 in
set_option maxHeartbeats 4000000 in
theorem ctfX8_wayBetween {l : Launch} {E : Gv} (hD : Do E) (F : Nat) (x1 : Int32) (x2 : Int32)  (μ : Mem) : CtI l yX8_wayBetween ((Cond.code yX8_wayBetween cX8_wayBetween 3 (some .int)) :: GG) rmX8_wayBetween E [.ref (E.1 0), .int x1, .int x2] μ (fX8_wayBetween F x1 x2 μ) := by
  intro r u hf
  refine of_entry (cc := cX8_wayBetween) (maxL := 3) (ret := (some .int)) (by decide +kernel) rfl hD (Nat.le_of_ble_eq_true rfl) (fun p e s m args below meth c X H locs hW hS ls hl => ?_)
  have hl : lv_has ls 3 [(0, .ref (E.1 0)), (1, .int x1), (2, .int x2)] := hl
  unfold fX8_wayBetween at hf
  refine lv_aload_n X.1.1 X.1.2.1 dX8_wayBetween_0 rfl (lv_at hl 0 rfl) ?_
  refine e_getr X hW (C := RX8) (T := TX8) (N := 11) (j := 7) rfl (by decide) inX8 (by decide) (by decide) rfl (t := 73) rfl rfl mw_2_19 dX8_wayBetween_1 ?_
  refine lv_aload_n X.1.1 X.1.2.1 dX8_wayBetween_4 rfl (lv_at hl 0 rfl) ?_
  refine e_getr X hW (C := RX8) (T := TX8) (N := 11) (j := 1) rfl (by decide) inX8 (by decide) (by decide) rfl (t := 9) rfl rfl mw_2_13 dX8_wayBetween_5 ?_
  refine e_getr X hW (C := RX3) (T := TX3) (N := 7) (j := 3) rfl (by decide) inX3 (by decide) (by decide) rfl (t := 13) rfl rfl mw_1_66 dX8_wayBetween_8 ?_
  refine lv_iload_n X.1.1 X.1.2.1 dX8_wayBetween_11 rfl (lv_at hl 1 rfl) ?_
  refine e_ild X hW (by decide) rfl dX8_wayBetween_12 hf (fun v1 hf => ?_)
  refine lv_aload_n X.1.1 X.1.2.1 dX8_wayBetween_13 rfl (lv_at hl 0 rfl) ?_
  refine e_getr X hW (C := RX8) (T := TX8) (N := 11) (j := 1) rfl (by decide) inX8 (by decide) (by decide) rfl (t := 9) rfl rfl mw_2_13 dX8_wayBetween_14 ?_
  refine e_getr X hW (C := RX3) (T := TX3) (N := 7) (j := 2) rfl (by decide) inX3 (by decide) (by decide) rfl (t := 12) rfl rfl mw_1_64 dX8_wayBetween_17 ?_
  refine lv_iload_n X.1.1 X.1.2.1 dX8_wayBetween_20 rfl (lv_at hl 2 rfl) ?_
  refine e_ild X hW (by decide) rfl dX8_wayBetween_21 hf (fun v2 hf => ?_)
  refine e_vi (rest := []) (As := [.int v1, .int v2]) X hl.1 hW hS (C := RX4) (T := TX4) (N := 2) rfl (by decide) (ctfX4_going X.2.2.2.2 F 73 v1 v2 isPr_73 μ) (cwV (rm := rmX4_going) 2 X.1.2.2.2.2 (gd_V mw_3_125 mw_3_29 mw_3_30 mw_1_10 mw_3_31) rfl rfl rfl (by decide +kernel) ⟨Nat.le_of_ble_eq_true rfl, Nat.le_of_ble_eq_true rfl⟩) rfl rfl (Nat.le_of_ble_eq_true rfl) dX8_wayBetween_22 ⟨Nat.zero_le _, Nat.zero_le _⟩ hf (fun r4 m3 H locs hf hW hS => ?_)
  exact e_iret X hW hS hf dX8_wayBetween_25
-- OvenHouse.cost
def rmX8_cost : Room := { frames := 4, cells := 0, slots := 0, locals := 84 }
set_option maxRecDepth 100000 in
set_option maxHeartbeats 4000000 in
theorem wfX8_cost_35 {p : Program} {l : Launch} {e : Env} {s : State} {m : MethodId} {args : Array Value} {below : List Frame} {meth : Method} {c : Code} {E : Gv} {F : Nat}  {r : Int32} {u : Mem} (X : Fx p m c cX8_cost 4 s args (Cond.code yX8_cost cX8_cost 4 (some .int)) "OvenHouse" meth (some .int) E)  (rec4 : Int32 → Int32 → Mem → Option (Int32 × Mem)) (hrec4 : ∀ (y1 : Int32) (y2 : Int32) (μ : Mem) (H : Heap) (locs : List Loc) (ls : Array Slot), rec4 y1 y2 μ = some (r, u) → Wo E μ H → va_S (AE E) s.heap H locs → lv_has ls 4 [(0, .ref (E.1 0)), (1, .int y1), (2, .int y2)] → W0 p l e rmX8_cost s m args below meth c H locs (QcI E r u) E (F0 m 4 ls [])) (y1 : Int32) (y2 : Int32) (z0 : Int32) (μ : Mem) (H : Heap) (locs : List Loc) (ls : Array Slot) (hf : fX8_cost_35 F  rec4 y1 y2 z0 μ = some (r, u)) (hW : Wo E μ H) (hS : va_S (AE E) s.heap H locs) (hl : lv_has ls 4 [(0, .ref (E.1 0)), (1, .int y1), (2, .int y2)]) : W0 p l e rmX8_cost s m args below meth c H locs (QcI E r u) E (F0 m 35 ls [.int z0]) := by
  unfold fX8_cost_35 at hf
  refine lv_istore_n (lv' := [(3, .int z0), (0, .ref (E.1 0)), (1, .int y1), (2, .int y2)]) X.1.1 X.1.2.1 dX8_cost_35 rfl hl (by decide) rfl (fun ls hl => ?_)
  refine lv_iload_n X.1.1 X.1.2.1 dX8_cost_36 rfl (lv_at hl 2 rfl) ?_
  refine lv_aload_n X.1.1 X.1.2.1 dX8_cost_37 rfl (lv_at hl 1 rfl) ?_
  refine lv_aload_n X.1.1 X.1.2.1 dX8_cost_38 rfl (lv_at hl 1 rfl) ?_
  refine e_getr X hW (C := RX8) (T := TX8) (N := 11) (j := 1) rfl (by decide) inX8 (by decide) (by decide) rfl (t := 9) rfl rfl mw_2_13 dX8_cost_39 ?_
  refine e_getr X hW (C := RX3) (T := TX3) (N := 7) (j := 4) rfl (by decide) inX3 (by decide) (by decide) rfl (t := 14) rfl rfl mw_1_68 dX8_cost_42 ?_
  refine lv_iload_n X.1.1 X.1.2.1 dX8_cost_45 rfl (lv_at hl 3 rfl) ?_
  refine e_ild X hW (by decide) rfl dX8_cost_46 hf (fun v1 hf => ?_)
  refine lv_aload_n X.1.1 X.1.2.1 dX8_cost_47 rfl (lv_at hl 1 rfl) ?_
  refine e_getr X hW (C := RX8) (T := TX8) (N := 11) (j := 1) rfl (by decide) inX8 (by decide) (by decide) rfl (t := 9) rfl rfl mw_2_13 dX8_cost_48 ?_
  refine e_getr X hW (C := RX3) (T := TX3) (N := 7) (j := 4) rfl (by decide) inX3 (by decide) (by decide) rfl (t := 14) rfl rfl mw_1_68 dX8_cost_51 ?_
  refine lv_iload_n X.1.1 X.1.2.1 dX8_cost_54 rfl (lv_at hl 0 rfl) ?_
  refine e_ild X hW (by decide) rfl dX8_cost_55 hf (fun v2 hf => ?_)
  refine e_vi (rest := [.int y1]) (As := [.int v1, .int v2]) X hl.1 hW hS (C := RX8) (T := TX8) (N := 11) rfl (by decide) (ctfX8_wayBetween X.2.2.2.2 F v1 v2 μ) (cwV (rm := rmX8_wayBetween) 2 X.1.2.2.2.2 (gd_V mw_3_121 mw_3_123 mw_0_12 mw_1_1 mw_3_124) rfl rfl rfl (by decide +kernel) ⟨Nat.le_of_ble_eq_true rfl, Nat.le_of_ble_eq_true rfl⟩) rfl rfl (Nat.le_of_ble_eq_true rfl) dX8_cost_56 ⟨Nat.zero_le _, Nat.zero_le _⟩ hf (fun r4 m3 H locs hf hW hS => ?_)
  refine lv_iadd X.1.1 X.1.2.1 dX8_cost_59 ?_
  refine lv_istore_n (lv' := [(1, .int (y1 + r4)), (3, .int z0), (0, .ref (E.1 0)), (2, .int y2)]) X.1.1 X.1.2.1 dX8_cost_60 rfl hl (by decide) rfl (fun ls hl => ?_)
  refine lv_iinc (v := (y2 + 1)) (lv' := [(2, .int (y2 + 1)), (1, .int (y1 + r4)), (3, .int z0), (0, .ref (E.1 0))]) X.1.1 X.1.2.1 dX8_cost_61 hl (k := 3) rfl rfl (by decide) rfl (fun ls hl => ?_)
  refine lv_goto (tgt := 4) X.1.1 X.1.2.1 dX8_cost_64 (by decide) ?_
  exact hrec4 (y1 + r4) (y2 + 1) m3 H locs ls hf hW hS (lv_sub hl [3, 1, 0] rfl)
set_option maxRecDepth 100000 in
set_option maxHeartbeats 4000000 in
theorem wfX8_cost_4_b {p : Program} {l : Launch} {e : Env} {s : State} {m : MethodId} {args : Array Value} {below : List Frame} {meth : Method} {c : Code} {E : Gv} {F : Nat}  {r : Int32} {u : Mem} (X : Fx p m c cX8_cost 4 s args (Cond.code yX8_cost cX8_cost 4 (some .int)) "OvenHouse" meth (some .int) E)  (rec4 : Int32 → Int32 → Mem → Option (Int32 × Mem)) (hrec4 : ∀ (y1 : Int32) (y2 : Int32) (μ : Mem) (H : Heap) (locs : List Loc) (ls : Array Slot), rec4 y1 y2 μ = some (r, u) → Wo E μ H → va_S (AE E) s.heap H locs → lv_has ls 4 [(0, .ref (E.1 0)), (1, .int y1), (2, .int y2)] → W0 p l e rmX8_cost s m args below meth c H locs (QcI E r u) E (F0 m 4 ls [])) (y1 : Int32) (y2 : Int32) (μ : Mem) (H : Heap) (locs : List Loc) (ls : Array Slot) (hf : fX8_cost_4_b F  rec4 y1 y2 μ = some (r, u)) (hW : Wo E μ H) (hS : va_S (AE E) s.heap H locs) (hl : lv_has ls 4 [(0, .ref (E.1 0)), (1, .int y1), (2, .int y2)]) : W0 p l e rmX8_cost s m args below meth c H locs (QcI E r u) E (F0 m 4 ls []) := by
  unfold fX8_cost_4_b at hf
  refine lv_iload_n X.1.1 X.1.2.1 dX8_cost_4 rfl (lv_at hl 2 rfl) ?_
  refine lv_aload_n X.1.1 X.1.2.1 dX8_cost_5 rfl (lv_at hl 0 rfl) ?_
  refine e_getr X hW (C := RX8) (T := TX8) (N := 11) (j := 1) rfl (by decide) inX8 (by decide) (by decide) rfl (t := 9) rfl rfl mw_2_13 dX8_cost_6 ?_
  refine e_geti X hW (C := RX3) (T := TX3) (N := 7) (j := 6) rfl (by decide) inX3 (by decide) (by decide) rfl rfl mw_1_72 dX8_cost_9 ?_
  refine lv_icmp_ge (tgt := 67) X.1.1 X.1.2.1 dX8_cost_12 (by decide) (fun c12 => ?_) (fun c12 => ?_)
  · rw [if_pos c12] at hf
    refine lv_iload_n X.1.1 X.1.2.1 dX8_cost_67 rfl (lv_at hl 1 rfl) ?_
    exact e_iret X hW hS hf dX8_cost_68
  · rw [if_neg c12] at hf
    refine lv_iload_n X.1.1 X.1.2.1 dX8_cost_15 rfl (lv_at hl 2 rfl) ?_
    refine lv_iconst (v := 1) X.1.1 X.1.2.1 dX8_cost_16 (by decide) ?_
    refine lv_iadd X.1.1 X.1.2.1 dX8_cost_17 ?_
    refine lv_aload_n X.1.1 X.1.2.1 dX8_cost_18 rfl (lv_at hl 0 rfl) ?_
    refine e_getr X hW (C := RX8) (T := TX8) (N := 11) (j := 1) rfl (by decide) inX8 (by decide) (by decide) rfl (t := 9) rfl rfl mw_2_13 dX8_cost_19 ?_
    refine e_geti X hW (C := RX3) (T := TX3) (N := 7) (j := 6) rfl (by decide) inX3 (by decide) (by decide) rfl rfl mw_1_72 dX8_cost_22 ?_
    refine lv_icmp_ge (tgt := 34) X.1.1 X.1.2.1 dX8_cost_25 (by decide) (fun c25 => ?_) (fun c25 => ?_)
    · rw [if_pos c25] at hf
      refine lv_iconst (v := 0) X.1.1 X.1.2.1 dX8_cost_34 (by decide) ?_
      exact wfX8_cost_35 X rec4 hrec4 y1 y2 0 μ H locs ls hf hW hS (lv_sub hl [0, 1, 2] rfl)
    · rw [if_neg c25] at hf
      refine lv_iload_n X.1.1 X.1.2.1 dX8_cost_28 rfl (lv_at hl 2 rfl) ?_
      refine lv_iconst (v := 1) X.1.1 X.1.2.1 dX8_cost_29 (by decide) ?_
      refine lv_iadd X.1.1 X.1.2.1 dX8_cost_30 ?_
      refine lv_goto (tgt := 35) X.1.1 X.1.2.1 dX8_cost_31 (by decide) ?_
      exact wfX8_cost_35 X rec4 hrec4 y1 y2 (y2 + 1) μ H locs ls hf hW hS (lv_sub hl [0, 1, 2] rfl)
theorem wfX8_cost_4 {p : Program} {l : Launch} {e : Env} {s : State} {m : MethodId} {args : Array Value} {below : List Frame} {meth : Method} {c : Code} {E : Gv} {F : Nat}  {r : Int32} {u : Mem} (X : Fx p m c cX8_cost 4 s args (Cond.code yX8_cost cX8_cost 4 (some .int)) "OvenHouse" meth (some .int) E)  (n : Nat) : ∀ (y1 : Int32) (y2 : Int32) (μ : Mem) (H : Heap) (locs : List Loc) (ls : Array Slot) (_ : fX8_cost_4 F   n y1 y2 μ = some (r, u)) (_ : Wo E μ H) (_ : va_S (AE E) s.heap H locs) (_ : lv_has ls 4 [(0, .ref (E.1 0)), (1, .int y1), (2, .int y2)]), W0 p l e rmX8_cost s m args below meth c H locs (QcI E r u) E (F0 m 4 ls []) := by
  induction n with
  | zero => intro y1 y2 μ H locs ls hf hW hS hl; cases hf
  | succ n ih => intro y1 y2 μ H locs ls hf hW hS hl; exact wfX8_cost_4_b X  _ ih y1 y2 μ H locs ls hf hW hS hl
set_option maxRecDepth 100000 in
set_option maxHeartbeats 4000000 in
theorem ctfX8_cost {l : Launch} {E : Gv} (hD : Do E) (F : Nat)  (μ : Mem) : CtI l yX8_cost ((Cond.code yX8_cost cX8_cost 4 (some .int)) :: GG) rmX8_cost E [.ref (E.1 0)] μ (fX8_cost F μ) := by
  intro r u hf
  refine of_entry (cc := cX8_cost) (maxL := 4) (ret := (some .int)) (by decide +kernel) rfl hD (Nat.le_of_ble_eq_true rfl) (fun p e s m args below meth c X H locs hW hS ls hl => ?_)
  have hl : lv_has ls 4 [(0, .ref (E.1 0))] := hl
  unfold fX8_cost at hf
  refine lv_iconst (v := 0) X.1.1 X.1.2.1 dX8_cost_0 (by decide) ?_
  refine lv_istore_n (lv' := [(1, .int 0), (0, .ref (E.1 0))]) X.1.1 X.1.2.1 dX8_cost_1 rfl hl (by decide) rfl (fun ls hl => ?_)
  refine lv_iconst (v := 0) X.1.1 X.1.2.1 dX8_cost_2 (by decide) ?_
  refine lv_istore_n (lv' := [(2, .int 0), (1, .int 0), (0, .ref (E.1 0))]) X.1.1 X.1.2.1 dX8_cost_3 rfl hl (by decide) rfl (fun ls hl => ?_)
  exact wfX8_cost_4 X  F 0 0 μ H locs ls hf hW hS (lv_sub hl [2, 1, 0] rfl)
-- OvenHouse.round
def rmX8_round : Room := { frames := 5, cells := 0, slots := 0, locals := 108 }
set_option maxRecDepth 100000 in
set_option maxHeartbeats 4000000 in
theorem ctfX8_round {l : Launch} {E : Gv} (hD : Do E) (F : Nat)  (μ : Mem) : CtI l yX8_round ((Cond.code yX8_round cX8_round 2 (some .int)) :: GG) rmX8_round E [.ref (E.1 0)] μ (fX8_round F μ) := by
  intro r u hf
  refine of_entry (cc := cX8_round) (maxL := 2) (ret := (some .int)) (by decide +kernel) rfl hD (Nat.le_of_ble_eq_true rfl) (fun p e s m args below meth c X H locs hW hS ls hl => ?_)
  have hl : lv_has ls 2 [(0, .ref (E.1 0))] := hl
  unfold fX8_round at hf
  refine lv_aload_n X.1.1 X.1.2.1 dX8_round_0 rfl (lv_at hl 0 rfl) ?_
  refine e_getr X hW (C := RX8) (T := TX8) (N := 11) (j := 1) rfl (by decide) inX8 (by decide) (by decide) rfl (t := 9) rfl rfl mw_2_13 dX8_round_1 ?_
  refine e_geti X hW (C := RX3) (T := TX3) (N := 7) (j := 6) rfl (by decide) inX3 (by decide) (by decide) rfl rfl mw_1_72 dX8_round_4 ?_
  refine lv_if_eq (tgt := 20) X.1.1 X.1.2.1 dX8_round_7 (by decide) (fun c7 => ?_) (fun c7 => ?_)
  · rw [if_pos c7] at hf
    refine lv_bipush (v := (-5)) X.1.1 X.1.2.1 dX8_round_20 (by decide) ?_
    exact e_iret X hW hS hf dX8_round_22
  · rw [if_neg c7] at hf
    refine lv_aload_n X.1.1 X.1.2.1 dX8_round_10 rfl (lv_at hl 0 rfl) ?_
    refine e_getr X hW (C := RX8) (T := TX8) (N := 11) (j := 7) rfl (by decide) inX8 (by decide) (by decide) rfl (t := 73) rfl rfl mw_2_19 dX8_round_11 ?_
    refine e_vi (rest := []) (As := []) X hl.1 hW hS (C := RX4) (T := TX4) (N := 2) rfl (by decide) (ctfX4_hasLossyStretch X.2.2.2.2 F μ) (cwV (rm := rmX4_hasLossyStretch) 0 X.1.2.2.2.2 (gd_V mw_3_130 mw_3_131 mw_3_132 mw_1_10 mw_3_133) rfl rfl rfl (by decide +kernel) ⟨Nat.le_of_ble_eq_true rfl, Nat.le_of_ble_eq_true rfl⟩) rfl rfl (Nat.le_of_ble_eq_true rfl) dX8_round_14 ⟨Nat.zero_le _, Nat.zero_le _⟩ hf (fun r2 m1 H locs hf hW hS => ?_)
    refine lv_if_eq (tgt := 23) X.1.1 X.1.2.1 dX8_round_17 (by decide) (fun c17 => ?_) (fun c17 => ?_)
    · rw [if_pos c17] at hf
      refine lv_aload_n X.1.1 X.1.2.1 dX8_round_23 rfl (lv_at hl 0 rfl) ?_
      refine e_getr X hW (C := RX8) (T := TX8) (N := 11) (j := 5) rfl (by decide) inX8 (by decide) (by decide) rfl (t := 61) rfl rfl mw_2_17 dX8_round_24 ?_
      refine lv_aload_n X.1.1 X.1.2.1 dX8_round_27 rfl (lv_at hl 0 rfl) ?_
      refine e_getr X hW (C := RX8) (T := TX8) (N := 11) (j := 1) rfl (by decide) inX8 (by decide) (by decide) rfl (t := 9) rfl rfl mw_2_13 dX8_round_28 ?_
      refine e_geti X hW (C := RX3) (T := TX3) (N := 7) (j := 6) rfl (by decide) inX3 (by decide) (by decide) rfl rfl mw_1_72 dX8_round_31 ?_
      refine e_put X hW hS (C := RX5) (T := TX5) (N := 15) (j := 9) (tyF := tyX5) rfl (by decide) inX5 tyX5_ok nmX5 (by decide) (by decide) rfl rfl mw_1_178 rfl rfl rfl dX8_round_34 hf (fun m3 H locs hf hW hS => ?_)
      refine lv_aload_n X.1.1 X.1.2.1 dX8_round_37 rfl (lv_at hl 0 rfl) ?_
      refine e_getr X hW (C := RX8) (T := TX8) (N := 11) (j := 1) rfl (by decide) inX8 (by decide) (by decide) rfl (t := 9) rfl rfl mw_2_13 dX8_round_38 ?_
      refine e_getr X hW (C := RX3) (T := TX3) (N := 7) (j := 2) rfl (by decide) inX3 (by decide) (by decide) rfl (t := 12) rfl rfl mw_1_64 dX8_round_41 ?_
      refine lv_iconst (v := 0) X.1.1 X.1.2.1 dX8_round_44 (by decide) ?_
      refine lv_aload_n X.1.1 X.1.2.1 dX8_round_45 rfl (lv_at hl 0 rfl) ?_
      refine e_getr X hW (C := RX8) (T := TX8) (N := 11) (j := 5) rfl (by decide) inX8 (by decide) (by decide) rfl (t := 61) rfl rfl mw_2_17 dX8_round_46 ?_
      refine e_getr X hW (C := RX5) (T := TX5) (N := 15) (j := 0) rfl (by decide) inX5 (by decide) (by decide) rfl (t := 62) rfl rfl mw_1_166 dX8_round_49 ?_
      refine lv_iconst (v := 0) X.1.1 X.1.2.1 dX8_round_52 (by decide) ?_
      refine lv_aload_n X.1.1 X.1.2.1 dX8_round_53 rfl (lv_at hl 0 rfl) ?_
      refine e_getr X hW (C := RX8) (T := TX8) (N := 11) (j := 1) rfl (by decide) inX8 (by decide) (by decide) rfl (t := 9) rfl rfl mw_2_13 dX8_round_54 ?_
      refine e_geti X hW (C := RX3) (T := TX3) (N := 7) (j := 6) rfl (by decide) inX3 (by decide) (by decide) rfl rfl mw_1_72 dX8_round_57 ?_
      refine e_cpy X hl.1 hW hS mw_2_98 mw_2_100 mw_2_99 mw_1_12 (by decide) (by decide) rfl rfl ⟨Nat.le_of_ble_eq_true rfl, Nat.le_of_ble_eq_true rfl⟩ dX8_round_60 hf (fun m4 H locs hf hW hS => ?_)
      refine lv_aload_n X.1.1 X.1.2.1 dX8_round_63 rfl (lv_at hl 0 rfl) ?_
      refine e_getr X hW (C := RX8) (T := TX8) (N := 11) (j := 1) rfl (by decide) inX8 (by decide) (by decide) rfl (t := 9) rfl rfl mw_2_13 dX8_round_64 ?_
      refine e_getr X hW (C := RX3) (T := TX3) (N := 7) (j := 3) rfl (by decide) inX3 (by decide) (by decide) rfl (t := 13) rfl rfl mw_1_66 dX8_round_67 ?_
      refine lv_iconst (v := 0) X.1.1 X.1.2.1 dX8_round_70 (by decide) ?_
      refine lv_aload_n X.1.1 X.1.2.1 dX8_round_71 rfl (lv_at hl 0 rfl) ?_
      refine e_getr X hW (C := RX8) (T := TX8) (N := 11) (j := 5) rfl (by decide) inX8 (by decide) (by decide) rfl (t := 61) rfl rfl mw_2_17 dX8_round_72 ?_
      refine e_getr X hW (C := RX5) (T := TX5) (N := 15) (j := 1) rfl (by decide) inX5 (by decide) (by decide) rfl (t := 63) rfl rfl mw_1_168 dX8_round_75 ?_
      refine lv_iconst (v := 0) X.1.1 X.1.2.1 dX8_round_78 (by decide) ?_
      refine lv_aload_n X.1.1 X.1.2.1 dX8_round_79 rfl (lv_at hl 0 rfl) ?_
      refine e_getr X hW (C := RX8) (T := TX8) (N := 11) (j := 1) rfl (by decide) inX8 (by decide) (by decide) rfl (t := 9) rfl rfl mw_2_13 dX8_round_80 ?_
      refine e_geti X hW (C := RX3) (T := TX3) (N := 7) (j := 6) rfl (by decide) inX3 (by decide) (by decide) rfl rfl mw_1_72 dX8_round_83 ?_
      refine e_cpy X hl.1 hW hS mw_2_98 mw_2_100 mw_2_99 mw_1_12 (by decide) (by decide) rfl rfl ⟨Nat.le_of_ble_eq_true rfl, Nat.le_of_ble_eq_true rfl⟩ dX8_round_86 hf (fun m5 H locs hf hW hS => ?_)
      refine lv_aload_n X.1.1 X.1.2.1 dX8_round_89 rfl (lv_at hl 0 rfl) ?_
      refine e_getr X hW (C := RX8) (T := TX8) (N := 11) (j := 5) rfl (by decide) inX8 (by decide) (by decide) rfl (t := 61) rfl rfl mw_2_17 dX8_round_90 ?_
      refine lv_aload_n X.1.1 X.1.2.1 dX8_round_93 rfl (lv_at hl 0 rfl) ?_
      refine e_getr X hW (C := RX8) (T := TX8) (N := 11) (j := 7) rfl (by decide) inX8 (by decide) (by decide) rfl (t := 73) rfl rfl mw_2_19 dX8_round_94 ?_
      refine e_vi (rest := []) (As := [.ref (E.1 73)]) X hl.1 hW hS (C := RX5) (T := TX5) (N := 15) rfl (by decide) (ctfX5_joinAll X.2.2.2.2 F 73 isPr_73 m5) (cwV (rm := rmX5_joinAll) 1 X.1.2.2.2.2 (gd_V mw_3_19 mw_3_20 mw_3_21 mw_1_8 mw_3_22) rfl rfl rfl (by decide +kernel) ⟨Nat.le_of_ble_eq_true rfl, Nat.le_of_ble_eq_true rfl⟩) rfl rfl (Nat.le_of_ble_eq_true rfl) dX8_round_97 ⟨Nat.zero_le _, Nat.zero_le _⟩ hf (fun r7 m6 H locs hf hW hS => ?_)
      refine lv_istore_n (lv' := [(1, .int r7), (0, .ref (E.1 0))]) X.1.1 X.1.2.1 dX8_round_100 rfl hl (by decide) rfl (fun ls hl => ?_)
      refine lv_aload_n X.1.1 X.1.2.1 dX8_round_101 rfl (lv_at hl 1 rfl) ?_
      refine e_getr X hW (C := RX8) (T := TX8) (N := 11) (j := 5) rfl (by decide) inX8 (by decide) (by decide) rfl (t := 61) rfl rfl mw_2_17 dX8_round_102 ?_
      refine lv_iconst (v := 0) X.1.1 X.1.2.1 dX8_round_105 (by decide) ?_
      refine lv_aload_n X.1.1 X.1.2.1 dX8_round_106 rfl (lv_at hl 1 rfl) ?_
      refine e_getr X hW (C := RX8) (T := TX8) (N := 11) (j := 9) rfl (by decide) inX8 (by decide) (by decide) rfl (t := 79) rfl rfl mw_2_21 dX8_round_107 ?_
      refine lv_aload_n X.1.1 X.1.2.1 dX8_round_110 rfl (lv_at hl 1 rfl) ?_
      refine e_getr X hW (C := RX8) (T := TX8) (N := 11) (j := 1) rfl (by decide) inX8 (by decide) (by decide) rfl (t := 9) rfl rfl mw_2_13 dX8_round_111 ?_
      refine e_geti X hW (C := RX3) (T := TX3) (N := 7) (j := 6) rfl (by decide) inX3 (by decide) (by decide) rfl rfl mw_1_72 dX8_round_114 ?_
      refine e_vv (rest := []) (As := [.int 0, .ref (E.1 79), .int (m6 9 6)]) X hl.1 hW hS (C := RX5) (T := TX5) (N := 15) rfl (by decide) (ctfX5_rowFrom X.2.2.2.2 F 0 79 (m6 9 6) ⟨(by decide), rfl⟩ m6) (cwV (rm := rmX5_rowFrom) 3 X.1.2.2.2.2 (gd_V mw_3_69 mw_3_70 mw_3_71 mw_1_8 mw_3_72) rfl rfl rfl (by decide +kernel) ⟨Nat.le_of_ble_eq_true rfl, Nat.le_of_ble_eq_true rfl⟩) rfl rfl (Nat.le_of_ble_eq_true rfl) dX8_round_117 ⟨Nat.zero_le _, Nat.zero_le _⟩ hf (fun m8 H locs hf hW hS => ?_)
      refine lv_aload_n X.1.1 X.1.2.1 dX8_round_120 rfl (lv_at hl 1 rfl) ?_
      refine e_getr X hW (C := RX8) (T := TX8) (N := 11) (j := 3) rfl (by decide) inX8 (by decide) (by decide) rfl (t := 53) rfl rfl mw_2_15 dX8_round_121 ?_
      refine lv_aload_n X.1.1 X.1.2.1 dX8_round_124 rfl (lv_at hl 1 rfl) ?_
      refine e_getr X hW (C := RX8) (T := TX8) (N := 11) (j := 9) rfl (by decide) inX8 (by decide) (by decide) rfl (t := 79) rfl rfl mw_2_21 dX8_round_125 ?_
      refine lv_aload_n X.1.1 X.1.2.1 dX8_round_128 rfl (lv_at hl 1 rfl) ?_
      refine e_getr X hW (C := RX8) (T := TX8) (N := 11) (j := 1) rfl (by decide) inX8 (by decide) (by decide) rfl (t := 9) rfl rfl mw_2_13 dX8_round_129 ?_
      refine e_geti X hW (C := RX3) (T := TX3) (N := 7) (j := 6) rfl (by decide) inX3 (by decide) (by decide) rfl rfl mw_1_72 dX8_round_132 ?_
      refine e_vv (rest := []) (As := [.ref (E.1 79), .int (m8 9 6)]) X hl.1 hW hS (C := RX0) (T := TX0) (N := 3) rfl (by decide) (ctfX0_become X.2.2.2.2 F 79 (m8 9 6) ⟨(by decide), rfl⟩ m8) (cwV (rm := rmX0_become) 2 X.1.2.2.2.2 (gd_V mw_3_73 mw_3_74 mw_3_75 mw_1_6 mw_3_76) rfl rfl rfl (by decide +kernel) ⟨Nat.le_of_ble_eq_true rfl, Nat.le_of_ble_eq_true rfl⟩) rfl rfl (Nat.le_of_ble_eq_true rfl) dX8_round_135 ⟨Nat.zero_le _, Nat.zero_le _⟩ hf (fun m9 H locs hf hW hS => ?_)
      refine lv_iload_n X.1.1 X.1.2.1 dX8_round_138 rfl (lv_at hl 0 rfl) ?_
      exact e_iret X hW hS hf dX8_round_139
    · rw [if_neg c17] at hf
      refine lv_bipush (v := (-5)) X.1.1 X.1.2.1 dX8_round_20 (by decide) ?_
      exact e_iret X hW hS hf dX8_round_22
-- OvenHouse.layWays
def rmX8_layWays : Room := { frames := 4, cells := 0, slots := 0, locals := 84 }
set_option maxRecDepth 100000 in
set_option maxHeartbeats 4000000 in
theorem wfX8_layWays_15_b {p : Program} {l : Launch} {e : Env} {s : State} {m : MethodId} {args : Array Value} {below : List Frame} {meth : Method} {c : Code} {E : Gv} {F : Nat}  {u : Mem} (X : Fx p m c cX8_layWays 3 s args (Cond.code yX8_layWays cX8_layWays 3 none) "OvenHouse" meth none E)  (rec2 : Int32 → Mem → Option Mem) (hrec2 : ∀ (y1 : Int32) (μ : Mem) (H : Heap) (locs : List Loc) (ls : Array Slot), rec2 y1 μ = some u → Wo E μ H → va_S (AE E) s.heap H locs → lv_has ls 3 [(0, .ref (E.1 0)), (1, .int y1)] → W0 p l e rmX8_layWays s m args below meth c H locs (QcN E u) E (F0 m 2 ls [])) (rec15 : Int32 → Int32 → Mem → Option Mem) (hrec15 : ∀ (y1 : Int32) (y2 : Int32) (μ : Mem) (H : Heap) (locs : List Loc) (ls : Array Slot), rec15 y1 y2 μ = some u → Wo E μ H → va_S (AE E) s.heap H locs → lv_has ls 3 [(0, .ref (E.1 0)), (1, .int y1), (2, .int y2)] → W0 p l e rmX8_layWays s m args below meth c H locs (QcN E u) E (F0 m 15 ls [])) (y1 : Int32) (y2 : Int32) (μ : Mem) (H : Heap) (locs : List Loc) (ls : Array Slot) (hf : fX8_layWays_15_b F  rec2 rec15 y1 y2 μ = some u) (hW : Wo E μ H) (hS : va_S (AE E) s.heap H locs) (hl : lv_has ls 3 [(0, .ref (E.1 0)), (1, .int y1), (2, .int y2)]) : W0 p l e rmX8_layWays s m args below meth c H locs (QcN E u) E (F0 m 15 ls []) := by
  unfold fX8_layWays_15_b at hf
  refine lv_iload_n X.1.1 X.1.2.1 dX8_layWays_15 rfl (lv_at hl 2 rfl) ?_
  refine lv_aload_n X.1.1 X.1.2.1 dX8_layWays_16 rfl (lv_at hl 0 rfl) ?_
  refine e_getr X hW (C := RX8) (T := TX8) (N := 11) (j := 1) rfl (by decide) inX8 (by decide) (by decide) rfl (t := 9) rfl rfl mw_2_13 dX8_layWays_17 ?_
  refine e_geti X hW (C := RX3) (T := TX3) (N := 7) (j := 6) rfl (by decide) inX3 (by decide) (by decide) rfl rfl mw_1_72 dX8_layWays_20 ?_
  refine lv_icmp_ge (tgt := 46) X.1.1 X.1.2.1 dX8_layWays_23 (by decide) (fun c23 => ?_) (fun c23 => ?_)
  · rw [if_pos c23] at hf
    refine lv_iinc (v := (y1 + 1)) (lv' := [(1, .int (y1 + 1)), (0, .ref (E.1 0)), (2, .int y2)]) X.1.1 X.1.2.1 dX8_layWays_46 hl (k := 1) rfl rfl (by decide) rfl (fun ls hl => ?_)
    refine lv_goto (tgt := 2) X.1.1 X.1.2.1 dX8_layWays_49 (by decide) ?_
    exact hrec2 (y1 + 1) μ H locs ls hf hW hS (lv_sub hl [1, 0] rfl)
  · rw [if_neg c23] at hf
    refine lv_aload_n X.1.1 X.1.2.1 dX8_layWays_26 rfl (lv_at hl 0 rfl) ?_
    refine e_getr X hW (C := RX8) (T := TX8) (N := 11) (j := 10) rfl (by decide) inX8 (by decide) (by decide) rfl (t := 80) rfl rfl mw_2_22 dX8_layWays_27 ?_
    refine lv_iload_n X.1.1 X.1.2.1 dX8_layWays_30 rfl (lv_at hl 1 rfl) ?_
    refine e_rld (t0 := 3) (c9 := 13) X hW (by decide) (by decide) rfl rfl rfl dX8_layWays_31 hf (fun t1 qt1 hf => ?_)
    replace qt1 := rowWays qt1
    refine lv_iload_n X.1.1 X.1.2.1 dX8_layWays_32 rfl (lv_at hl 2 rfl) ?_
    refine lv_aload_n X.1.1 X.1.2.1 dX8_layWays_33 rfl (lv_at hl 0 rfl) ?_
    refine lv_iload_n X.1.1 X.1.2.1 dX8_layWays_34 rfl (lv_at hl 1 rfl) ?_
    refine lv_iload_n X.1.1 X.1.2.1 dX8_layWays_35 rfl (lv_at hl 2 rfl) ?_
    refine e_vi (rest := [.int y2, .ref (E.1 t1)]) (As := [.int y1, .int y2]) X hl.1 hW hS (C := RX8) (T := TX8) (N := 11) rfl (by decide) (ctfX8_wayBetween X.2.2.2.2 F y1 y2 μ) (cwV (rm := rmX8_wayBetween) 2 X.1.2.2.2.2 (gd_V mw_3_121 mw_3_123 mw_0_12 mw_1_1 mw_3_124) rfl rfl rfl (by decide +kernel) ⟨Nat.le_of_ble_eq_true rfl, Nat.le_of_ble_eq_true rfl⟩) rfl rfl (Nat.le_of_ble_eq_true rfl) dX8_layWays_36 ⟨Nat.zero_le _, Nat.zero_le _⟩ hf (fun r3 m2 H locs hf hW hS => ?_)
    refine e_ist X hW hS qt1.1 qt1.2 dX8_layWays_39 hf (fun m4 H locs hf hW hS => ?_)
    refine lv_iinc (v := (y2 + 1)) (lv' := [(2, .int (y2 + 1)), (0, .ref (E.1 0)), (1, .int y1)]) X.1.1 X.1.2.1 dX8_layWays_40 hl (k := 2) rfl rfl (by decide) rfl (fun ls hl => ?_)
    refine lv_goto (tgt := 15) X.1.1 X.1.2.1 dX8_layWays_43 (by decide) ?_
    exact hrec15 y1 (y2 + 1) m4 H locs ls hf hW hS (lv_sub hl [1, 2, 0] rfl)
theorem wfX8_layWays_15 {p : Program} {l : Launch} {e : Env} {s : State} {m : MethodId} {args : Array Value} {below : List Frame} {meth : Method} {c : Code} {E : Gv} {F : Nat}  {u : Mem} (X : Fx p m c cX8_layWays 3 s args (Cond.code yX8_layWays cX8_layWays 3 none) "OvenHouse" meth none E)  (rec2 : Int32 → Mem → Option Mem) (hrec2 : ∀ (y1 : Int32) (μ : Mem) (H : Heap) (locs : List Loc) (ls : Array Slot), rec2 y1 μ = some u → Wo E μ H → va_S (AE E) s.heap H locs → lv_has ls 3 [(0, .ref (E.1 0)), (1, .int y1)] → W0 p l e rmX8_layWays s m args below meth c H locs (QcN E u) E (F0 m 2 ls [])) (n : Nat) : ∀ (y1 : Int32) (y2 : Int32) (μ : Mem) (H : Heap) (locs : List Loc) (ls : Array Slot) (_ : fX8_layWays_15 F  rec2 n y1 y2 μ = some u) (_ : Wo E μ H) (_ : va_S (AE E) s.heap H locs) (_ : lv_has ls 3 [(0, .ref (E.1 0)), (1, .int y1), (2, .int y2)]), W0 p l e rmX8_layWays s m args below meth c H locs (QcN E u) E (F0 m 15 ls []) := by
  induction n with
  | zero => intro y1 y2 μ H locs ls hf hW hS hl; cases hf
  | succ n ih => intro y1 y2 μ H locs ls hf hW hS hl; exact wfX8_layWays_15_b X rec2 hrec2 _ ih y1 y2 μ H locs ls hf hW hS hl
set_option maxRecDepth 100000 in
set_option maxHeartbeats 4000000 in
theorem wfX8_layWays_2_b {p : Program} {l : Launch} {e : Env} {s : State} {m : MethodId} {args : Array Value} {below : List Frame} {meth : Method} {c : Code} {E : Gv} {F : Nat}  {u : Mem} (X : Fx p m c cX8_layWays 3 s args (Cond.code yX8_layWays cX8_layWays 3 none) "OvenHouse" meth none E)  (rec2 : Int32 → Mem → Option Mem) (hrec2 : ∀ (y1 : Int32) (μ : Mem) (H : Heap) (locs : List Loc) (ls : Array Slot), rec2 y1 μ = some u → Wo E μ H → va_S (AE E) s.heap H locs → lv_has ls 3 [(0, .ref (E.1 0)), (1, .int y1)] → W0 p l e rmX8_layWays s m args below meth c H locs (QcN E u) E (F0 m 2 ls [])) (y1 : Int32) (μ : Mem) (H : Heap) (locs : List Loc) (ls : Array Slot) (hf : fX8_layWays_2_b F  rec2 y1 μ = some u) (hW : Wo E μ H) (hS : va_S (AE E) s.heap H locs) (hl : lv_has ls 3 [(0, .ref (E.1 0)), (1, .int y1)]) : W0 p l e rmX8_layWays s m args below meth c H locs (QcN E u) E (F0 m 2 ls []) := by
  unfold fX8_layWays_2_b at hf
  refine lv_iload_n X.1.1 X.1.2.1 dX8_layWays_2 rfl (lv_at hl 1 rfl) ?_
  refine lv_aload_n X.1.1 X.1.2.1 dX8_layWays_3 rfl (lv_at hl 0 rfl) ?_
  refine e_getr X hW (C := RX8) (T := TX8) (N := 11) (j := 1) rfl (by decide) inX8 (by decide) (by decide) rfl (t := 9) rfl rfl mw_2_13 dX8_layWays_4 ?_
  refine e_geti X hW (C := RX3) (T := TX3) (N := 7) (j := 6) rfl (by decide) inX3 (by decide) (by decide) rfl rfl mw_1_72 dX8_layWays_7 ?_
  refine lv_icmp_ge (tgt := 52) X.1.1 X.1.2.1 dX8_layWays_10 (by decide) (fun c10 => ?_) (fun c10 => ?_)
  · rw [if_pos c10] at hf
    exact e_vret X hW hS hf dX8_layWays_52
  · rw [if_neg c10] at hf
    refine lv_iconst (v := 0) X.1.1 X.1.2.1 dX8_layWays_13 (by decide) ?_
    refine lv_istore_n (lv' := [(2, .int 0), (0, .ref (E.1 0)), (1, .int y1)]) X.1.1 X.1.2.1 dX8_layWays_14 rfl hl (by decide) rfl (fun ls hl => ?_)
    exact wfX8_layWays_15 X rec2 hrec2 F y1 0 μ H locs ls hf hW hS (lv_sub hl [1, 2, 0] rfl)
theorem wfX8_layWays_2 {p : Program} {l : Launch} {e : Env} {s : State} {m : MethodId} {args : Array Value} {below : List Frame} {meth : Method} {c : Code} {E : Gv} {F : Nat}  {u : Mem} (X : Fx p m c cX8_layWays 3 s args (Cond.code yX8_layWays cX8_layWays 3 none) "OvenHouse" meth none E)  (n : Nat) : ∀ (y1 : Int32) (μ : Mem) (H : Heap) (locs : List Loc) (ls : Array Slot) (_ : fX8_layWays_2 F   n y1 μ = some u) (_ : Wo E μ H) (_ : va_S (AE E) s.heap H locs) (_ : lv_has ls 3 [(0, .ref (E.1 0)), (1, .int y1)]), W0 p l e rmX8_layWays s m args below meth c H locs (QcN E u) E (F0 m 2 ls []) := by
  induction n with
  | zero => intro y1 μ H locs ls hf hW hS hl; cases hf
  | succ n ih => intro y1 μ H locs ls hf hW hS hl; exact wfX8_layWays_2_b X  _ ih y1 μ H locs ls hf hW hS hl
set_option maxRecDepth 100000 in
set_option maxHeartbeats 4000000 in
theorem ctfX8_layWays {l : Launch} {E : Gv} (hD : Do E) (F : Nat)  (μ : Mem) : CtV l yX8_layWays ((Cond.code yX8_layWays cX8_layWays 3 none) :: GG) rmX8_layWays E [.ref (E.1 0)] μ (fX8_layWays F μ) := by
  intro u hf
  refine of_entry (cc := cX8_layWays) (maxL := 3) (ret := none) (by decide +kernel) rfl hD (Nat.le_of_ble_eq_true rfl) (fun p e s m args below meth c X H locs hW hS ls hl => ?_)
  have hl : lv_has ls 3 [(0, .ref (E.1 0))] := hl
  unfold fX8_layWays at hf
  refine lv_iconst (v := 0) X.1.1 X.1.2.1 dX8_layWays_0 (by decide) ?_
  refine lv_istore_n (lv' := [(1, .int 0), (0, .ref (E.1 0))]) X.1.1 X.1.2.1 dX8_layWays_1 rfl hl (by decide) rfl (fun ls hl => ?_)
  exact wfX8_layWays_2 X  F 0 μ H locs ls hf hW hS (lv_sub hl [1, 0] rfl)
-- OvenHouse.roundOfWays
def rmX8_roundOfWays : Room := { frames := 0, cells := 0, slots := 0, locals := 0 }
set_option maxRecDepth 100000 in
set_option maxHeartbeats 4000000 in
theorem wfX8_roundOfWays_26_b {p : Program} {l : Launch} {e : Env} {s : State} {m : MethodId} {args : Array Value} {below : List Frame} {meth : Method} {c : Code} {E : Gv} {F : Nat} {k1 : Nat} {r : Int32} {u : Mem} (X : Fx p m c cX8_roundOfWays 5 s args (Cond.code yX8_roundOfWays cX8_roundOfWays 5 (some .int)) "OvenHouse" meth (some .int) E) (h1 : k1 < NC ∧ kd k1 = 10) (rec26 : Int32 → Int32 → Int32 → Mem → Option (Int32 × Mem)) (hrec26 : ∀ (y2 : Int32) (y3 : Int32) (y4 : Int32) (μ : Mem) (H : Heap) (locs : List Loc) (ls : Array Slot), rec26 y2 y3 y4 μ = some (r, u) → Wo E μ H → va_S (AE E) s.heap H locs → lv_has ls 5 [(0, .ref (E.1 0)), (1, .ref (E.1 k1)), (2, .int y2), (3, .int y3), (4, .int y4)] → W0 p l e rmX8_roundOfWays s m args below meth c H locs (QcI E r u) E (F0 m 26 ls [])) (y2 : Int32) (y3 : Int32) (y4 : Int32) (μ : Mem) (H : Heap) (locs : List Loc) (ls : Array Slot) (hf : fX8_roundOfWays_26_b F k1 rec26 y2 y3 y4 μ = some (r, u)) (hW : Wo E μ H) (hS : va_S (AE E) s.heap H locs) (hl : lv_has ls 5 [(0, .ref (E.1 0)), (1, .ref (E.1 k1)), (2, .int y2), (3, .int y3), (4, .int y4)]) : W0 p l e rmX8_roundOfWays s m args below meth c H locs (QcI E r u) E (F0 m 26 ls []) := by
  unfold fX8_roundOfWays_26_b at hf
  refine lv_iload X.1.1 X.1.2.1 dX8_roundOfWays_26 (lv_at hl 4 rfl) ?_
  refine lv_iload_n X.1.1 X.1.2.1 dX8_roundOfWays_28 rfl (lv_at hl 2 rfl) ?_
  refine lv_icmp_ge (tgt := 57) X.1.1 X.1.2.1 dX8_roundOfWays_29 (by decide) (fun c29 => ?_) (fun c29 => ?_)
  · rw [if_pos c29] at hf
    refine lv_iload_n X.1.1 X.1.2.1 dX8_roundOfWays_57 rfl (lv_at hl 3 rfl) ?_
    exact e_iret X hW hS hf dX8_roundOfWays_58
  · rw [if_neg c29] at hf
    refine lv_iload_n X.1.1 X.1.2.1 dX8_roundOfWays_32 rfl (lv_at hl 3 rfl) ?_
    refine lv_aload_n X.1.1 X.1.2.1 dX8_roundOfWays_33 rfl (lv_at hl 0 rfl) ?_
    refine e_getr X hW (C := RX8) (T := TX8) (N := 11) (j := 10) rfl (by decide) inX8 (by decide) (by decide) rfl (t := 80) rfl rfl mw_2_22 dX8_roundOfWays_34 ?_
    refine lv_aload_n X.1.1 X.1.2.1 dX8_roundOfWays_37 rfl (lv_at hl 1 rfl) ?_
    refine lv_iload X.1.1 X.1.2.1 dX8_roundOfWays_38 (lv_at hl 4 rfl) ?_
    refine e_ild X hW h1.1 h1.2 dX8_roundOfWays_40 hf (fun v5 hf => ?_)
    refine e_rld (t0 := 3) (c9 := 13) X hW (by decide) (by decide) rfl rfl rfl dX8_roundOfWays_41 hf (fun t6 qt6 hf => ?_)
    replace qt6 := rowWays qt6
    refine lv_aload_n X.1.1 X.1.2.1 dX8_roundOfWays_42 rfl (lv_at hl 1 rfl) ?_
    refine lv_iload X.1.1 X.1.2.1 dX8_roundOfWays_43 (lv_at hl 4 rfl) ?_
    refine lv_iconst (v := 1) X.1.1 X.1.2.1 dX8_roundOfWays_45 (by decide) ?_
    refine lv_iadd X.1.1 X.1.2.1 dX8_roundOfWays_46 ?_
    refine e_ild X hW h1.1 h1.2 dX8_roundOfWays_47 hf (fun v7 hf => ?_)
    refine e_ild X hW qt6.1 qt6.2 dX8_roundOfWays_48 hf (fun v8 hf => ?_)
    refine lv_iadd X.1.1 X.1.2.1 dX8_roundOfWays_49 ?_
    refine lv_istore_n (lv' := [(3, .int (y3 + v8)), (0, .ref (E.1 0)), (1, .ref (E.1 k1)), (2, .int y2), (4, .int y4)]) X.1.1 X.1.2.1 dX8_roundOfWays_50 rfl hl (by decide) rfl (fun ls hl => ?_)
    refine lv_iinc (v := (y4 + 1)) (lv' := [(4, .int (y4 + 1)), (3, .int (y3 + v8)), (0, .ref (E.1 0)), (1, .ref (E.1 k1)), (2, .int y2)]) X.1.1 X.1.2.1 dX8_roundOfWays_51 hl (k := 4) rfl rfl (by decide) rfl (fun ls hl => ?_)
    refine lv_goto (tgt := 26) X.1.1 X.1.2.1 dX8_roundOfWays_54 (by decide) ?_
    exact hrec26 y2 (y3 + v8) (y4 + 1) μ H locs ls hf hW hS (lv_sub hl [2, 3, 4, 1, 0] rfl)
theorem wfX8_roundOfWays_26 {p : Program} {l : Launch} {e : Env} {s : State} {m : MethodId} {args : Array Value} {below : List Frame} {meth : Method} {c : Code} {E : Gv} {F : Nat} {k1 : Nat} {r : Int32} {u : Mem} (X : Fx p m c cX8_roundOfWays 5 s args (Cond.code yX8_roundOfWays cX8_roundOfWays 5 (some .int)) "OvenHouse" meth (some .int) E) (h1 : k1 < NC ∧ kd k1 = 10) (n : Nat) : ∀ (y2 : Int32) (y3 : Int32) (y4 : Int32) (μ : Mem) (H : Heap) (locs : List Loc) (ls : Array Slot) (_ : fX8_roundOfWays_26 F k1  n y2 y3 y4 μ = some (r, u)) (_ : Wo E μ H) (_ : va_S (AE E) s.heap H locs) (_ : lv_has ls 5 [(0, .ref (E.1 0)), (1, .ref (E.1 k1)), (2, .int y2), (3, .int y3), (4, .int y4)]), W0 p l e rmX8_roundOfWays s m args below meth c H locs (QcI E r u) E (F0 m 26 ls []) := by
  induction n with
  | zero => intro y2 y3 y4 μ H locs ls hf hW hS hl; cases hf
  | succ n ih => intro y2 y3 y4 μ H locs ls hf hW hS hl; exact wfX8_roundOfWays_26_b X h1 _ ih y2 y3 y4 μ H locs ls hf hW hS hl
set_option maxRecDepth 100000 in
set_option maxHeartbeats 4000000 in
theorem ctfX8_roundOfWays {l : Launch} {E : Gv} (hD : Do E) (F : Nat) (k1 : Nat) (h1 : k1 < NC ∧ kd k1 = 10) (μ : Mem) : CtI l yX8_roundOfWays ((Cond.code yX8_roundOfWays cX8_roundOfWays 5 (some .int)) :: GG) rmX8_roundOfWays E [.ref (E.1 0), .ref (E.1 k1)] μ (fX8_roundOfWays F k1 μ) := by
  intro r u hf
  refine of_entry (cc := cX8_roundOfWays) (maxL := 5) (ret := (some .int)) (by decide +kernel) rfl hD (Nat.le_of_ble_eq_true rfl) (fun p e s m args below meth c X H locs hW hS ls hl => ?_)
  have hl : lv_has ls 5 [(0, .ref (E.1 0)), (1, .ref (E.1 k1))] := hl
  unfold fX8_roundOfWays at hf
  refine lv_aload_n X.1.1 X.1.2.1 dX8_roundOfWays_0 rfl (lv_at hl 0 rfl) ?_
  refine e_getr X hW (C := RX8) (T := TX8) (N := 11) (j := 1) rfl (by decide) inX8 (by decide) (by decide) rfl (t := 9) rfl rfl mw_2_13 dX8_roundOfWays_1 ?_
  refine e_geti X hW (C := RX3) (T := TX3) (N := 7) (j := 6) rfl (by decide) inX3 (by decide) (by decide) rfl rfl mw_1_72 dX8_roundOfWays_4 ?_
  refine lv_iconst (v := 1) X.1.1 X.1.2.1 dX8_roundOfWays_7 (by decide) ?_
  refine lv_isub X.1.1 X.1.2.1 dX8_roundOfWays_8 ?_
  refine lv_istore_n (lv' := [(2, .int ((μ 9 6) - 1)), (0, .ref (E.1 0)), (1, .ref (E.1 k1))]) X.1.1 X.1.2.1 dX8_roundOfWays_9 rfl hl (by decide) rfl (fun ls hl => ?_)
  refine lv_aload_n X.1.1 X.1.2.1 dX8_roundOfWays_10 rfl (lv_at hl 1 rfl) ?_
  refine e_getr X hW (C := RX8) (T := TX8) (N := 11) (j := 10) rfl (by decide) inX8 (by decide) (by decide) rfl (t := 80) rfl rfl mw_2_22 dX8_roundOfWays_11 ?_
  refine lv_aload_n X.1.1 X.1.2.1 dX8_roundOfWays_14 rfl (lv_at hl 2 rfl) ?_
  refine lv_iload_n X.1.1 X.1.2.1 dX8_roundOfWays_15 rfl (lv_at hl 0 rfl) ?_
  refine e_ild X hW h1.1 h1.2 dX8_roundOfWays_16 hf (fun v1 hf => ?_)
  refine e_rld (t0 := 3) (c9 := 13) X hW (by decide) (by decide) rfl rfl rfl dX8_roundOfWays_17 hf (fun t2 qt2 hf => ?_)
  replace qt2 := rowWays qt2
  refine lv_aload_n X.1.1 X.1.2.1 dX8_roundOfWays_18 rfl (lv_at hl 2 rfl) ?_
  refine lv_iconst (v := 0) X.1.1 X.1.2.1 dX8_roundOfWays_19 (by decide) ?_
  refine e_ild X hW h1.1 h1.2 dX8_roundOfWays_20 hf (fun v3 hf => ?_)
  refine e_ild X hW qt2.1 qt2.2 dX8_roundOfWays_21 hf (fun v4 hf => ?_)
  refine lv_istore_n (lv' := [(3, .int v4), (2, .int ((μ 9 6) - 1)), (0, .ref (E.1 0)), (1, .ref (E.1 k1))]) X.1.1 X.1.2.1 dX8_roundOfWays_22 rfl hl (by decide) rfl (fun ls hl => ?_)
  refine lv_iconst (v := 0) X.1.1 X.1.2.1 dX8_roundOfWays_23 (by decide) ?_
  refine lv_istore (lv' := [(4, .int 0), (3, .int v4), (2, .int ((μ 9 6) - 1)), (0, .ref (E.1 0)), (1, .ref (E.1 k1))]) X.1.1 X.1.2.1 dX8_roundOfWays_24 hl (by decide) rfl (fun ls hl => ?_)
  exact wfX8_roundOfWays_26 X h1 F ((μ 9 6) - 1) v4 0 μ H locs ls hf hW hS (lv_sub hl [3, 4, 2, 1, 0] rfl)
-- OvenHouse.through
def rmX8_through : Room := { frames := 5, cells := 0, slots := 0, locals := 106 }
set_option maxRecDepth 100000 in
set_option maxHeartbeats 4000000 in
theorem wfX8_through_54_b {p : Program} {l : Launch} {e : Env} {s : State} {m : MethodId} {args : Array Value} {below : List Frame} {meth : Method} {c : Code} {E : Gv} {F : Nat}  {r : Int32} {u : Mem} (X : Fx p m c cX8_through 4 s args (Cond.code yX8_through cX8_through 4 (some .int)) "OvenHouse" meth (some .int) E)  (rec54 : Int32 → Int32 → Int32 → Mem → Option (Int32 × Mem)) (hrec54 : ∀ (y1 : Int32) (y2 : Int32) (y3 : Int32) (μ : Mem) (H : Heap) (locs : List Loc) (ls : Array Slot), rec54 y1 y2 y3 μ = some (r, u) → Wo E μ H → va_S (AE E) s.heap H locs → lv_has ls 4 [(0, .ref (E.1 0)), (1, .int y1), (2, .int y2), (3, .int y3)] → W0 p l e rmX8_through s m args below meth c H locs (QcI E r u) E (F0 m 54 ls [])) (y1 : Int32) (y2 : Int32) (y3 : Int32) (μ : Mem) (H : Heap) (locs : List Loc) (ls : Array Slot) (hf : fX8_through_54_b F  rec54 y1 y2 y3 μ = some (r, u)) (hW : Wo E μ H) (hS : va_S (AE E) s.heap H locs) (hl : lv_has ls 4 [(0, .ref (E.1 0)), (1, .int y1), (2, .int y2), (3, .int y3)]) : W0 p l e rmX8_through s m args below meth c H locs (QcI E r u) E (F0 m 54 ls []) := by
  unfold fX8_through_54_b at hf
  refine lv_iload_n X.1.1 X.1.2.1 dX8_through_54 rfl (lv_at hl 3 rfl) ?_
  refine lv_sipush (v := 5040) X.1.1 X.1.2.1 dX8_through_55 (by decide) ?_
  refine lv_icmp_ge (tgt := 95) X.1.1 X.1.2.1 dX8_through_58 (by decide) (fun c58 => ?_) (fun c58 => ?_)
  · rw [if_pos c58] at hf
    refine lv_iload_n X.1.1 X.1.2.1 dX8_through_95 rfl (lv_at hl 1 rfl) ?_
    exact e_iret X hW hS hf dX8_through_96
  · rw [if_neg c58] at hf
    refine lv_iload_n X.1.1 X.1.2.1 dX8_through_61 rfl (lv_at hl 2 rfl) ?_
    refine lv_if_le (tgt := 95) X.1.1 X.1.2.1 dX8_through_62 (by decide) (fun c62 => ?_) (fun c62 => ?_)
    · rw [if_pos c62] at hf
      refine lv_iload_n X.1.1 X.1.2.1 dX8_through_95 rfl (lv_at hl 1 rfl) ?_
      exact e_iret X hW hS hf dX8_through_96
    · rw [if_neg c62] at hf
      refine lv_iload_n X.1.1 X.1.2.1 dX8_through_65 rfl (lv_at hl 1 rfl) ?_
      refine lv_aload_n X.1.1 X.1.2.1 dX8_through_66 rfl (lv_at hl 0 rfl) ?_
      refine lv_aload_n X.1.1 X.1.2.1 dX8_through_67 rfl (lv_at hl 0 rfl) ?_
      refine e_getr X hW (C := RX8) (T := TX8) (N := 11) (j := 6) rfl (by decide) inX8 (by decide) (by decide) rfl (t := 71) rfl rfl mw_2_18 dX8_through_68 ?_
      refine e_getr X hW (C := RX6) (T := TX6) (N := 2) (j := 0) rfl (by decide) inX6 (by decide) (by decide) rfl (t := 72) rfl rfl mw_1_228 dX8_through_71 ?_
      refine e_vi (rest := [.int y1]) (As := [.ref (E.1 72)]) X hl.1 hW hS (C := RX8) (T := TX8) (N := 11) rfl (by decide) (ctfX8_roundOfWays X.2.2.2.2 F 72 ⟨(by decide), rfl⟩ μ) (cwV (rm := rmX8_roundOfWays) 1 X.1.2.2.2.2 (gd_V mw_3_142 mw_3_144 mw_0_14 mw_1_1 mw_3_145) rfl rfl rfl (by decide +kernel) ⟨Nat.le_of_ble_eq_true rfl, Nat.le_of_ble_eq_true rfl⟩) rfl rfl (Nat.le_of_ble_eq_true rfl) dX8_through_74 ⟨Nat.zero_le _, Nat.zero_le _⟩ hf (fun r4 m3 H locs hf hW hS => ?_)
      refine e_min X hl.1 mw_3_146 mw_2_122 mw_1_13 mw_2_123 ⟨Nat.le_of_ble_eq_true rfl, Nat.le_of_ble_eq_true rfl⟩ ⟨Nat.zero_le _, Nat.zero_le _⟩ dX8_through_77 ?_
      refine lv_istore_n (lv' := [(1, .int (imin y1 r4)), (0, .ref (E.1 0)), (2, .int y2), (3, .int y3)]) X.1.1 X.1.2.1 dX8_through_80 rfl hl (by decide) rfl (fun ls hl => ?_)
      refine lv_aload_n X.1.1 X.1.2.1 dX8_through_81 rfl (lv_at hl 1 rfl) ?_
      refine e_getr X hW (C := RX8) (T := TX8) (N := 11) (j := 6) rfl (by decide) inX8 (by decide) (by decide) rfl (t := 71) rfl rfl mw_2_18 dX8_through_82 ?_
      refine e_vi (rest := []) (As := []) X hl.1 hW hS (C := RX6) (T := TX6) (N := 2) rfl (by decide) (ctfX6_step X.2.2.2.2 F m3) (cwV (rm := rmX6_step) 0 X.1.2.2.2.2 (gd_V mw_3_91 mw_3_92 mw_3_93 mw_1_9 mw_3_94) rfl rfl rfl (by decide +kernel) ⟨Nat.le_of_ble_eq_true rfl, Nat.le_of_ble_eq_true rfl⟩) rfl rfl (Nat.le_of_ble_eq_true rfl) dX8_through_85 ⟨Nat.zero_le _, Nat.zero_le _⟩ hf (fun r6 m5 H locs hf hW hS => ?_)
      refine lv_istore_n (lv' := [(2, .int r6), (1, .int (imin y1 r4)), (0, .ref (E.1 0)), (3, .int y3)]) X.1.1 X.1.2.1 dX8_through_88 rfl hl (by decide) rfl (fun ls hl => ?_)
      refine lv_iinc (v := (y3 + 1)) (lv' := [(3, .int (y3 + 1)), (2, .int r6), (1, .int (imin y1 r4)), (0, .ref (E.1 0))]) X.1.1 X.1.2.1 dX8_through_89 hl (k := 3) rfl rfl (by decide) rfl (fun ls hl => ?_)
      refine lv_goto (tgt := 54) X.1.1 X.1.2.1 dX8_through_92 (by decide) ?_
      exact hrec54 (imin y1 r4) r6 (y3 + 1) m5 H locs ls hf hW hS (lv_sub hl [3, 2, 1, 0] rfl)
theorem wfX8_through_54 {p : Program} {l : Launch} {e : Env} {s : State} {m : MethodId} {args : Array Value} {below : List Frame} {meth : Method} {c : Code} {E : Gv} {F : Nat}  {r : Int32} {u : Mem} (X : Fx p m c cX8_through 4 s args (Cond.code yX8_through cX8_through 4 (some .int)) "OvenHouse" meth (some .int) E)  (n : Nat) : ∀ (y1 : Int32) (y2 : Int32) (y3 : Int32) (μ : Mem) (H : Heap) (locs : List Loc) (ls : Array Slot) (_ : fX8_through_54 F   n y1 y2 y3 μ = some (r, u)) (_ : Wo E μ H) (_ : va_S (AE E) s.heap H locs) (_ : lv_has ls 4 [(0, .ref (E.1 0)), (1, .int y1), (2, .int y2), (3, .int y3)]), W0 p l e rmX8_through s m args below meth c H locs (QcI E r u) E (F0 m 54 ls []) := by
  induction n with
  | zero => intro y1 y2 y3 μ H locs ls hf hW hS hl; cases hf
  | succ n ih => intro y1 y2 y3 μ H locs ls hf hW hS hl; exact wfX8_through_54_b X  _ ih y1 y2 y3 μ H locs ls hf hW hS hl
set_option maxRecDepth 100000 in
set_option maxHeartbeats 4000000 in
theorem ctfX8_through {l : Launch} {E : Gv} (hD : Do E) (F : Nat)  (μ : Mem) : CtI l yX8_through ((Cond.code yX8_through cX8_through 4 (some .int)) :: GG) rmX8_through E [.ref (E.1 0)] μ (fX8_through F μ) := by
  intro r u hf
  refine of_entry (cc := cX8_through) (maxL := 4) (ret := (some .int)) (by decide +kernel) rfl hD (Nat.le_of_ble_eq_true rfl) (fun p e s m args below meth c X H locs hW hS ls hl => ?_)
  have hl : lv_has ls 4 [(0, .ref (E.1 0))] := hl
  unfold fX8_through at hf
  refine lv_aload_n X.1.1 X.1.2.1 dX8_through_0 rfl (lv_at hl 0 rfl) ?_
  refine e_getr X hW (C := RX8) (T := TX8) (N := 11) (j := 1) rfl (by decide) inX8 (by decide) (by decide) rfl (t := 9) rfl rfl mw_2_13 dX8_through_1 ?_
  refine e_geti X hW (C := RX3) (T := TX3) (N := 7) (j := 6) rfl (by decide) inX3 (by decide) (by decide) rfl rfl mw_1_72 dX8_through_4 ?_
  refine lv_if_ne (tgt := 13) X.1.1 X.1.2.1 dX8_through_7 (by decide) (fun c7 => ?_) (fun c7 => ?_)
  · rw [if_neg c7] at hf
    refine lv_aload_n X.1.1 X.1.2.1 dX8_through_13 rfl (lv_at hl 0 rfl) ?_
    refine e_getr X hW (C := RX8) (T := TX8) (N := 11) (j := 1) rfl (by decide) inX8 (by decide) (by decide) rfl (t := 9) rfl rfl mw_2_13 dX8_through_14 ?_
    refine e_geti X hW (C := RX3) (T := TX3) (N := 7) (j := 6) rfl (by decide) inX3 (by decide) (by decide) rfl rfl mw_1_72 dX8_through_17 ?_
    refine lv_bipush (v := 8) X.1.1 X.1.2.1 dX8_through_20 (by decide) ?_
    refine lv_icmp_le (tgt := 28) X.1.1 X.1.2.1 dX8_through_22 (by decide) (fun c22 => ?_) (fun c22 => ?_)
    · rw [if_pos c22] at hf
      refine lv_aload_n X.1.1 X.1.2.1 dX8_through_28 rfl (lv_at hl 0 rfl) ?_
      refine e_vv (rest := []) (As := []) X hl.1 hW hS (C := RX8) (T := TX8) (N := 11) rfl (by decide) (ctfX8_layWays X.2.2.2.2 F μ) (cwV (rm := rmX8_layWays) 0 X.1.2.2.2.2 (gd_V mw_3_138 mw_3_140 mw_0_13 mw_1_1 mw_3_141) rfl rfl rfl (by decide +kernel) ⟨Nat.le_of_ble_eq_true rfl, Nat.le_of_ble_eq_true rfl⟩) rfl rfl (Nat.le_of_ble_eq_true rfl) dX8_through_29 ⟨Nat.zero_le _, Nat.zero_le _⟩ hf (fun m1 H locs hf hW hS => ?_)
      refine lv_aload_n X.1.1 X.1.2.1 dX8_through_32 rfl (lv_at hl 0 rfl) ?_
      refine e_getr X hW (C := RX8) (T := TX8) (N := 11) (j := 6) rfl (by decide) inX8 (by decide) (by decide) rfl (t := 71) rfl rfl mw_2_18 dX8_through_33 ?_
      refine lv_aload_n X.1.1 X.1.2.1 dX8_through_36 rfl (lv_at hl 0 rfl) ?_
      refine e_getr X hW (C := RX8) (T := TX8) (N := 11) (j := 1) rfl (by decide) inX8 (by decide) (by decide) rfl (t := 9) rfl rfl mw_2_13 dX8_through_37 ?_
      refine e_geti X hW (C := RX3) (T := TX3) (N := 7) (j := 6) rfl (by decide) inX3 (by decide) (by decide) rfl rfl mw_1_72 dX8_through_40 ?_
      refine e_vv (rest := []) (As := [.int (m1 9 6)]) X hl.1 hW hS (C := RX6) (T := TX6) (N := 2) rfl (by decide) (ctfX6_begin X.2.2.2.2 F (m1 9 6) m1) (cwV (rm := rmX6_begin) 1 X.1.2.2.2.2 (gd_V mw_3_82 mw_3_83 mw_3_84 mw_1_9 mw_3_85) rfl rfl rfl (by decide +kernel) ⟨Nat.le_of_ble_eq_true rfl, Nat.le_of_ble_eq_true rfl⟩) rfl rfl (Nat.le_of_ble_eq_true rfl) dX8_through_43 ⟨Nat.zero_le _, Nat.zero_le _⟩ hf (fun m2 H locs hf hW hS => ?_)
      refine lv_ldcw X.1.1 X.1.2.1 X.1.2.2.2.1 (X.1.2.2.2.2 _ (List.mem_cons_of_mem _ mw_3_86)) dX8_through_46 ?_
      refine lv_istore_n (lv' := [(1, .int 2147483647), (0, .ref (E.1 0))]) X.1.1 X.1.2.1 dX8_through_49 rfl hl (by decide) rfl (fun ls hl => ?_)
      refine lv_iconst (v := 1) X.1.1 X.1.2.1 dX8_through_50 (by decide) ?_
      refine lv_istore_n (lv' := [(2, .int 1), (1, .int 2147483647), (0, .ref (E.1 0))]) X.1.1 X.1.2.1 dX8_through_51 rfl hl (by decide) rfl (fun ls hl => ?_)
      refine lv_iconst (v := 0) X.1.1 X.1.2.1 dX8_through_52 (by decide) ?_
      refine lv_istore_n (lv' := [(3, .int 0), (2, .int 1), (1, .int 2147483647), (0, .ref (E.1 0))]) X.1.1 X.1.2.1 dX8_through_53 rfl hl (by decide) rfl (fun ls hl => ?_)
      exact wfX8_through_54 X  F 2147483647 1 0 m2 H locs ls hf hW hS (lv_sub hl [3, 2, 1, 0] rfl)
    · rw [if_neg c22] at hf
      refine lv_bipush (v := (-4)) X.1.1 X.1.2.1 dX8_through_25 (by decide) ?_
      exact e_iret X hW hS hf dX8_through_27
  · rw [if_pos c7] at hf
    refine lv_bipush (v := (-5)) X.1.1 X.1.2.1 dX8_through_10 (by decide) ?_
    exact e_iret X hW hS hf dX8_through_12
-- OvenHouse.batches
def rmX8_batches : Room := { frames := 1, cells := 0, slots := 0, locals := 24 }
set_option maxRecDepth 100000 in
set_option maxHeartbeats 4000000 in
theorem wfX8_batches_47_b {p : Program} {l : Launch} {e : Env} {s : State} {m : MethodId} {args : Array Value} {below : List Frame} {meth : Method} {c : Code} {E : Gv} {F : Nat}  {r : Int32} {u : Mem} (X : Fx p m c cX8_batches 4 s args (Cond.code yX8_batches cX8_batches 4 (some .int)) "OvenHouse" meth (some .int) E)  (rec47 : Int32 → Int32 → Int32 → Mem → Option (Int32 × Mem)) (hrec47 : ∀ (y1 : Int32) (y2 : Int32) (y3 : Int32) (μ : Mem) (H : Heap) (locs : List Loc) (ls : Array Slot), rec47 y1 y2 y3 μ = some (r, u) → Wo E μ H → va_S (AE E) s.heap H locs → lv_has ls 4 [(0, .ref (E.1 0)), (1, .int y1), (2, .int y2), (3, .int y3)] → W0 p l e rmX8_batches s m args below meth c H locs (QcI E r u) E (F0 m 47 ls [])) (y1 : Int32) (y2 : Int32) (y3 : Int32) (μ : Mem) (H : Heap) (locs : List Loc) (ls : Array Slot) (hf : fX8_batches_47_b F  rec47 y1 y2 y3 μ = some (r, u)) (hW : Wo E μ H) (hS : va_S (AE E) s.heap H locs) (hl : lv_has ls 4 [(0, .ref (E.1 0)), (1, .int y1), (2, .int y2), (3, .int y3)]) : W0 p l e rmX8_batches s m args below meth c H locs (QcI E r u) E (F0 m 47 ls []) := by
  unfold fX8_batches_47_b at hf
  refine lv_iload_n X.1.1 X.1.2.1 dX8_batches_47 rfl (lv_at hl 3 rfl) ?_
  refine lv_if_lt (tgt := 75) X.1.1 X.1.2.1 dX8_batches_48 (by decide) (fun c48 => ?_) (fun c48 => ?_)
  · rw [if_pos c48] at hf
    refine lv_iload_n X.1.1 X.1.2.1 dX8_batches_75 rfl (lv_at hl 2 rfl) ?_
    exact e_iret X hW hS hf dX8_batches_76
  · rw [if_neg c48] at hf
    refine lv_iload_n X.1.1 X.1.2.1 dX8_batches_51 rfl (lv_at hl 2 rfl) ?_
    refine lv_aload_n X.1.1 X.1.2.1 dX8_batches_52 rfl (lv_at hl 0 rfl) ?_
    refine e_getr X hW (C := RX8) (T := TX8) (N := 11) (j := 1) rfl (by decide) inX8 (by decide) (by decide) rfl (t := 9) rfl rfl mw_2_13 dX8_batches_53 ?_
    refine e_getr X hW (C := RX3) (T := TX3) (N := 7) (j := 1) rfl (by decide) inX3 (by decide) (by decide) rfl (t := 11) rfl rfl mw_1_62 dX8_batches_56 ?_
    refine lv_aload_n X.1.1 X.1.2.1 dX8_batches_59 rfl (lv_at hl 0 rfl) ?_
    refine e_getr X hW (C := RX8) (T := TX8) (N := 11) (j := 9) rfl (by decide) inX8 (by decide) (by decide) rfl (t := 79) rfl rfl mw_2_21 dX8_batches_60 ?_
    refine lv_iload_n X.1.1 X.1.2.1 dX8_batches_63 rfl (lv_at hl 3 rfl) ?_
    refine e_ild X hW (by decide) rfl dX8_batches_64 hf (fun v2 hf => ?_)
    refine e_ild X hW (by decide) rfl dX8_batches_65 hf (fun v3 hf => ?_)
    refine lv_iadd X.1.1 X.1.2.1 dX8_batches_66 ?_
    refine lv_istore_n (lv' := [(2, .int (y2 + v3)), (0, .ref (E.1 0)), (1, .int y1), (3, .int y3)]) X.1.1 X.1.2.1 dX8_batches_67 rfl hl (by decide) rfl (fun ls hl => ?_)
    refine lv_iload_n X.1.1 X.1.2.1 dX8_batches_68 rfl (lv_at hl 3 rfl) ?_
    refine lv_iload_n X.1.1 X.1.2.1 dX8_batches_69 rfl (lv_at hl 2 rfl) ?_
    refine lv_isub X.1.1 X.1.2.1 dX8_batches_70 ?_
    refine lv_istore_n (lv' := [(3, .int (y3 - y1)), (2, .int (y2 + v3)), (0, .ref (E.1 0)), (1, .int y1)]) X.1.1 X.1.2.1 dX8_batches_71 rfl hl (by decide) rfl (fun ls hl => ?_)
    refine lv_goto (tgt := 47) X.1.1 X.1.2.1 dX8_batches_72 (by decide) ?_
    exact hrec47 y1 (y2 + v3) (y3 - y1) μ H locs ls hf hW hS (lv_sub hl [2, 3, 1, 0] rfl)
theorem wfX8_batches_47 {p : Program} {l : Launch} {e : Env} {s : State} {m : MethodId} {args : Array Value} {below : List Frame} {meth : Method} {c : Code} {E : Gv} {F : Nat}  {r : Int32} {u : Mem} (X : Fx p m c cX8_batches 4 s args (Cond.code yX8_batches cX8_batches 4 (some .int)) "OvenHouse" meth (some .int) E)  (n : Nat) : ∀ (y1 : Int32) (y2 : Int32) (y3 : Int32) (μ : Mem) (H : Heap) (locs : List Loc) (ls : Array Slot) (_ : fX8_batches_47 F   n y1 y2 y3 μ = some (r, u)) (_ : Wo E μ H) (_ : va_S (AE E) s.heap H locs) (_ : lv_has ls 4 [(0, .ref (E.1 0)), (1, .int y1), (2, .int y2), (3, .int y3)]), W0 p l e rmX8_batches s m args below meth c H locs (QcI E r u) E (F0 m 47 ls []) := by
  induction n with
  | zero => intro y1 y2 y3 μ H locs ls hf hW hS hl; cases hf
  | succ n ih => intro y1 y2 y3 μ H locs ls hf hW hS hl; exact wfX8_batches_47_b X  _ ih y1 y2 y3 μ H locs ls hf hW hS hl
set_option maxRecDepth 100000 in
set_option maxHeartbeats 4000000 in
theorem ctfX8_batches {l : Launch} {E : Gv} (hD : Do E) (F : Nat) (x1 : Int32)  (μ : Mem) : CtI l yX8_batches ((Cond.code yX8_batches cX8_batches 4 (some .int)) :: GG) rmX8_batches E [.ref (E.1 0), .int x1] μ (fX8_batches F x1 μ) := by
  intro r u hf
  refine of_entry (cc := cX8_batches) (maxL := 4) (ret := (some .int)) (by decide +kernel) rfl hD (Nat.le_of_ble_eq_true rfl) (fun p e s m args below meth c X H locs hW hS ls hl => ?_)
  have hl : lv_has ls 4 [(0, .ref (E.1 0)), (1, .int x1)] := hl
  unfold fX8_batches at hf
  refine lv_iload_n X.1.1 X.1.2.1 dX8_batches_0 rfl (lv_at hl 1 rfl) ?_
  refine lv_iconst (v := 1) X.1.1 X.1.2.1 dX8_batches_1 (by decide) ?_
  refine lv_icmp_lt (tgt := 11) X.1.1 X.1.2.1 dX8_batches_2 (by decide) (fun c2 => ?_) (fun c2 => ?_)
  · rw [if_pos c2] at hf
    refine lv_bipush (v := (-2)) X.1.1 X.1.2.1 dX8_batches_11 (by decide) ?_
    exact e_iret X hW hS hf dX8_batches_13
  · rw [if_neg c2] at hf
    refine lv_iload_n X.1.1 X.1.2.1 dX8_batches_5 rfl (lv_at hl 1 rfl) ?_
    refine lv_bipush (v := 40) X.1.1 X.1.2.1 dX8_batches_6 (by decide) ?_
    refine lv_icmp_le (tgt := 14) X.1.1 X.1.2.1 dX8_batches_8 (by decide) (fun c8 => ?_) (fun c8 => ?_)
    · rw [if_pos c8] at hf
      refine lv_aload_n X.1.1 X.1.2.1 dX8_batches_14 rfl (lv_at hl 0 rfl) ?_
      refine e_getr X hW (C := RX8) (T := TX8) (N := 11) (j := 1) rfl (by decide) inX8 (by decide) (by decide) rfl (t := 9) rfl rfl mw_2_13 dX8_batches_15 ?_
      refine e_getr X hW (C := RX3) (T := TX3) (N := 7) (j := 1) rfl (by decide) inX3 (by decide) (by decide) rfl (t := 11) rfl rfl mw_1_62 dX8_batches_18 ?_
      refine lv_aload_n X.1.1 X.1.2.1 dX8_batches_21 rfl (lv_at hl 0 rfl) ?_
      refine e_getr X hW (C := RX8) (T := TX8) (N := 11) (j := 1) rfl (by decide) inX8 (by decide) (by decide) rfl (t := 9) rfl rfl mw_2_13 dX8_batches_22 ?_
      refine e_geti X hW (C := RX3) (T := TX3) (N := 7) (j := 6) rfl (by decide) inX3 (by decide) (by decide) rfl rfl mw_1_72 dX8_batches_25 ?_
      refine lv_aload_n X.1.1 X.1.2.1 dX8_batches_28 rfl (lv_at hl 0 rfl) ?_
      refine e_getr X hW (C := RX8) (T := TX8) (N := 11) (j := 9) rfl (by decide) inX8 (by decide) (by decide) rfl (t := 79) rfl rfl mw_2_21 dX8_batches_29 ?_
      refine e_sv (rest := []) (As := [.ref (E.1 11), .int (μ 9 6), .ref (E.1 79)]) X hl.1 hW hS (ctfX8_rank X.2.2.2.2 F 11 (μ 9 6) 79 ⟨(by decide), rfl⟩ ⟨(by decide), rfl⟩ μ) (cwS (rm := rmX8_rank) 3 X.1.2.2.2.2 (gd_S mw_3_151 mw_2_183 mw_1_1 mw_2_184) rfl rfl rfl (by decide +kernel) ⟨Nat.le_of_ble_eq_true rfl, Nat.le_of_ble_eq_true rfl⟩) rfl rfl (Nat.le_of_ble_eq_true rfl) dX8_batches_32 ⟨Nat.zero_le _, Nat.zero_le _⟩ hf (fun m1 H locs hf hW hS => ?_)
      refine lv_iconst (v := 0) X.1.1 X.1.2.1 dX8_batches_35 (by decide) ?_
      refine lv_istore_n (lv' := [(2, .int 0), (0, .ref (E.1 0)), (1, .int x1)]) X.1.1 X.1.2.1 dX8_batches_36 rfl hl (by decide) rfl (fun ls hl => ?_)
      refine lv_aload_n X.1.1 X.1.2.1 dX8_batches_37 rfl (lv_at hl 1 rfl) ?_
      refine e_getr X hW (C := RX8) (T := TX8) (N := 11) (j := 1) rfl (by decide) inX8 (by decide) (by decide) rfl (t := 9) rfl rfl mw_2_13 dX8_batches_38 ?_
      refine e_geti X hW (C := RX3) (T := TX3) (N := 7) (j := 6) rfl (by decide) inX3 (by decide) (by decide) rfl rfl mw_1_72 dX8_batches_41 ?_
      refine lv_iconst (v := 1) X.1.1 X.1.2.1 dX8_batches_44 (by decide) ?_
      refine lv_isub X.1.1 X.1.2.1 dX8_batches_45 ?_
      refine lv_istore_n (lv' := [(3, .int ((m1 9 6) - 1)), (2, .int 0), (0, .ref (E.1 0)), (1, .int x1)]) X.1.1 X.1.2.1 dX8_batches_46 rfl hl (by decide) rfl (fun ls hl => ?_)
      exact wfX8_batches_47 X  F x1 0 ((m1 9 6) - 1) m1 H locs ls hf hW hS (lv_sub hl [2, 3, 1, 0] rfl)
    · rw [if_neg c8] at hf
      refine lv_bipush (v := (-2)) X.1.1 X.1.2.1 dX8_batches_11 (by decide) ?_
      exact e_iret X hW hS hf dX8_batches_13
-- OvenHouse.count
def rmX8_count : Room := { frames := 1, cells := 0, slots := 0, locals := 23 }
set_option maxRecDepth 100000 in
set_option maxHeartbeats 4000000 in
theorem ctfX8_count {l : Launch} {E : Gv} (hD : Do E) (F : Nat) (x1 : Int32)  (μ : Mem) : CtI l yX8_count ((Cond.code yX8_count cX8_count 2 (some .int)) :: GG) rmX8_count E [.ref (E.1 0), .int x1] μ (fX8_count F x1 μ) := by
  intro r u hf
  refine of_entry (cc := cX8_count) (maxL := 2) (ret := (some .int)) (by decide +kernel) rfl hD (Nat.le_of_ble_eq_true rfl) (fun p e s m args below meth c X H locs hW hS ls hl => ?_)
  have hl : lv_has ls 2 [(0, .ref (E.1 0)), (1, .int x1)] := hl
  unfold fX8_count at hf
  refine lv_iload_n X.1.1 X.1.2.1 dX8_count_0 rfl (lv_at hl 1 rfl) ?_
  by_cases c1_0 : x1 = 0
  · rw [if_pos c1_0] at hf
    refine lv_tableIn (off := 39) (tgt := 40) X.1.1 X.1.2.1 dX8_count_1 (by rw [c1_0]; decide) (by rw [c1_0]; decide) (by rw [c1_0]; rfl) (by decide) ?_
    refine lv_aload_n X.1.1 X.1.2.1 dX8_count_40 rfl (lv_at hl 0 rfl) ?_
    refine e_getr X hW (C := RX8) (T := TX8) (N := 11) (j := 1) rfl (by decide) inX8 (by decide) (by decide) rfl (t := 9) rfl rfl mw_2_13 dX8_count_41 ?_
    refine e_geti X hW (C := RX3) (T := TX3) (N := 7) (j := 6) rfl (by decide) inX3 (by decide) (by decide) rfl rfl mw_1_72 dX8_count_44 ?_
    exact e_iret X hW hS hf dX8_count_47
  · rw [if_neg c1_0] at hf
    by_cases c1_1 : x1 = 1
    · rw [if_pos c1_1] at hf
      refine lv_tableIn (off := 47) (tgt := 48) X.1.1 X.1.2.1 dX8_count_1 (by rw [c1_1]; decide) (by rw [c1_1]; decide) (by rw [c1_1]; rfl) (by decide) ?_
      refine lv_aload_n X.1.1 X.1.2.1 dX8_count_48 rfl (lv_at hl 0 rfl) ?_
      refine e_getr X hW (C := RX8) (T := TX8) (N := 11) (j := 1) rfl (by decide) inX8 (by decide) (by decide) rfl (t := 9) rfl rfl mw_2_13 dX8_count_49 ?_
      refine lv_aload_n X.1.1 X.1.2.1 dX8_count_52 rfl (lv_at hl 0 rfl) ?_
      refine e_getr X hW (C := RX8) (T := TX8) (N := 11) (j := 1) rfl (by decide) inX8 (by decide) (by decide) rfl (t := 9) rfl rfl mw_2_13 dX8_count_53 ?_
      refine e_getr X hW (C := RX3) (T := TX3) (N := 7) (j := 0) rfl (by decide) inX3 (by decide) (by decide) rfl (t := 10) rfl rfl mw_1_59 dX8_count_56 ?_
      refine e_vi (rest := []) (As := [.ref (E.1 10)]) X hl.1 hW hS (C := RX3) (T := TX3) (N := 7) rfl (by decide) (ctfX3_sum X.2.2.2.2 F 10 ⟨(by decide), rfl⟩ μ) (cwV (rm := rmX3_sum) 1 X.1.2.2.2.2 (gd_V mw_2_236 mw_2_237 mw_2_238 mw_1_4 mw_2_239) rfl rfl rfl (by decide +kernel) ⟨Nat.le_of_ble_eq_true rfl, Nat.le_of_ble_eq_true rfl⟩) rfl rfl (Nat.le_of_ble_eq_true rfl) dX8_count_59 ⟨Nat.zero_le _, Nat.zero_le _⟩ hf (fun r2 m1 H locs hf hW hS => ?_)
      exact e_iret X hW hS hf dX8_count_62
    · rw [if_neg c1_1] at hf
      by_cases c1_2 : x1 = 2
      · rw [if_pos c1_2] at hf
        refine lv_tableIn (off := 62) (tgt := 63) X.1.1 X.1.2.1 dX8_count_1 (by rw [c1_2]; decide) (by rw [c1_2]; decide) (by rw [c1_2]; rfl) (by decide) ?_
        refine lv_aload_n X.1.1 X.1.2.1 dX8_count_63 rfl (lv_at hl 0 rfl) ?_
        refine e_getr X hW (C := RX8) (T := TX8) (N := 11) (j := 1) rfl (by decide) inX8 (by decide) (by decide) rfl (t := 9) rfl rfl mw_2_13 dX8_count_64 ?_
        refine lv_aload_n X.1.1 X.1.2.1 dX8_count_67 rfl (lv_at hl 0 rfl) ?_
        refine e_getr X hW (C := RX8) (T := TX8) (N := 11) (j := 1) rfl (by decide) inX8 (by decide) (by decide) rfl (t := 9) rfl rfl mw_2_13 dX8_count_68 ?_
        refine e_getr X hW (C := RX3) (T := TX3) (N := 7) (j := 1) rfl (by decide) inX3 (by decide) (by decide) rfl (t := 11) rfl rfl mw_1_62 dX8_count_71 ?_
        refine e_vi (rest := []) (As := [.ref (E.1 11)]) X hl.1 hW hS (C := RX3) (T := TX3) (N := 7) rfl (by decide) (ctfX3_sum X.2.2.2.2 F 11 ⟨(by decide), rfl⟩ μ) (cwV (rm := rmX3_sum) 1 X.1.2.2.2.2 (gd_V mw_2_236 mw_2_237 mw_2_238 mw_1_4 mw_2_239) rfl rfl rfl (by decide +kernel) ⟨Nat.le_of_ble_eq_true rfl, Nat.le_of_ble_eq_true rfl⟩) rfl rfl (Nat.le_of_ble_eq_true rfl) dX8_count_74 ⟨Nat.zero_le _, Nat.zero_le _⟩ hf (fun r4 m3 H locs hf hW hS => ?_)
        exact e_iret X hW hS hf dX8_count_77
      · rw [if_neg c1_2] at hf
        by_cases c1_3 : x1 = 3
        · rw [if_pos c1_3] at hf
          refine lv_tableIn (off := 77) (tgt := 78) X.1.1 X.1.2.1 dX8_count_1 (by rw [c1_3]; decide) (by rw [c1_3]; decide) (by rw [c1_3]; rfl) (by decide) ?_
          refine lv_aload_n X.1.1 X.1.2.1 dX8_count_78 rfl (lv_at hl 0 rfl) ?_
          refine e_getr X hW (C := RX8) (T := TX8) (N := 11) (j := 3) rfl (by decide) inX8 (by decide) (by decide) rfl (t := 53) rfl rfl mw_2_15 dX8_count_79 ?_
          refine e_geti X hW (C := RX0) (T := TX0) (N := 3) (j := 2) rfl (by decide) inX0 (by decide) (by decide) rfl rfl mw_1_119 dX8_count_82 ?_
          refine lv_if_eq (tgt := 92) X.1.1 X.1.2.1 dX8_count_85 (by decide) (fun c85 => ?_) (fun c85 => ?_)
          · rw [if_pos c85] at hf
            refine lv_iconst (v := 0) X.1.1 X.1.2.1 dX8_count_92 (by decide) ?_
            exact e_iret X hW hS hf dX8_count_93
          · rw [if_neg c85] at hf
            refine lv_iconst (v := 1) X.1.1 X.1.2.1 dX8_count_88 (by decide) ?_
            refine lv_goto (tgt := 93) X.1.1 X.1.2.1 dX8_count_89 (by decide) ?_
            exact e_iret X hW hS hf dX8_count_93
        · rw [if_neg c1_3] at hf
          by_cases c1_4 : x1 = 4
          · rw [if_pos c1_4] at hf
            refine lv_tableIn (off := 93) (tgt := 94) X.1.1 X.1.2.1 dX8_count_1 (by rw [c1_4]; decide) (by rw [c1_4]; decide) (by rw [c1_4]; rfl) (by decide) ?_
            refine lv_aload_n X.1.1 X.1.2.1 dX8_count_94 rfl (lv_at hl 0 rfl) ?_
            refine e_getr X hW (C := RX8) (T := TX8) (N := 11) (j := 2) rfl (by decide) inX8 (by decide) (by decide) rfl (t := 16) rfl rfl mw_2_14 dX8_count_95 ?_
            refine e_geti X hW (C := RX2) (T := TX2) (N := 3) (j := 2) rfl (by decide) inX2 (by decide) (by decide) rfl rfl mw_1_100 dX8_count_98 ?_
            exact e_iret X hW hS hf dX8_count_101
          · rw [if_neg c1_4] at hf
            by_cases c1_5 : x1 = 5
            · rw [if_pos c1_5] at hf
              refine lv_tableIn (off := 101) (tgt := 102) X.1.1 X.1.2.1 dX8_count_1 (by rw [c1_5]; decide) (by rw [c1_5]; decide) (by rw [c1_5]; rfl) (by decide) ?_
              refine lv_aload_n X.1.1 X.1.2.1 dX8_count_102 rfl (lv_at hl 0 rfl) ?_
              refine e_getr X hW (C := RX8) (T := TX8) (N := 11) (j := 0) rfl (by decide) inX8 (by decide) (by decide) rfl (t := 1) rfl rfl mw_2_12 dX8_count_103 ?_
              refine e_geti X hW (C := RX7) (T := TX7) (N := 4) (j := 3) rfl (by decide) inX7 (by decide) (by decide) rfl rfl mw_1_40 dX8_count_106 ?_
              exact e_iret X hW hS hf dX8_count_109
            · rw [if_neg c1_5] at hf
              refine lv_tableOut (tgt := 110) X.1.1 X.1.2.1 dX8_count_1 (by have e0 := lv_neT c1_0 (a := 0) rfl; have e1 := lv_neT c1_1 (a := 1) rfl; have e2 := lv_neT c1_2 (a := 2) rfl; have e3 := lv_neT c1_3 (a := 3) rfl; have e4 := lv_neT c1_4 (a := 4) rfl; have e5 := lv_neT c1_5 (a := 5) rfl; have e := e0; omega) (by decide) ?_
              refine lv_bipush (v := (-2)) X.1.1 X.1.2.1 dX8_count_110 (by decide) ?_
              exact e_iret X hW hS hf dX8_count_112
