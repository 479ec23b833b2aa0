-- OvenHouse.copy
def rmX8_copy : Room := { frames := 1, cells := 0, slots := 0, locals := 23 }
set_option maxRecDepth 100000 in
set_option maxHeartbeats 4000000 in
theorem wfX8_copy_39 {p : Program} {l : Launch} {e : Env} {s : State} {m : MethodId} {args : Array Value} {below : List Frame} {meth : Method} {c : Code} {E : Gv} {F : Nat}  {r : Int32} {u : Mem} (X : Fx p m c cX8_copy 6 s args (Cond.code yX8_copy cX8_copy 6 (some .int)) "OvenHouse" meth (some .int) E)  (μ : Mem) (H : Heap) (locs : List Loc) (ls : Array Slot) (hf : fX8_copy_39 F    μ = some (r, u)) (hW : Wo E μ H) (hS : va_S (AE E) s.heap H locs) (hl : lv_has ls 6 [(0, .ref (E.1 0))]) : W0 p l e rmX8_copy s m args below meth c H locs (QcI E r u) E (F0 m 39 ls []) := by
  unfold fX8_copy_39 at hf
  refine lv_aload_n X.1.1 X.1.2.1 dX8_copy_39 rfl (lv_at hl 0 rfl) ?_
  refine e_getr X hW (C := RX8) (T := TX8) (N := 11) (j := 0) rfl (by decide) inX8 (by decide) (by decide) rfl (t := 1) rfl rfl mw_2_12 dX8_copy_40 ?_
  refine lv_iconst (v := 1) X.1.1 X.1.2.1 dX8_copy_43 (by decide) ?_
  refine e_vi (rest := []) (As := [.int 1]) X hl.1 hW hS (C := RX7) (T := TX7) (N := 4) rfl (by decide) (ctfX7_finding X.2.2.2.2 F 1 μ) (cwV (rm := rmX7_finding) 1 X.1.2.2.2.2 (gd_V mw_2_56 mw_2_57 mw_2_58 mw_1_2 mw_2_59) rfl rfl rfl (by decide +kernel) ⟨Nat.le_of_ble_eq_true rfl, Nat.le_of_ble_eq_true rfl⟩) rfl rfl (Nat.le_of_ble_eq_true rfl) dX8_copy_44 ⟨Nat.zero_le _, Nat.zero_le _⟩ hf (fun r21 m20 H locs hf hW hS => ?_)
  exact e_iret X hW hS hf dX8_copy_47
set_option maxRecDepth 100000 in
set_option maxHeartbeats 4000000 in
theorem wfX8_copy_107 {p : Program} {l : Launch} {e : Env} {s : State} {m : MethodId} {args : Array Value} {below : List Frame} {meth : Method} {c : Code} {E : Gv} {F : Nat}  {r : Int32} {u : Mem} (X : Fx p m c cX8_copy 6 s args (Cond.code yX8_copy cX8_copy 6 (some .int)) "OvenHouse" meth (some .int) E)  (μ : Mem) (H : Heap) (locs : List Loc) (ls : Array Slot) (hf : fX8_copy_107 F    μ = some (r, u)) (hW : Wo E μ H) (hS : va_S (AE E) s.heap H locs) (hl : lv_has ls 6 [(0, .ref (E.1 0))]) : W0 p l e rmX8_copy s m args below meth c H locs (QcI E r u) E (F0 m 107 ls []) := by
  unfold fX8_copy_107 at hf
  refine lv_aload_n X.1.1 X.1.2.1 dX8_copy_107 rfl (lv_at hl 0 rfl) ?_
  refine e_getr X hW (C := RX8) (T := TX8) (N := 11) (j := 0) rfl (by decide) inX8 (by decide) (by decide) rfl (t := 1) rfl rfl mw_2_12 dX8_copy_108 ?_
  refine lv_iconst (v := 2) X.1.1 X.1.2.1 dX8_copy_111 (by decide) ?_
  refine e_vi (rest := []) (As := [.int 2]) X hl.1 hW hS (C := RX7) (T := TX7) (N := 4) rfl (by decide) (ctfX7_finding X.2.2.2.2 F 2 μ) (cwV (rm := rmX7_finding) 1 X.1.2.2.2.2 (gd_V mw_2_56 mw_2_57 mw_2_58 mw_1_2 mw_2_59) rfl rfl rfl (by decide +kernel) ⟨Nat.le_of_ble_eq_true rfl, Nat.le_of_ble_eq_true rfl⟩) rfl rfl (Nat.le_of_ble_eq_true rfl) dX8_copy_112 ⟨Nat.zero_le _, Nat.zero_le _⟩ hf (fun r23 m22 H locs hf hW hS => ?_)
  exact e_iret X hW hS hf dX8_copy_115
set_option maxRecDepth 100000 in
set_option maxHeartbeats 4000000 in
theorem ctfX8_copy {l : Launch} {E : Gv} (hD : Do E) (F : Nat) (x1 : Int32) (x2 : Int32) (x3 : Int32) (x4 : Int32) (x5 : Int32)  (μ : Mem) : CtI l yX8_copy ((Cond.code yX8_copy cX8_copy 6 (some .int)) :: GG) rmX8_copy E [.ref (E.1 0), .int x1, .int x2, .int x3, .int x4, .int x5] μ (fX8_copy F x1 x2 x3 x4 x5 μ) := by
  intro r u hf
  refine of_entry (cc := cX8_copy) (maxL := 6) (ret := (some .int)) (by decide +kernel) rfl hD (Nat.le_of_ble_eq_true rfl) (fun p e s m args below meth c X H locs hW hS ls hl => ?_)
  have hl : lv_has ls 6 [(0, .ref (E.1 0)), (1, .int x1), (2, .int x2), (3, .int x3), (4, .int x4), (5, .int x5)] := hl
  unfold fX8_copy at hf
  refine lv_iload_n X.1.1 X.1.2.1 dX8_copy_0 rfl (lv_at hl 1 rfl) ?_
  refine e_si (rest := []) (As := [.int x1]) X hl.1 hW hS (ctfX8_isSheet X.2.2.2.2 F x1 μ) (cwS (rm := rmX8_isSheet) 1 X.1.2.2.2.2 (gd_S mw_2_50 mw_2_51 mw_1_1 mw_2_52) rfl rfl rfl (by decide +kernel) ⟨Nat.le_of_ble_eq_true rfl, Nat.le_of_ble_eq_true rfl⟩) rfl rfl (Nat.le_of_ble_eq_true rfl) dX8_copy_1 ⟨Nat.zero_le _, Nat.zero_le _⟩ hf (fun r2 m1 H locs hf hW hS => ?_)
  refine lv_if_eq (tgt := 14) X.1.1 X.1.2.1 dX8_copy_4 (by decide) (fun c4 => ?_) (fun c4 => ?_)
  · rw [if_pos c4] at hf
    refine lv_bipush (v := (-2)) X.1.1 X.1.2.1 dX8_copy_14 (by decide) ?_
    exact e_iret X hW hS hf dX8_copy_16
  · rw [if_neg c4] at hf
    refine lv_iload_n X.1.1 X.1.2.1 dX8_copy_7 rfl (lv_at hl 3 rfl) ?_
    refine e_si (rest := []) (As := [.int x3]) X hl.1 hW hS (ctfX8_isSheet X.2.2.2.2 F x3 m1) (cwS (rm := rmX8_isSheet) 1 X.1.2.2.2.2 (gd_S mw_2_50 mw_2_51 mw_1_1 mw_2_52) rfl rfl rfl (by decide +kernel) ⟨Nat.le_of_ble_eq_true rfl, Nat.le_of_ble_eq_true rfl⟩) rfl rfl (Nat.le_of_ble_eq_true rfl) dX8_copy_8 ⟨Nat.zero_le _, Nat.zero_le _⟩ hf (fun r4 m3 H locs hf hW hS => ?_)
    refine lv_if_ne (tgt := 17) X.1.1 X.1.2.1 dX8_copy_11 (by decide) (fun c11 => ?_) (fun c11 => ?_)
    · rw [if_neg c11] at hf
      refine lv_aload_n X.1.1 X.1.2.1 dX8_copy_17 rfl (lv_at hl 0 rfl) ?_
      refine e_getr X hW (C := RX8) (T := TX8) (N := 11) (j := 0) rfl (by decide) inX8 (by decide) (by decide) rfl (t := 1) rfl rfl mw_2_12 dX8_copy_18 ?_
      refine lv_iload_n X.1.1 X.1.2.1 dX8_copy_21 rfl (lv_at hl 1 rfl) ?_
      refine e_vi (rest := []) (As := [.int x1]) X hl.1 hW hS (C := RX7) (T := TX7) (N := 4) rfl (by decide) (ctfX7_isLost X.2.2.2.2 F x1 m3) (cwV (rm := rmX7_isLost) 1 X.1.2.2.2.2 (gd_V mw_2_68 mw_2_69 mw_2_70 mw_1_2 mw_2_71) rfl rfl rfl (by decide +kernel) ⟨Nat.le_of_ble_eq_true rfl, Nat.le_of_ble_eq_true rfl⟩) rfl rfl (Nat.le_of_ble_eq_true rfl) dX8_copy_22 ⟨Nat.zero_le _, Nat.zero_le _⟩ hf (fun r6 m5 H locs hf hW hS => ?_)
      refine lv_if_ne (tgt := 39) X.1.1 X.1.2.1 dX8_copy_25 (by decide) (fun c25 => ?_) (fun c25 => ?_)
      · rw [if_neg c25] at hf
        exact wfX8_copy_39 X   m5 H locs ls hf hW hS (lv_sub hl [0] rfl)
      · rw [if_pos c25] at hf
        refine lv_aload_n X.1.1 X.1.2.1 dX8_copy_28 rfl (lv_at hl 0 rfl) ?_
        refine e_getr X hW (C := RX8) (T := TX8) (N := 11) (j := 0) rfl (by decide) inX8 (by decide) (by decide) rfl (t := 1) rfl rfl mw_2_12 dX8_copy_29 ?_
        refine lv_iload_n X.1.1 X.1.2.1 dX8_copy_32 rfl (lv_at hl 3 rfl) ?_
        refine e_vi (rest := []) (As := [.int x3]) X hl.1 hW hS (C := RX7) (T := TX7) (N := 4) rfl (by decide) (ctfX7_isLost X.2.2.2.2 F x3 m5) (cwV (rm := rmX7_isLost) 1 X.1.2.2.2.2 (gd_V mw_2_68 mw_2_69 mw_2_70 mw_1_2 mw_2_71) rfl rfl rfl (by decide +kernel) ⟨Nat.le_of_ble_eq_true rfl, Nat.le_of_ble_eq_true rfl⟩) rfl rfl (Nat.le_of_ble_eq_true rfl) dX8_copy_33 ⟨Nat.zero_le _, Nat.zero_le _⟩ hf (fun r8 m7 H locs hf hW hS => ?_)
        refine lv_if_eq (tgt := 48) X.1.1 X.1.2.1 dX8_copy_36 (by decide) (fun c36 => ?_) (fun c36 => ?_)
        · rw [if_pos c36] at hf
          refine lv_aload_n X.1.1 X.1.2.1 dX8_copy_48 rfl (lv_at hl 0 rfl) ?_
          refine e_getr X hW (C := RX8) (T := TX8) (N := 11) (j := 0) rfl (by decide) inX8 (by decide) (by decide) rfl (t := 1) rfl rfl mw_2_12 dX8_copy_49 ?_
          refine e_getr X hW (C := RX7) (T := TX7) (N := 4) (j := 0) rfl (by decide) inX7 (by decide) (by decide) rfl (t := 2) rfl rfl mw_1_34 dX8_copy_52 ?_
          refine lv_iload_n X.1.1 X.1.2.1 dX8_copy_55 rfl (lv_at hl 1 rfl) ?_
          refine e_ild X hW (by decide) rfl dX8_copy_56 hf (fun v9 hf => ?_)
          refine lv_aload_n X.1.1 X.1.2.1 dX8_copy_57 rfl (lv_at hl 0 rfl) ?_
          refine e_getr X hW (C := RX8) (T := TX8) (N := 11) (j := 0) rfl (by decide) inX8 (by decide) (by decide) rfl (t := 1) rfl rfl mw_2_12 dX8_copy_58 ?_
          refine e_getr X hW (C := RX7) (T := TX7) (N := 4) (j := 0) rfl (by decide) inX7 (by decide) (by decide) rfl (t := 2) rfl rfl mw_1_34 dX8_copy_61 ?_
          refine lv_iload_n X.1.1 X.1.2.1 dX8_copy_64 rfl (lv_at hl 3 rfl) ?_
          refine e_ild X hW (by decide) rfl dX8_copy_65 hf (fun v10 hf => ?_)
          refine lv_icmp_eq (tgt := 78) X.1.1 X.1.2.1 dX8_copy_66 (by decide) (fun c66 => ?_) (fun c66 => ?_)
          · rw [if_pos c66] at hf
            refine lv_aload_n X.1.1 X.1.2.1 dX8_copy_78 rfl (lv_at hl 0 rfl) ?_
            refine e_getr X hW (C := RX8) (T := TX8) (N := 11) (j := 0) rfl (by decide) inX8 (by decide) (by decide) rfl (t := 1) rfl rfl mw_2_12 dX8_copy_79 ?_
            refine lv_iload_n X.1.1 X.1.2.1 dX8_copy_82 rfl (lv_at hl 1 rfl) ?_
            refine lv_iload_n X.1.1 X.1.2.1 dX8_copy_83 rfl (lv_at hl 2 rfl) ?_
            refine lv_iload X.1.1 X.1.2.1 dX8_copy_84 (lv_at hl 5 rfl) ?_
            refine e_vi (rest := []) (As := [.int x1, .int x2, .int x5]) X hl.1 hW hS (C := RX7) (T := TX7) (N := 4) rfl (by decide) (ctfX7_hasItems X.2.2.2.2 F x1 x2 x5 m7) (cwV (rm := rmX7_hasItems) 3 X.1.2.2.2.2 (gd_V mw_2_97 mw_2_82 mw_2_83 mw_1_2 mw_2_84) rfl rfl rfl (by decide +kernel) ⟨Nat.le_of_ble_eq_true rfl, Nat.le_of_ble_eq_true rfl⟩) rfl rfl (Nat.le_of_ble_eq_true rfl) dX8_copy_86 ⟨Nat.zero_le _, Nat.zero_le _⟩ hf (fun r12 m11 H locs hf hW hS => ?_)
            refine lv_if_eq (tgt := 107) X.1.1 X.1.2.1 dX8_copy_89 (by decide) (fun c89 => ?_) (fun c89 => ?_)
            · rw [if_pos c89] at hf
              exact wfX8_copy_107 X   m11 H locs ls hf hW hS (lv_sub hl [0] rfl)
            · rw [if_neg c89] at hf
              refine lv_aload_n X.1.1 X.1.2.1 dX8_copy_92 rfl (lv_at hl 0 rfl) ?_
              refine e_getr X hW (C := RX8) (T := TX8) (N := 11) (j := 0) rfl (by decide) inX8 (by decide) (by decide) rfl (t := 1) rfl rfl mw_2_12 dX8_copy_93 ?_
              refine lv_iload_n X.1.1 X.1.2.1 dX8_copy_96 rfl (lv_at hl 3 rfl) ?_
              refine lv_iload X.1.1 X.1.2.1 dX8_copy_97 (lv_at hl 4 rfl) ?_
              refine lv_iload X.1.1 X.1.2.1 dX8_copy_99 (lv_at hl 5 rfl) ?_
              refine e_vi (rest := []) (As := [.int x3, .int x4, .int x5]) X hl.1 hW hS (C := RX7) (T := TX7) (N := 4) rfl (by decide) (ctfX7_hasItems X.2.2.2.2 F x3 x4 x5 m11) (cwV (rm := rmX7_hasItems) 3 X.1.2.2.2.2 (gd_V mw_2_97 mw_2_82 mw_2_83 mw_1_2 mw_2_84) rfl rfl rfl (by decide +kernel) ⟨Nat.le_of_ble_eq_true rfl, Nat.le_of_ble_eq_true rfl⟩) rfl rfl (Nat.le_of_ble_eq_true rfl) dX8_copy_101 ⟨Nat.zero_le _, Nat.zero_le _⟩ hf (fun r14 m13 H locs hf hW hS => ?_)
              refine lv_if_ne (tgt := 116) X.1.1 X.1.2.1 dX8_copy_104 (by decide) (fun c104 => ?_) (fun c104 => ?_)
              · rw [if_neg c104] at hf
                refine lv_aload_n X.1.1 X.1.2.1 dX8_copy_116 rfl (lv_at hl 0 rfl) ?_
                refine e_getr X hW (C := RX8) (T := TX8) (N := 11) (j := 0) rfl (by decide) inX8 (by decide) (by decide) rfl (t := 1) rfl rfl mw_2_12 dX8_copy_117 ?_
                refine e_getr X hW (C := RX7) (T := TX7) (N := 4) (j := 2) rfl (by decide) inX7 (by decide) (by decide) rfl (t := 4) rfl rfl mw_1_38 dX8_copy_120 ?_
                refine lv_iload_n X.1.1 X.1.2.1 dX8_copy_123 rfl (lv_at hl 1 rfl) ?_
                refine e_rld (t0 := 3) (c9 := 13) X hW (by decide) (by decide) rfl rfl rfl dX8_copy_124 hf (fun t15 qt15 hf => ?_)
                replace qt15 := rowItems qt15
                refine lv_iload_n X.1.1 X.1.2.1 dX8_copy_125 rfl (lv_at hl 2 rfl) ?_
                refine lv_aload_n X.1.1 X.1.2.1 dX8_copy_126 rfl (lv_at hl 0 rfl) ?_
                refine e_getr X hW (C := RX8) (T := TX8) (N := 11) (j := 0) rfl (by decide) inX8 (by decide) (by decide) rfl (t := 1) rfl rfl mw_2_12 dX8_copy_127 ?_
                refine e_getr X hW (C := RX7) (T := TX7) (N := 4) (j := 2) rfl (by decide) inX7 (by decide) (by decide) rfl (t := 4) rfl rfl mw_1_38 dX8_copy_130 ?_
                refine lv_iload_n X.1.1 X.1.2.1 dX8_copy_133 rfl (lv_at hl 3 rfl) ?_
                refine e_rld (t0 := 3) (c9 := 13) X hW (by decide) (by decide) rfl rfl rfl dX8_copy_134 hf (fun t16 qt16 hf => ?_)
                replace qt16 := rowItems qt16
                refine lv_iload X.1.1 X.1.2.1 dX8_copy_135 (lv_at hl 4 rfl) ?_
                refine lv_iload X.1.1 X.1.2.1 dX8_copy_137 (lv_at hl 5 rfl) ?_
                refine e_cpy X hl.1 hW hS mw_2_98 mw_2_100 mw_2_99 mw_1_12 qt15.1 qt16.1 qt15.2 qt16.2 ⟨Nat.le_of_ble_eq_true rfl, Nat.le_of_ble_eq_true rfl⟩ dX8_copy_139 hf (fun m17 H locs hf hW hS => ?_)
                refine lv_iconst (v := 1) X.1.1 X.1.2.1 dX8_copy_142 (by decide) ?_
                exact e_iret X hW hS hf dX8_copy_143
              · rw [if_pos c104] at hf
                exact wfX8_copy_107 X   m13 H locs ls hf hW hS (lv_sub hl [0] rfl)
          · rw [if_neg c66] at hf
            refine lv_aload_n X.1.1 X.1.2.1 dX8_copy_69 rfl (lv_at hl 0 rfl) ?_
            refine e_getr X hW (C := RX8) (T := TX8) (N := 11) (j := 0) rfl (by decide) inX8 (by decide) (by decide) rfl (t := 1) rfl rfl mw_2_12 dX8_copy_70 ?_
            refine lv_iconst (v := 4) X.1.1 X.1.2.1 dX8_copy_73 (by decide) ?_
            refine e_vi (rest := []) (As := [.int 4]) X hl.1 hW hS (C := RX7) (T := TX7) (N := 4) rfl (by decide) (ctfX7_finding X.2.2.2.2 F 4 m7) (cwV (rm := rmX7_finding) 1 X.1.2.2.2.2 (gd_V mw_2_56 mw_2_57 mw_2_58 mw_1_2 mw_2_59) rfl rfl rfl (by decide +kernel) ⟨Nat.le_of_ble_eq_true rfl, Nat.le_of_ble_eq_true rfl⟩) rfl rfl (Nat.le_of_ble_eq_true rfl) dX8_copy_74 ⟨Nat.zero_le _, Nat.zero_le _⟩ hf (fun r19 m18 H locs hf hW hS => ?_)
            exact e_iret X hW hS hf dX8_copy_77
        · rw [if_neg c36] at hf
          exact wfX8_copy_39 X   m7 H locs ls hf hW hS (lv_sub hl [0] rfl)
    · rw [if_pos c11] at hf
      refine lv_bipush (v := (-2)) X.1.1 X.1.2.1 dX8_copy_14 (by decide) ?_
      exact e_iret X hW hS hf dX8_copy_16
-- OvenHouse.isSpan
def rmX8_isSpan : Room := { frames := 0, cells := 0, slots := 0, locals := 0 }
set_option maxRecDepth 100000 in
set_option maxHeartbeats 4000000 in
theorem ctfX8_isSpan {l : Launch} {E : Gv} (hD : Do E) (F : Nat) (x0 : Int32)  (μ : Mem) : CtI l yX8_isSpan ((Cond.code yX8_isSpan cX8_isSpan 1 (some .boolean)) :: GG) rmX8_isSpan E [.int x0] μ (fX8_isSpan F x0 μ) := by
  intro r u hf
  refine of_entry (cc := cX8_isSpan) (maxL := 1) (ret := (some .boolean)) (by decide +kernel) rfl hD (Nat.le_of_ble_eq_true rfl) (fun p e s m args below meth c X H locs hW hS ls hl => ?_)
  have hl : lv_has ls 1 [(0, .int x0)] := hl
  unfold fX8_isSpan at hf
  refine lv_iload_n X.1.1 X.1.2.1 dX8_isSpan_0 rfl (lv_at hl 0 rfl) ?_
  refine lv_if_lt (tgt := 15) X.1.1 X.1.2.1 dX8_isSpan_1 (by decide) (fun c1 => ?_) (fun c1 => ?_)
  · rw [if_pos c1] at hf
    refine lv_iconst (v := 0) X.1.1 X.1.2.1 dX8_isSpan_15 (by decide) ?_
    exact e_zret X hW hS hf dX8_isSpan_16
  · rw [if_neg c1] at hf
    refine lv_iload_n X.1.1 X.1.2.1 dX8_isSpan_4 rfl (lv_at hl 0 rfl) ?_
    refine lv_ldcw X.1.1 X.1.2.1 X.1.2.2.2.1 (X.1.2.2.2.2 _ (List.mem_cons_of_mem _ mw_2_111)) dX8_isSpan_5 ?_
    refine lv_icmp_gt (tgt := 15) X.1.1 X.1.2.1 dX8_isSpan_8 (by decide) (fun c8 => ?_) (fun c8 => ?_)
    · rw [if_pos c8] at hf
      refine lv_iconst (v := 0) X.1.1 X.1.2.1 dX8_isSpan_15 (by decide) ?_
      exact e_zret X hW hS hf dX8_isSpan_16
    · rw [if_neg c8] at hf
      refine lv_iconst (v := 1) X.1.1 X.1.2.1 dX8_isSpan_11 (by decide) ?_
      refine lv_goto (tgt := 16) X.1.1 X.1.2.1 dX8_isSpan_12 (by decide) ?_
      exact e_zret X hW hS hf dX8_isSpan_16
-- OvenHouse.areSpans
def rmX8_areSpans : Room := { frames := 1, cells := 0, slots := 0, locals := 20 }
set_option maxRecDepth 100000 in
set_option maxHeartbeats 4000000 in
theorem wfX8_areSpans_2_b {p : Program} {l : Launch} {e : Env} {s : State} {m : MethodId} {args : Array Value} {below : List Frame} {meth : Method} {c : Code} {E : Gv} {F : Nat} {k0 : Nat} {r : Int32} {u : Mem} (X : Fx p m c cX8_areSpans 3 s args (Cond.code yX8_areSpans cX8_areSpans 3 (some .boolean)) "OvenHouse" meth (some .boolean) E) (h0 : k0 < NC ∧ kd k0 = 10) (rec2 : Int32 → Int32 → Mem → Option (Int32 × Mem)) (hrec2 : ∀ (y1 : Int32) (y2 : Int32) (μ : Mem) (H : Heap) (locs : List Loc) (ls : Array Slot), rec2 y1 y2 μ = some (r, u) → Wo E μ H → va_S (AE E) s.heap H locs → lv_has ls 3 [(0, .ref (E.1 k0)), (1, .int y1), (2, .int y2)] → W0 p l e rmX8_areSpans s m args below meth c H locs (QcI E r u) E (F0 m 2 ls [])) (y1 : Int32) (y2 : Int32) (μ : Mem) (H : Heap) (locs : List Loc) (ls : Array Slot) (hf : fX8_areSpans_2_b F k0 rec2 y1 y2 μ = some (r, u)) (hW : Wo E μ H) (hS : va_S (AE E) s.heap H locs) (hl : lv_has ls 3 [(0, .ref (E.1 k0)), (1, .int y1), (2, .int y2)]) : W0 p l e rmX8_areSpans s m args below meth c H locs (QcI E r u) E (F0 m 2 ls []) := by
  unfold fX8_areSpans_2_b at hf
  refine lv_iload_n X.1.1 X.1.2.1 dX8_areSpans_2 rfl (lv_at hl 2 rfl) ?_
  refine lv_iload_n X.1.1 X.1.2.1 dX8_areSpans_3 rfl (lv_at hl 1 rfl) ?_
  refine lv_icmp_ge (tgt := 24) X.1.1 X.1.2.1 dX8_areSpans_4 (by decide) (fun c4 => ?_) (fun c4 => ?_)
  · rw [if_pos c4] at hf
    refine lv_iconst (v := 1) X.1.1 X.1.2.1 dX8_areSpans_24 (by decide) ?_
    exact e_zret X hW hS hf dX8_areSpans_25
  · rw [if_neg c4] at hf
    refine lv_aload_n X.1.1 X.1.2.1 dX8_areSpans_7 rfl (lv_at hl 0 rfl) ?_
    refine lv_iload_n X.1.1 X.1.2.1 dX8_areSpans_8 rfl (lv_at hl 2 rfl) ?_
    refine e_ild X hW h0.1 h0.2 dX8_areSpans_9 hf (fun v1 hf => ?_)
    refine e_si (rest := []) (As := [.int v1]) X hl.1 hW hS (ctfX8_isSpan X.2.2.2.2 F v1 μ) (cwS (rm := rmX8_isSpan) 1 X.1.2.2.2.2 (gd_S mw_2_108 mw_2_109 mw_1_1 mw_2_110) rfl rfl rfl (by decide +kernel) ⟨Nat.le_of_ble_eq_true rfl, Nat.le_of_ble_eq_true rfl⟩) rfl rfl (Nat.le_of_ble_eq_true rfl) dX8_areSpans_10 ⟨Nat.zero_le _, Nat.zero_le _⟩ hf (fun r3 m2 H locs hf hW hS => ?_)
    refine lv_if_ne (tgt := 18) X.1.1 X.1.2.1 dX8_areSpans_13 (by decide) (fun c13 => ?_) (fun c13 => ?_)
    · rw [if_neg c13] at hf
      refine lv_iinc (v := (y2 + 1)) (lv' := [(2, .int (y2 + 1)), (0, .ref (E.1 k0)), (1, .int y1)]) X.1.1 X.1.2.1 dX8_areSpans_18 hl (k := 2) rfl rfl (by decide) rfl (fun ls hl => ?_)
      refine lv_goto (tgt := 2) X.1.1 X.1.2.1 dX8_areSpans_21 (by decide) ?_
      exact hrec2 y1 (y2 + 1) m2 H locs ls hf hW hS (lv_sub hl [1, 2, 0] rfl)
    · rw [if_pos c13] at hf
      refine lv_iconst (v := 0) X.1.1 X.1.2.1 dX8_areSpans_16 (by decide) ?_
      exact e_zret X hW hS hf dX8_areSpans_17
theorem wfX8_areSpans_2 {p : Program} {l : Launch} {e : Env} {s : State} {m : MethodId} {args : Array Value} {below : List Frame} {meth : Method} {c : Code} {E : Gv} {F : Nat} {k0 : Nat} {r : Int32} {u : Mem} (X : Fx p m c cX8_areSpans 3 s args (Cond.code yX8_areSpans cX8_areSpans 3 (some .boolean)) "OvenHouse" meth (some .boolean) E) (h0 : k0 < NC ∧ kd k0 = 10) (n : Nat) : ∀ (y1 : Int32) (y2 : Int32) (μ : Mem) (H : Heap) (locs : List Loc) (ls : Array Slot) (_ : fX8_areSpans_2 F k0  n y1 y2 μ = some (r, u)) (_ : Wo E μ H) (_ : va_S (AE E) s.heap H locs) (_ : lv_has ls 3 [(0, .ref (E.1 k0)), (1, .int y1), (2, .int y2)]), W0 p l e rmX8_areSpans s m args below meth c H locs (QcI E r u) E (F0 m 2 ls []) := by
  induction n with
  | zero => intro y1 y2 μ H locs ls hf hW hS hl; cases hf
  | succ n ih => intro y1 y2 μ H locs ls hf hW hS hl; exact wfX8_areSpans_2_b X h0 _ ih y1 y2 μ H locs ls hf hW hS hl
set_option maxRecDepth 100000 in
set_option maxHeartbeats 4000000 in
theorem ctfX8_areSpans {l : Launch} {E : Gv} (hD : Do E) (F : Nat) (k0 : Nat) (x1 : Int32) (h0 : k0 < NC ∧ kd k0 = 10) (μ : Mem) : CtI l yX8_areSpans ((Cond.code yX8_areSpans cX8_areSpans 3 (some .boolean)) :: GG) rmX8_areSpans E [.ref (E.1 k0), .int x1] μ (fX8_areSpans F k0 x1 μ) := by
  intro r u hf
  refine of_entry (cc := cX8_areSpans) (maxL := 3) (ret := (some .boolean)) (by decide +kernel) rfl hD (Nat.le_of_ble_eq_true rfl) (fun p e s m args below meth c X H locs hW hS ls hl => ?_)
  have hl : lv_has ls 3 [(0, .ref (E.1 k0)), (1, .int x1)] := hl
  unfold fX8_areSpans at hf
  refine lv_iconst (v := 0) X.1.1 X.1.2.1 dX8_areSpans_0 (by decide) ?_
  refine lv_istore_n (lv' := [(2, .int 0), (0, .ref (E.1 k0)), (1, .int x1)]) X.1.1 X.1.2.1 dX8_areSpans_1 rfl hl (by decide) rfl (fun ls hl => ?_)
  exact wfX8_areSpans_2 X h0 F x1 0 μ H locs ls hf hW hS (lv_sub hl [1, 2, 0] rfl)
-- OvenHouse.take
def rmX8_take : Room := { frames := 3, cells := 0, slots := 0, locals := 60 }
set_option maxRecDepth 100000 in
set_option maxHeartbeats 4000000 in
theorem wfX8_take_67 {p : Program} {l : Launch} {e : Env} {s : State} {m : MethodId} {args : Array Value} {below : List Frame} {meth : Method} {c : Code} {E : Gv} {F : Nat}  {r : Int32} {u : Mem} (X : Fx p m c cX8_take 5 s args (Cond.code yX8_take cX8_take 5 (some .int)) "OvenHouse" meth (some .int) E)  (μ : Mem) (H : Heap) (locs : List Loc) (ls : Array Slot) (hf : fX8_take_67 F    μ = some (r, u)) (hW : Wo E μ H) (hS : va_S (AE E) s.heap H locs) (hl : lv_has ls 5 [(0, .ref (E.1 0))]) : W0 p l e rmX8_take s m args below meth c H locs (QcI E r u) E (F0 m 67 ls []) := by
  unfold fX8_take_67 at hf
  refine lv_aload_n X.1.1 X.1.2.1 dX8_take_67 rfl (lv_at hl 0 rfl) ?_
  refine e_getr X hW (C := RX8) (T := TX8) (N := 11) (j := 0) rfl (by decide) inX8 (by decide) (by decide) rfl (t := 1) rfl rfl mw_2_12 dX8_take_68 ?_
  refine lv_iconst (v := 1) X.1.1 X.1.2.1 dX8_take_71 (by decide) ?_
  refine e_vi (rest := []) (As := [.int 1]) X hl.1 hW hS (C := RX7) (T := TX7) (N := 4) rfl (by decide) (ctfX7_finding X.2.2.2.2 F 1 μ) (cwV (rm := rmX7_finding) 1 X.1.2.2.2.2 (gd_V mw_2_56 mw_2_57 mw_2_58 mw_1_2 mw_2_59) rfl rfl rfl (by decide +kernel) ⟨Nat.le_of_ble_eq_true rfl, Nat.le_of_ble_eq_true rfl⟩) rfl rfl (Nat.le_of_ble_eq_true rfl) dX8_take_72 ⟨Nat.zero_le _, Nat.zero_le _⟩ hf (fun r21 m20 H locs hf hW hS => ?_)
  exact e_iret X hW hS hf dX8_take_75
set_option maxRecDepth 100000 in
set_option maxHeartbeats 4000000 in
theorem wfX8_take_102 {p : Program} {l : Launch} {e : Env} {s : State} {m : MethodId} {args : Array Value} {below : List Frame} {meth : Method} {c : Code} {E : Gv} {F : Nat}  {r : Int32} {u : Mem} (X : Fx p m c cX8_take 5 s args (Cond.code yX8_take cX8_take 5 (some .int)) "OvenHouse" meth (some .int) E)  (μ : Mem) (H : Heap) (locs : List Loc) (ls : Array Slot) (hf : fX8_take_102 F    μ = some (r, u)) (hW : Wo E μ H) (hS : va_S (AE E) s.heap H locs) (hl : lv_has ls 5 [(0, .ref (E.1 0))]) : W0 p l e rmX8_take s m args below meth c H locs (QcI E r u) E (F0 m 102 ls []) := by
  unfold fX8_take_102 at hf
  refine lv_aload_n X.1.1 X.1.2.1 dX8_take_102 rfl (lv_at hl 0 rfl) ?_
  refine e_getr X hW (C := RX8) (T := TX8) (N := 11) (j := 0) rfl (by decide) inX8 (by decide) (by decide) rfl (t := 1) rfl rfl mw_2_12 dX8_take_103 ?_
  refine lv_iconst (v := 2) X.1.1 X.1.2.1 dX8_take_106 (by decide) ?_
  refine e_vi (rest := []) (As := [.int 2]) X hl.1 hW hS (C := RX7) (T := TX7) (N := 4) rfl (by decide) (ctfX7_finding X.2.2.2.2 F 2 μ) (cwV (rm := rmX7_finding) 1 X.1.2.2.2.2 (gd_V mw_2_56 mw_2_57 mw_2_58 mw_1_2 mw_2_59) rfl rfl rfl (by decide +kernel) ⟨Nat.le_of_ble_eq_true rfl, Nat.le_of_ble_eq_true rfl⟩) rfl rfl (Nat.le_of_ble_eq_true rfl) dX8_take_107 ⟨Nat.zero_le _, Nat.zero_le _⟩ hf (fun r23 m22 H locs hf hW hS => ?_)
  exact e_iret X hW hS hf dX8_take_110
set_option maxRecDepth 100000 in
set_option maxHeartbeats 4000000 in
theorem wfX8_take_160_b {p : Program} {l : Launch} {e : Env} {s : State} {m : MethodId} {args : Array Value} {below : List Frame} {meth : Method} {c : Code} {E : Gv} {F : Nat}  {r : Int32} {u : Mem} (X : Fx p m c cX8_take 5 s args (Cond.code yX8_take cX8_take 5 (some .int)) "OvenHouse" meth (some .int) E)  (rec160 : Int32 → Int32 → Int32 → Int32 → Mem → Option (Int32 × Mem)) (hrec160 : ∀ (y1 : Int32) (y2 : Int32) (y3 : Int32) (y4 : Int32) (μ : Mem) (H : Heap) (locs : List Loc) (ls : Array Slot), rec160 y1 y2 y3 y4 μ = some (r, u) → Wo E μ H → va_S (AE E) s.heap H locs → lv_has ls 5 [(0, .ref (E.1 0)), (1, .int y1), (2, .int y2), (3, .int y3), (4, .int y4)] → W0 p l e rmX8_take s m args below meth c H locs (QcI E r u) E (F0 m 160 ls [])) (y1 : Int32) (y2 : Int32) (y3 : Int32) (y4 : Int32) (μ : Mem) (H : Heap) (locs : List Loc) (ls : Array Slot) (hf : fX8_take_160_b F  rec160 y1 y2 y3 y4 μ = some (r, u)) (hW : Wo E μ H) (hS : va_S (AE E) s.heap H locs) (hl : lv_has ls 5 [(0, .ref (E.1 0)), (1, .int y1), (2, .int y2), (3, .int y3), (4, .int y4)]) : W0 p l e rmX8_take s m args below meth c H locs (QcI E r u) E (F0 m 160 ls []) := by
  unfold fX8_take_160_b at hf
  refine lv_iload X.1.1 X.1.2.1 dX8_take_160 (lv_at hl 4 rfl) ?_
  refine lv_iload_n X.1.1 X.1.2.1 dX8_take_162 rfl (lv_at hl 3 rfl) ?_
  refine lv_icmp_ge (tgt := 203) X.1.1 X.1.2.1 dX8_take_163 (by decide) (fun c163 => ?_) (fun c163 => ?_)
  · rw [if_pos c163] at hf
    refine lv_aload_n X.1.1 X.1.2.1 dX8_take_203 rfl (lv_at hl 0 rfl) ?_
    refine e_getr X hW (C := RX8) (T := TX8) (N := 11) (j := 3) rfl (by decide) inX8 (by decide) (by decide) rfl (t := 53) rfl rfl mw_2_15 dX8_take_204 ?_
    refine lv_iconst (v := 0) X.1.1 X.1.2.1 dX8_take_207 (by decide) ?_
    refine e_put X hW hS (C := RX0) (T := TX0) (N := 3) (j := 2) (tyF := tyX0) rfl (by decide) inX0 tyX0_ok nmX0 (by decide) (by decide) rfl rfl mw_1_119 rfl rfl rfl dX8_take_208 hf (fun m24 H locs hf hW hS => ?_)
    refine lv_aload_n X.1.1 X.1.2.1 dX8_take_211 rfl (lv_at hl 0 rfl) ?_
    refine e_getr X hW (C := RX8) (T := TX8) (N := 11) (j := 1) rfl (by decide) inX8 (by decide) (by decide) rfl (t := 9) rfl rfl mw_2_13 dX8_take_212 ?_
    refine e_geti X hW (C := RX3) (T := TX3) (N := 7) (j := 6) rfl (by decide) inX3 (by decide) (by decide) rfl rfl mw_1_72 dX8_take_215 ?_
    exact e_iret X hW hS hf dX8_take_218
  · rw [if_neg c163] at hf
    refine lv_aload_n X.1.1 X.1.2.1 dX8_take_166 rfl (lv_at hl 0 rfl) ?_
    refine e_getr X hW (C := RX8) (T := TX8) (N := 11) (j := 1) rfl (by decide) inX8 (by decide) (by decide) rfl (t := 9) rfl rfl mw_2_13 dX8_take_167 ?_
    refine lv_aload_n X.1.1 X.1.2.1 dX8_take_170 rfl (lv_at hl 0 rfl) ?_
    refine e_getr X hW (C := RX8) (T := TX8) (N := 11) (j := 0) rfl (by decide) inX8 (by decide) (by decide) rfl (t := 1) rfl rfl mw_2_12 dX8_take_171 ?_
    refine e_getr X hW (C := RX7) (T := TX7) (N := 4) (j := 2) rfl (by decide) inX7 (by decide) (by decide) rfl (t := 4) rfl rfl mw_1_38 dX8_take_174 ?_
    refine lv_iload_n X.1.1 X.1.2.1 dX8_take_177 rfl (lv_at hl 1 rfl) ?_
    refine e_rld (t0 := 3) (c9 := 13) X hW (by decide) (by decide) rfl rfl rfl dX8_take_178 hf (fun t25 qt25 hf => ?_)
    replace qt25 := rowItems qt25
    refine lv_iload X.1.1 X.1.2.1 dX8_take_179 (lv_at hl 4 rfl) ?_
    refine e_ild X hW qt25.1 qt25.2 dX8_take_181 hf (fun v26 hf => ?_)
    refine lv_aload_n X.1.1 X.1.2.1 dX8_take_182 rfl (lv_at hl 0 rfl) ?_
    refine e_getr X hW (C := RX8) (T := TX8) (N := 11) (j := 0) rfl (by decide) inX8 (by decide) (by decide) rfl (t := 1) rfl rfl mw_2_12 dX8_take_183 ?_
    refine e_getr X hW (C := RX7) (T := TX7) (N := 4) (j := 2) rfl (by decide) inX7 (by decide) (by decide) rfl (t := 4) rfl rfl mw_1_38 dX8_take_186 ?_
    refine lv_iload_n X.1.1 X.1.2.1 dX8_take_189 rfl (lv_at hl 2 rfl) ?_
    refine e_rld (t0 := 3) (c9 := 13) X hW (by decide) (by decide) rfl rfl rfl dX8_take_190 hf (fun t27 qt27 hf => ?_)
    replace qt27 := rowItems qt27
    refine lv_iload X.1.1 X.1.2.1 dX8_take_191 (lv_at hl 4 rfl) ?_
    refine e_ild X hW qt27.1 qt27.2 dX8_take_193 hf (fun v28 hf => ?_)
    refine e_vv (rest := []) (As := [.int v26, .int v28]) X hl.1 hW hS (C := RX3) (T := TX3) (N := 7) rfl (by decide) (ctfX3_add X.2.2.2.2 F v26 v28 μ) (cwV (rm := rmX3_add) 2 X.1.2.2.2.2 (gd_V mw_2_124 mw_2_125 mw_2_126 mw_1_4 mw_2_127) rfl rfl rfl (by decide +kernel) ⟨Nat.le_of_ble_eq_true rfl, Nat.le_of_ble_eq_true rfl⟩) rfl rfl (Nat.le_of_ble_eq_true rfl) dX8_take_194 ⟨Nat.zero_le _, Nat.zero_le _⟩ hf (fun m29 H locs hf hW hS => ?_)
    refine lv_iinc (v := (y4 + 1)) (lv' := [(4, .int (y4 + 1)), (0, .ref (E.1 0)), (1, .int y1), (2, .int y2), (3, .int y3)]) X.1.1 X.1.2.1 dX8_take_197 hl (k := 4) rfl rfl (by decide) rfl (fun ls hl => ?_)
    refine lv_goto (tgt := 160) X.1.1 X.1.2.1 dX8_take_200 (by decide) ?_
    exact hrec160 y1 y2 y3 (y4 + 1) m29 H locs ls hf hW hS (lv_sub hl [1, 2, 3, 4, 0] rfl)
theorem wfX8_take_160 {p : Program} {l : Launch} {e : Env} {s : State} {m : MethodId} {args : Array Value} {below : List Frame} {meth : Method} {c : Code} {E : Gv} {F : Nat}  {r : Int32} {u : Mem} (X : Fx p m c cX8_take 5 s args (Cond.code yX8_take cX8_take 5 (some .int)) "OvenHouse" meth (some .int) E)  (n : Nat) : ∀ (y1 : Int32) (y2 : Int32) (y3 : Int32) (y4 : Int32) (μ : Mem) (H : Heap) (locs : List Loc) (ls : Array Slot) (_ : fX8_take_160 F   n y1 y2 y3 y4 μ = some (r, u)) (_ : Wo E μ H) (_ : va_S (AE E) s.heap H locs) (_ : lv_has ls 5 [(0, .ref (E.1 0)), (1, .int y1), (2, .int y2), (3, .int y3), (4, .int y4)]), W0 p l e rmX8_take s m args below meth c H locs (QcI E r u) E (F0 m 160 ls []) := by
  induction n with
  | zero => intro y1 y2 y3 y4 μ H locs ls hf hW hS hl; cases hf
  | succ n ih => intro y1 y2 y3 y4 μ H locs ls hf hW hS hl; exact wfX8_take_160_b X  _ ih y1 y2 y3 y4 μ H locs ls hf hW hS hl
set_option maxRecDepth 100000 in
set_option maxHeartbeats 4000000 in
theorem ctfX8_take {l : Launch} {E : Gv} (hD : Do E) (F : Nat) (x1 : Int32) (x2 : Int32) (x3 : Int32)  (μ : Mem) : CtI l yX8_take ((Cond.code yX8_take cX8_take 5 (some .int)) :: GG) rmX8_take E [.ref (E.1 0), .int x1, .int x2, .int x3] μ (fX8_take F x1 x2 x3 μ) := by
  intro r u hf
  refine of_entry (cc := cX8_take) (maxL := 5) (ret := (some .int)) (by decide +kernel) rfl hD (Nat.le_of_ble_eq_true rfl) (fun p e s m args below meth c X H locs hW hS ls hl => ?_)
  have hl : lv_has ls 5 [(0, .ref (E.1 0)), (1, .int x1), (2, .int x2), (3, .int x3)] := hl
  unfold fX8_take at hf
  refine lv_iload_n X.1.1 X.1.2.1 dX8_take_0 rfl (lv_at hl 1 rfl) ?_
  refine e_si (rest := []) (As := [.int x1]) X hl.1 hW hS (ctfX8_isSheet X.2.2.2.2 F x1 μ) (cwS (rm := rmX8_isSheet) 1 X.1.2.2.2.2 (gd_S mw_2_50 mw_2_51 mw_1_1 mw_2_52) rfl rfl rfl (by decide +kernel) ⟨Nat.le_of_ble_eq_true rfl, Nat.le_of_ble_eq_true rfl⟩) rfl rfl (Nat.le_of_ble_eq_true rfl) dX8_take_1 ⟨Nat.zero_le _, Nat.zero_le _⟩ hf (fun r2 m1 H locs hf hW hS => ?_)
  refine lv_if_eq (tgt := 25) X.1.1 X.1.2.1 dX8_take_4 (by decide) (fun c4 => ?_) (fun c4 => ?_)
  · rw [if_pos c4] at hf
    refine lv_bipush (v := (-2)) X.1.1 X.1.2.1 dX8_take_25 (by decide) ?_
    exact e_iret X hW hS hf dX8_take_27
  · rw [if_neg c4] at hf
    refine lv_iload_n X.1.1 X.1.2.1 dX8_take_7 rfl (lv_at hl 2 rfl) ?_
    refine e_si (rest := []) (As := [.int x2]) X hl.1 hW hS (ctfX8_isSheet X.2.2.2.2 F x2 m1) (cwS (rm := rmX8_isSheet) 1 X.1.2.2.2.2 (gd_S mw_2_50 mw_2_51 mw_1_1 mw_2_52) rfl rfl rfl (by decide +kernel) ⟨Nat.le_of_ble_eq_true rfl, Nat.le_of_ble_eq_true rfl⟩) rfl rfl (Nat.le_of_ble_eq_true rfl) dX8_take_8 ⟨Nat.zero_le _, Nat.zero_le _⟩ hf (fun r4 m3 H locs hf hW hS => ?_)
    refine lv_if_eq (tgt := 25) X.1.1 X.1.2.1 dX8_take_11 (by decide) (fun c11 => ?_) (fun c11 => ?_)
    · rw [if_pos c11] at hf
      refine lv_bipush (v := (-2)) X.1.1 X.1.2.1 dX8_take_25 (by decide) ?_
      exact e_iret X hW hS hf dX8_take_27
    · rw [if_neg c11] at hf
      refine lv_iload_n X.1.1 X.1.2.1 dX8_take_14 rfl (lv_at hl 3 rfl) ?_
      refine lv_iconst (v := 1) X.1.1 X.1.2.1 dX8_take_15 (by decide) ?_
      refine lv_icmp_lt (tgt := 25) X.1.1 X.1.2.1 dX8_take_16 (by decide) (fun c16 => ?_) (fun c16 => ?_)
      · rw [if_pos c16] at hf
        refine lv_bipush (v := (-2)) X.1.1 X.1.2.1 dX8_take_25 (by decide) ?_
        exact e_iret X hW hS hf dX8_take_27
      · rw [if_neg c16] at hf
        refine lv_iload_n X.1.1 X.1.2.1 dX8_take_19 rfl (lv_at hl 3 rfl) ?_
        refine lv_bipush (v := 40) X.1.1 X.1.2.1 dX8_take_20 (by decide) ?_
        refine lv_icmp_le (tgt := 28) X.1.1 X.1.2.1 dX8_take_22 (by decide) (fun c22 => ?_) (fun c22 => ?_)
        · rw [if_pos c22] at hf
          refine lv_aload_n X.1.1 X.1.2.1 dX8_take_28 rfl (lv_at hl 0 rfl) ?_
          refine e_getr X hW (C := RX8) (T := TX8) (N := 11) (j := 1) rfl (by decide) inX8 (by decide) (by decide) rfl (t := 9) rfl rfl mw_2_13 dX8_take_29 ?_
          refine e_geti X hW (C := RX3) (T := TX3) (N := 7) (j := 6) rfl (by decide) inX3 (by decide) (by decide) rfl rfl mw_1_72 dX8_take_32 ?_
          refine lv_iload_n X.1.1 X.1.2.1 dX8_take_35 rfl (lv_at hl 3 rfl) ?_
          refine lv_iadd X.1.1 X.1.2.1 dX8_take_36 ?_
          refine lv_bipush (v := 40) X.1.1 X.1.2.1 dX8_take_37 (by decide) ?_
          refine lv_icmp_le (tgt := 45) X.1.1 X.1.2.1 dX8_take_39 (by decide) (fun c39 => ?_) (fun c39 => ?_)
          · rw [if_pos c39] at hf
            refine lv_aload_n X.1.1 X.1.2.1 dX8_take_45 rfl (lv_at hl 0 rfl) ?_
            refine e_getr X hW (C := RX8) (T := TX8) (N := 11) (j := 0) rfl (by decide) inX8 (by decide) (by decide) rfl (t := 1) rfl rfl mw_2_12 dX8_take_46 ?_
            refine lv_iload_n X.1.1 X.1.2.1 dX8_take_49 rfl (lv_at hl 1 rfl) ?_
            refine e_vi (rest := []) (As := [.int x1]) X hl.1 hW hS (C := RX7) (T := TX7) (N := 4) rfl (by decide) (ctfX7_isLost X.2.2.2.2 F x1 m3) (cwV (rm := rmX7_isLost) 1 X.1.2.2.2.2 (gd_V mw_2_68 mw_2_69 mw_2_70 mw_1_2 mw_2_71) rfl rfl rfl (by decide +kernel) ⟨Nat.le_of_ble_eq_true rfl, Nat.le_of_ble_eq_true rfl⟩) rfl rfl (Nat.le_of_ble_eq_true rfl) dX8_take_50 ⟨Nat.zero_le _, Nat.zero_le _⟩ hf (fun r6 m5 H locs hf hW hS => ?_)
            refine lv_if_ne (tgt := 67) X.1.1 X.1.2.1 dX8_take_53 (by decide) (fun c53 => ?_) (fun c53 => ?_)
            · rw [if_neg c53] at hf
              exact wfX8_take_67 X   m5 H locs ls hf hW hS (lv_sub hl [0] rfl)
            · rw [if_pos c53] at hf
              refine lv_aload_n X.1.1 X.1.2.1 dX8_take_56 rfl (lv_at hl 0 rfl) ?_
              refine e_getr X hW (C := RX8) (T := TX8) (N := 11) (j := 0) rfl (by decide) inX8 (by decide) (by decide) rfl (t := 1) rfl rfl mw_2_12 dX8_take_57 ?_
              refine lv_iload_n X.1.1 X.1.2.1 dX8_take_60 rfl (lv_at hl 2 rfl) ?_
              refine e_vi (rest := []) (As := [.int x2]) X hl.1 hW hS (C := RX7) (T := TX7) (N := 4) rfl (by decide) (ctfX7_isLost X.2.2.2.2 F x2 m5) (cwV (rm := rmX7_isLost) 1 X.1.2.2.2.2 (gd_V mw_2_68 mw_2_69 mw_2_70 mw_1_2 mw_2_71) rfl rfl rfl (by decide +kernel) ⟨Nat.le_of_ble_eq_true rfl, Nat.le_of_ble_eq_true rfl⟩) rfl rfl (Nat.le_of_ble_eq_true rfl) dX8_take_61 ⟨Nat.zero_le _, Nat.zero_le _⟩ hf (fun r8 m7 H locs hf hW hS => ?_)
              refine lv_if_eq (tgt := 76) X.1.1 X.1.2.1 dX8_take_64 (by decide) (fun c64 => ?_) (fun c64 => ?_)
              · rw [if_pos c64] at hf
                refine lv_aload_n X.1.1 X.1.2.1 dX8_take_76 rfl (lv_at hl 0 rfl) ?_
                refine e_getr X hW (C := RX8) (T := TX8) (N := 11) (j := 0) rfl (by decide) inX8 (by decide) (by decide) rfl (t := 1) rfl rfl mw_2_12 dX8_take_77 ?_
                refine lv_iload_n X.1.1 X.1.2.1 dX8_take_80 rfl (lv_at hl 1 rfl) ?_
                refine lv_iconst (v := 0) X.1.1 X.1.2.1 dX8_take_81 (by decide) ?_
                refine lv_iload_n X.1.1 X.1.2.1 dX8_take_82 rfl (lv_at hl 3 rfl) ?_
                refine e_vi (rest := []) (As := [.int x1, .int 0, .int x3]) X hl.1 hW hS (C := RX7) (T := TX7) (N := 4) rfl (by decide) (ctfX7_hasItems X.2.2.2.2 F x1 0 x3 m7) (cwV (rm := rmX7_hasItems) 3 X.1.2.2.2.2 (gd_V mw_2_97 mw_2_82 mw_2_83 mw_1_2 mw_2_84) rfl rfl rfl (by decide +kernel) ⟨Nat.le_of_ble_eq_true rfl, Nat.le_of_ble_eq_true rfl⟩) rfl rfl (Nat.le_of_ble_eq_true rfl) dX8_take_83 ⟨Nat.zero_le _, Nat.zero_le _⟩ hf (fun r10 m9 H locs hf hW hS => ?_)
                refine lv_if_eq (tgt := 102) X.1.1 X.1.2.1 dX8_take_86 (by decide) (fun c86 => ?_) (fun c86 => ?_)
                · rw [if_pos c86] at hf
                  exact wfX8_take_102 X   m9 H locs ls hf hW hS (lv_sub hl [0] rfl)
                · rw [if_neg c86] at hf
                  refine lv_aload_n X.1.1 X.1.2.1 dX8_take_89 rfl (lv_at hl 0 rfl) ?_
                  refine e_getr X hW (C := RX8) (T := TX8) (N := 11) (j := 0) rfl (by decide) inX8 (by decide) (by decide) rfl (t := 1) rfl rfl mw_2_12 dX8_take_90 ?_
                  refine lv_iload_n X.1.1 X.1.2.1 dX8_take_93 rfl (lv_at hl 2 rfl) ?_
                  refine lv_iconst (v := 0) X.1.1 X.1.2.1 dX8_take_94 (by decide) ?_
                  refine lv_iload_n X.1.1 X.1.2.1 dX8_take_95 rfl (lv_at hl 3 rfl) ?_
                  refine e_vi (rest := []) (As := [.int x2, .int 0, .int x3]) X hl.1 hW hS (C := RX7) (T := TX7) (N := 4) rfl (by decide) (ctfX7_hasItems X.2.2.2.2 F x2 0 x3 m9) (cwV (rm := rmX7_hasItems) 3 X.1.2.2.2.2 (gd_V mw_2_97 mw_2_82 mw_2_83 mw_1_2 mw_2_84) rfl rfl rfl (by decide +kernel) ⟨Nat.le_of_ble_eq_true rfl, Nat.le_of_ble_eq_true rfl⟩) rfl rfl (Nat.le_of_ble_eq_true rfl) dX8_take_96 ⟨Nat.zero_le _, Nat.zero_le _⟩ hf (fun r12 m11 H locs hf hW hS => ?_)
                  refine lv_if_ne (tgt := 111) X.1.1 X.1.2.1 dX8_take_99 (by decide) (fun c99 => ?_) (fun c99 => ?_)
                  · rw [if_neg c99] at hf
                    refine lv_aload_n X.1.1 X.1.2.1 dX8_take_111 rfl (lv_at hl 0 rfl) ?_
                    refine e_getr X hW (C := RX8) (T := TX8) (N := 11) (j := 0) rfl (by decide) inX8 (by decide) (by decide) rfl (t := 1) rfl rfl mw_2_12 dX8_take_112 ?_
                    refine e_getr X hW (C := RX7) (T := TX7) (N := 4) (j := 2) rfl (by decide) inX7 (by decide) (by decide) rfl (t := 4) rfl rfl mw_1_38 dX8_take_115 ?_
                    refine lv_iload_n X.1.1 X.1.2.1 dX8_take_118 rfl (lv_at hl 1 rfl) ?_
                    refine e_rld (t0 := 3) (c9 := 13) X hW (by decide) (by decide) rfl rfl rfl dX8_take_119 hf (fun t13 qt13 hf => ?_)
                    replace qt13 := rowItems qt13
                    refine lv_iload_n X.1.1 X.1.2.1 dX8_take_120 rfl (lv_at hl 3 rfl) ?_
                    refine e_si (rest := []) (As := [.ref (E.1 t13), .int x3]) X hl.1 hW hS (ctfX8_areSpans X.2.2.2.2 F t13 x3 ⟨qt13.1, qt13.2⟩ m11) (cwS (rm := rmX8_areSpans) 2 X.1.2.2.2.2 (gd_S mw_2_105 mw_2_106 mw_1_1 mw_2_107) rfl rfl rfl (by decide +kernel) ⟨Nat.le_of_ble_eq_true rfl, Nat.le_of_ble_eq_true rfl⟩) rfl rfl (Nat.le_of_ble_eq_true rfl) dX8_take_121 ⟨Nat.zero_le _, Nat.zero_le _⟩ hf (fun r15 m14 H locs hf hW hS => ?_)
                    refine lv_if_eq (tgt := 143) X.1.1 X.1.2.1 dX8_take_124 (by decide) (fun c124 => ?_) (fun c124 => ?_)
                    · rw [if_pos c124] at hf
                      refine lv_bipush (v := (-2)) X.1.1 X.1.2.1 dX8_take_143 (by decide) ?_
                      exact e_iret X hW hS hf dX8_take_145
                    · rw [if_neg c124] at hf
                      refine lv_aload_n X.1.1 X.1.2.1 dX8_take_127 rfl (lv_at hl 0 rfl) ?_
                      refine e_getr X hW (C := RX8) (T := TX8) (N := 11) (j := 0) rfl (by decide) inX8 (by decide) (by decide) rfl (t := 1) rfl rfl mw_2_12 dX8_take_128 ?_
                      refine e_getr X hW (C := RX7) (T := TX7) (N := 4) (j := 2) rfl (by decide) inX7 (by decide) (by decide) rfl (t := 4) rfl rfl mw_1_38 dX8_take_131 ?_
                      refine lv_iload_n X.1.1 X.1.2.1 dX8_take_134 rfl (lv_at hl 2 rfl) ?_
                      refine e_rld (t0 := 3) (c9 := 13) X hW (by decide) (by decide) rfl rfl rfl dX8_take_135 hf (fun t16 qt16 hf => ?_)
                      replace qt16 := rowItems qt16
                      refine lv_iload_n X.1.1 X.1.2.1 dX8_take_136 rfl (lv_at hl 3 rfl) ?_
                      refine e_si (rest := []) (As := [.ref (E.1 t16), .int x3]) X hl.1 hW hS (ctfX8_areSpans X.2.2.2.2 F t16 x3 ⟨qt16.1, qt16.2⟩ m14) (cwS (rm := rmX8_areSpans) 2 X.1.2.2.2.2 (gd_S mw_2_105 mw_2_106 mw_1_1 mw_2_107) rfl rfl rfl (by decide +kernel) ⟨Nat.le_of_ble_eq_true rfl, Nat.le_of_ble_eq_true rfl⟩) rfl rfl (Nat.le_of_ble_eq_true rfl) dX8_take_137 ⟨Nat.zero_le _, Nat.zero_le _⟩ hf (fun r18 m17 H locs hf hW hS => ?_)
                      refine lv_if_ne (tgt := 146) X.1.1 X.1.2.1 dX8_take_140 (by decide) (fun c140 => ?_) (fun c140 => ?_)
                      · rw [if_neg c140] at hf
                        refine lv_aload_n X.1.1 X.1.2.1 dX8_take_146 rfl (lv_at hl 0 rfl) ?_
                        refine e_getr X hW (C := RX8) (T := TX8) (N := 11) (j := 2) rfl (by decide) inX8 (by decide) (by decide) rfl (t := 16) rfl rfl mw_2_14 dX8_take_147 ?_
                        refine lv_aload_n X.1.1 X.1.2.1 dX8_take_150 rfl (lv_at hl 0 rfl) ?_
                        refine e_getr X hW (C := RX8) (T := TX8) (N := 11) (j := 1) rfl (by decide) inX8 (by decide) (by decide) rfl (t := 9) rfl rfl mw_2_13 dX8_take_151 ?_
                        refine e_vv (rest := []) (As := [.ref (E.1 9)]) X hl.1 hW hS (C := RX2) (T := TX2) (N := 3) rfl (by decide) (ctfX2_keep X.2.2.2.2 F m17) (cwV (rm := rmX2_keep) 1 X.1.2.2.2.2 (gd_V mw_2_112 mw_2_113 mw_2_114 mw_1_5 mw_2_115) rfl rfl rfl (by decide +kernel) ⟨Nat.le_of_ble_eq_true rfl, Nat.le_of_ble_eq_true rfl⟩) rfl rfl (Nat.le_of_ble_eq_true rfl) dX8_take_154 ⟨Nat.zero_le _, Nat.zero_le _⟩ hf (fun m19 H locs hf hW hS => ?_)
                        refine lv_iconst (v := 0) X.1.1 X.1.2.1 dX8_take_157 (by decide) ?_
                        refine lv_istore (lv' := [(4, .int 0), (0, .ref (E.1 0)), (1, .int x1), (2, .int x2), (3, .int x3)]) X.1.1 X.1.2.1 dX8_take_158 hl (by decide) rfl (fun ls hl => ?_)
                        exact wfX8_take_160 X  F x1 x2 x3 0 m19 H locs ls hf hW hS (lv_sub hl [1, 2, 3, 4, 0] rfl)
                      · rw [if_pos c140] at hf
                        refine lv_bipush (v := (-2)) X.1.1 X.1.2.1 dX8_take_143 (by decide) ?_
                        exact e_iret X hW hS hf dX8_take_145
                  · rw [if_pos c99] at hf
                    exact wfX8_take_102 X   m11 H locs ls hf hW hS (lv_sub hl [0] rfl)
              · rw [if_neg c64] at hf
                exact wfX8_take_67 X   m7 H locs ls hf hW hS (lv_sub hl [0] rfl)
          · rw [if_neg c39] at hf
            refine lv_bipush (v := (-3)) X.1.1 X.1.2.1 dX8_take_42 (by decide) ?_
            exact e_iret X hW hS hf dX8_take_44
        · rw [if_neg c22] at hf
          refine lv_bipush (v := (-2)) X.1.1 X.1.2.1 dX8_take_25 (by decide) ?_
          exact e_iret X hW hS hf dX8_take_27
-- OvenHouse.loaf
def rmX8_loaf : Room := { frames := 3, cells := 0, slots := 0, locals := 60 }
set_option maxRecDepth 100000 in
set_option maxHeartbeats 4000000 in
theorem ctfX8_loaf {l : Launch} {E : Gv} (hD : Do E) (F : Nat) (x1 : Int32) (x2 : Int32)  (μ : Mem) : CtI l yX8_loaf ((Cond.code yX8_loaf cX8_loaf 3 (some .int)) :: GG) rmX8_loaf E [.ref (E.1 0), .int x1, .int x2] μ (fX8_loaf F x1 x2 μ) := by
  intro r u hf
  refine of_entry (cc := cX8_loaf) (maxL := 3) (ret := (some .int)) (by decide +kernel) rfl hD (Nat.le_of_ble_eq_true rfl) (fun p e s m args below meth c X H locs hW hS ls hl => ?_)
  have hl : lv_has ls 3 [(0, .ref (E.1 0)), (1, .int x1), (2, .int x2)] := hl
  unfold fX8_loaf at hf
  refine lv_iload_n X.1.1 X.1.2.1 dX8_loaf_0 rfl (lv_at hl 1 rfl) ?_
  refine e_si (rest := []) (As := [.int x1]) X hl.1 hW hS (ctfX8_isSpan X.2.2.2.2 F x1 μ) (cwS (rm := rmX8_isSpan) 1 X.1.2.2.2.2 (gd_S mw_2_108 mw_2_109 mw_1_1 mw_2_110) rfl rfl rfl (by decide +kernel) ⟨Nat.le_of_ble_eq_true rfl, Nat.le_of_ble_eq_true rfl⟩) rfl rfl (Nat.le_of_ble_eq_true rfl) dX8_loaf_1 ⟨Nat.zero_le _, Nat.zero_le _⟩ hf (fun r2 m1 H locs hf hW hS => ?_)
  refine lv_if_eq (tgt := 14) X.1.1 X.1.2.1 dX8_loaf_4 (by decide) (fun c4 => ?_) (fun c4 => ?_)
  · rw [if_pos c4] at hf
    refine lv_bipush (v := (-2)) X.1.1 X.1.2.1 dX8_loaf_14 (by decide) ?_
    exact e_iret X hW hS hf dX8_loaf_16
  · rw [if_neg c4] at hf
    refine lv_iload_n X.1.1 X.1.2.1 dX8_loaf_7 rfl (lv_at hl 2 rfl) ?_
    refine e_si (rest := []) (As := [.int x2]) X hl.1 hW hS (ctfX8_isSpan X.2.2.2.2 F x2 m1) (cwS (rm := rmX8_isSpan) 1 X.1.2.2.2.2 (gd_S mw_2_108 mw_2_109 mw_1_1 mw_2_110) rfl rfl rfl (by decide +kernel) ⟨Nat.le_of_ble_eq_true rfl, Nat.le_of_ble_eq_true rfl⟩) rfl rfl (Nat.le_of_ble_eq_true rfl) dX8_loaf_8 ⟨Nat.zero_le _, Nat.zero_le _⟩ hf (fun r4 m3 H locs hf hW hS => ?_)
    refine lv_if_ne (tgt := 17) X.1.1 X.1.2.1 dX8_loaf_11 (by decide) (fun c11 => ?_) (fun c11 => ?_)
    · rw [if_neg c11] at hf
      refine lv_aload_n X.1.1 X.1.2.1 dX8_loaf_17 rfl (lv_at hl 0 rfl) ?_
      refine e_getr X hW (C := RX8) (T := TX8) (N := 11) (j := 1) rfl (by decide) inX8 (by decide) (by decide) rfl (t := 9) rfl rfl mw_2_13 dX8_loaf_18 ?_
      refine e_geti X hW (C := RX3) (T := TX3) (N := 7) (j := 6) rfl (by decide) inX3 (by decide) (by decide) rfl rfl mw_1_72 dX8_loaf_21 ?_
      refine lv_bipush (v := 40) X.1.1 X.1.2.1 dX8_loaf_24 (by decide) ?_
      refine lv_icmp_lt (tgt := 32) X.1.1 X.1.2.1 dX8_loaf_26 (by decide) (fun c26 => ?_) (fun c26 => ?_)
      · rw [if_pos c26] at hf
        refine lv_aload_n X.1.1 X.1.2.1 dX8_loaf_32 rfl (lv_at hl 0 rfl) ?_
        refine e_getr X hW (C := RX8) (T := TX8) (N := 11) (j := 2) rfl (by decide) inX8 (by decide) (by decide) rfl (t := 16) rfl rfl mw_2_14 dX8_loaf_33 ?_
        refine lv_aload_n X.1.1 X.1.2.1 dX8_loaf_36 rfl (lv_at hl 0 rfl) ?_
        refine e_getr X hW (C := RX8) (T := TX8) (N := 11) (j := 1) rfl (by decide) inX8 (by decide) (by decide) rfl (t := 9) rfl rfl mw_2_13 dX8_loaf_37 ?_
        refine e_vv (rest := []) (As := [.ref (E.1 9)]) X hl.1 hW hS (C := RX2) (T := TX2) (N := 3) rfl (by decide) (ctfX2_keep X.2.2.2.2 F m3) (cwV (rm := rmX2_keep) 1 X.1.2.2.2.2 (gd_V mw_2_112 mw_2_113 mw_2_114 mw_1_5 mw_2_115) rfl rfl rfl (by decide +kernel) ⟨Nat.le_of_ble_eq_true rfl, Nat.le_of_ble_eq_true rfl⟩) rfl rfl (Nat.le_of_ble_eq_true rfl) dX8_loaf_40 ⟨Nat.zero_le _, Nat.zero_le _⟩ hf (fun m5 H locs hf hW hS => ?_)
        refine lv_aload_n X.1.1 X.1.2.1 dX8_loaf_43 rfl (lv_at hl 0 rfl) ?_
        refine e_getr X hW (C := RX8) (T := TX8) (N := 11) (j := 1) rfl (by decide) inX8 (by decide) (by decide) rfl (t := 9) rfl rfl mw_2_13 dX8_loaf_44 ?_
        refine lv_iload_n X.1.1 X.1.2.1 dX8_loaf_47 rfl (lv_at hl 1 rfl) ?_
        refine lv_iload_n X.1.1 X.1.2.1 dX8_loaf_48 rfl (lv_at hl 2 rfl) ?_
        refine e_vv (rest := []) (As := [.int x1, .int x2]) X hl.1 hW hS (C := RX3) (T := TX3) (N := 7) rfl (by decide) (ctfX3_add X.2.2.2.2 F x1 x2 m5) (cwV (rm := rmX3_add) 2 X.1.2.2.2.2 (gd_V mw_2_124 mw_2_125 mw_2_126 mw_1_4 mw_2_127) rfl rfl rfl (by decide +kernel) ⟨Nat.le_of_ble_eq_true rfl, Nat.le_of_ble_eq_true rfl⟩) rfl rfl (Nat.le_of_ble_eq_true rfl) dX8_loaf_49 ⟨Nat.zero_le _, Nat.zero_le _⟩ hf (fun m6 H locs hf hW hS => ?_)
        refine lv_aload_n X.1.1 X.1.2.1 dX8_loaf_52 rfl (lv_at hl 0 rfl) ?_
        refine e_getr X hW (C := RX8) (T := TX8) (N := 11) (j := 3) rfl (by decide) inX8 (by decide) (by decide) rfl (t := 53) rfl rfl mw_2_15 dX8_loaf_53 ?_
        refine lv_iconst (v := 0) X.1.1 X.1.2.1 dX8_loaf_56 (by decide) ?_
        refine e_put X hW hS (C := RX0) (T := TX0) (N := 3) (j := 2) (tyF := tyX0) rfl (by decide) inX0 tyX0_ok nmX0 (by decide) (by decide) rfl rfl mw_1_119 rfl rfl rfl dX8_loaf_57 hf (fun m7 H locs hf hW hS => ?_)
        refine lv_aload_n X.1.1 X.1.2.1 dX8_loaf_60 rfl (lv_at hl 0 rfl) ?_
        refine e_getr X hW (C := RX8) (T := TX8) (N := 11) (j := 1) rfl (by decide) inX8 (by decide) (by decide) rfl (t := 9) rfl rfl mw_2_13 dX8_loaf_61 ?_
        refine e_geti X hW (C := RX3) (T := TX3) (N := 7) (j := 6) rfl (by decide) inX3 (by decide) (by decide) rfl rfl mw_1_72 dX8_loaf_64 ?_
        refine lv_iconst (v := 1) X.1.1 X.1.2.1 dX8_loaf_67 (by decide) ?_
        refine lv_isub X.1.1 X.1.2.1 dX8_loaf_68 ?_
        exact e_iret X hW hS hf dX8_loaf_69
      · rw [if_neg c26] at hf
        refine lv_bipush (v := (-3)) X.1.1 X.1.2.1 dX8_loaf_29 (by decide) ?_
        exact e_iret X hW hS hf dX8_loaf_31
    · rw [if_pos c11] at hf
      refine lv_bipush (v := (-2)) X.1.1 X.1.2.1 dX8_loaf_14 (by decide) ?_
      exact e_iret X hW hS hf dX8_loaf_16
-- OvenHouse.of
def rmX8_of : Room := { frames := 1, cells := 0, slots := 0, locals := 22 }
set_option maxRecDepth 100000 in
set_option maxHeartbeats 4000000 in
theorem ctfX8_of {l : Launch} {E : Gv} (hD : Do E) (F : Nat) (x1 : Int32) (x2 : Int32)  (μ : Mem) : CtI l yX8_of ((Cond.code yX8_of cX8_of 3 (some .int)) :: GG) rmX8_of E [.ref (E.1 0), .int x1, .int x2] μ (fX8_of F x1 x2 μ) := by
  intro r u hf
  refine of_entry (cc := cX8_of) (maxL := 3) (ret := (some .int)) (by decide +kernel) rfl hD (Nat.le_of_ble_eq_true rfl) (fun p e s m args below meth c X H locs hW hS ls hl => ?_)
  have hl : lv_has ls 3 [(0, .ref (E.1 0)), (1, .int x1), (2, .int x2)] := hl
  unfold fX8_of at hf
  refine lv_aload_n X.1.1 X.1.2.1 dX8_of_0 rfl (lv_at hl 0 rfl) ?_
  refine e_getr X hW (C := RX8) (T := TX8) (N := 11) (j := 1) rfl (by decide) inX8 (by decide) (by decide) rfl (t := 9) rfl rfl mw_2_13 dX8_of_1 ?_
  refine lv_iload_n X.1.1 X.1.2.1 dX8_of_4 rfl (lv_at hl 1 rfl) ?_
  refine e_vi (rest := []) (As := [.int x1]) X hl.1 hW hS (C := RX3) (T := TX3) (N := 7) rfl (by decide) (ctfX3_has X.2.2.2.2 F x1 μ) (cwV (rm := rmX3_has) 1 X.1.2.2.2.2 (gd_V mw_2_136 mw_2_137 mw_2_138 mw_1_4 mw_2_139) rfl rfl rfl (by decide +kernel) ⟨Nat.le_of_ble_eq_true rfl, Nat.le_of_ble_eq_true rfl⟩) rfl rfl (Nat.le_of_ble_eq_true rfl) dX8_of_5 ⟨Nat.zero_le _, Nat.zero_le _⟩ hf (fun r2 m1 H locs hf hW hS => ?_)
  refine lv_if_ne (tgt := 14) X.1.1 X.1.2.1 dX8_of_8 (by decide) (fun c8 => ?_) (fun c8 => ?_)
  · rw [if_neg c8] at hf
    refine lv_iload_n X.1.1 X.1.2.1 dX8_of_14 rfl (lv_at hl 2 rfl) ?_
    by_cases c15_0 : x2 = 0
    · rw [if_pos c15_0] at hf
      refine lv_tableIn (off := 37) (tgt := 52) X.1.1 X.1.2.1 dX8_of_15 (by rw [c15_0]; decide) (by rw [c15_0]; decide) (by rw [c15_0]; rfl) (by decide) ?_
      refine lv_aload_n X.1.1 X.1.2.1 dX8_of_52 rfl (lv_at hl 0 rfl) ?_
      refine e_getr X hW (C := RX8) (T := TX8) (N := 11) (j := 1) rfl (by decide) inX8 (by decide) (by decide) rfl (t := 9) rfl rfl mw_2_13 dX8_of_53 ?_
      refine e_getr X hW (C := RX3) (T := TX3) (N := 7) (j := 0) rfl (by decide) inX3 (by decide) (by decide) rfl (t := 10) rfl rfl mw_1_59 dX8_of_56 ?_
      refine lv_iload_n X.1.1 X.1.2.1 dX8_of_59 rfl (lv_at hl 1 rfl) ?_
      refine e_ild X hW (by decide) rfl dX8_of_60 hf (fun v3 hf => ?_)
      exact e_iret X hW hS hf dX8_of_61
    · rw [if_neg c15_0] at hf
      by_cases c15_1 : x2 = 1
      · rw [if_pos c15_1] at hf
        refine lv_tableIn (off := 47) (tgt := 62) X.1.1 X.1.2.1 dX8_of_15 (by rw [c15_1]; decide) (by rw [c15_1]; decide) (by rw [c15_1]; rfl) (by decide) ?_
        refine lv_aload_n X.1.1 X.1.2.1 dX8_of_62 rfl (lv_at hl 0 rfl) ?_
        refine e_getr X hW (C := RX8) (T := TX8) (N := 11) (j := 1) rfl (by decide) inX8 (by decide) (by decide) rfl (t := 9) rfl rfl mw_2_13 dX8_of_63 ?_
        refine e_getr X hW (C := RX3) (T := TX3) (N := 7) (j := 1) rfl (by decide) inX3 (by decide) (by decide) rfl (t := 11) rfl rfl mw_1_62 dX8_of_66 ?_
        refine lv_iload_n X.1.1 X.1.2.1 dX8_of_69 rfl (lv_at hl 1 rfl) ?_
        refine e_ild X hW (by decide) rfl dX8_of_70 hf (fun v4 hf => ?_)
        exact e_iret X hW hS hf dX8_of_71
      · rw [if_neg c15_1] at hf
        by_cases c15_2 : x2 = 2
        · rw [if_pos c15_2] at hf
          refine lv_tableIn (off := 57) (tgt := 72) X.1.1 X.1.2.1 dX8_of_15 (by rw [c15_2]; decide) (by rw [c15_2]; decide) (by rw [c15_2]; rfl) (by decide) ?_
          refine lv_aload_n X.1.1 X.1.2.1 dX8_of_72 rfl (lv_at hl 0 rfl) ?_
          refine e_getr X hW (C := RX8) (T := TX8) (N := 11) (j := 1) rfl (by decide) inX8 (by decide) (by decide) rfl (t := 9) rfl rfl mw_2_13 dX8_of_73 ?_
          refine e_getr X hW (C := RX3) (T := TX3) (N := 7) (j := 2) rfl (by decide) inX3 (by decide) (by decide) rfl (t := 12) rfl rfl mw_1_64 dX8_of_76 ?_
          refine lv_iload_n X.1.1 X.1.2.1 dX8_of_79 rfl (lv_at hl 1 rfl) ?_
          refine e_ild X hW (by decide) rfl dX8_of_80 hf (fun v5 hf => ?_)
          exact e_iret X hW hS hf dX8_of_81
        · rw [if_neg c15_2] at hf
          by_cases c15_3 : x2 = 3
          · rw [if_pos c15_3] at hf
            refine lv_tableIn (off := 67) (tgt := 82) X.1.1 X.1.2.1 dX8_of_15 (by rw [c15_3]; decide) (by rw [c15_3]; decide) (by rw [c15_3]; rfl) (by decide) ?_
            refine lv_aload_n X.1.1 X.1.2.1 dX8_of_82 rfl (lv_at hl 0 rfl) ?_
            refine e_getr X hW (C := RX8) (T := TX8) (N := 11) (j := 1) rfl (by decide) inX8 (by decide) (by decide) rfl (t := 9) rfl rfl mw_2_13 dX8_of_83 ?_
            refine e_getr X hW (C := RX3) (T := TX3) (N := 7) (j := 3) rfl (by decide) inX3 (by decide) (by decide) rfl (t := 13) rfl rfl mw_1_66 dX8_of_86 ?_
            refine lv_iload_n X.1.1 X.1.2.1 dX8_of_89 rfl (lv_at hl 1 rfl) ?_
            refine e_ild X hW (by decide) rfl dX8_of_90 hf (fun v6 hf => ?_)
            exact e_iret X hW hS hf dX8_of_91
          · rw [if_neg c15_3] at hf
            by_cases c15_4 : x2 = 4
            · rw [if_pos c15_4] at hf
              refine lv_tableIn (off := 77) (tgt := 92) X.1.1 X.1.2.1 dX8_of_15 (by rw [c15_4]; decide) (by rw [c15_4]; decide) (by rw [c15_4]; rfl) (by decide) ?_
              refine lv_aload_n X.1.1 X.1.2.1 dX8_of_92 rfl (lv_at hl 0 rfl) ?_
              refine e_getr X hW (C := RX8) (T := TX8) (N := 11) (j := 1) rfl (by decide) inX8 (by decide) (by decide) rfl (t := 9) rfl rfl mw_2_13 dX8_of_93 ?_
              refine lv_iload_n X.1.1 X.1.2.1 dX8_of_96 rfl (lv_at hl 1 rfl) ?_
              refine e_vi (rest := []) (As := [.int x1]) X hl.1 hW hS (C := RX3) (T := TX3) (N := 7) rfl (by decide) (ctfX3_kindOf X.2.2.2.2 F x1 m1) (cwV (rm := rmX3_kindOf) 1 X.1.2.2.2.2 (gd_V mw_2_140 mw_2_141 mw_2_142 mw_1_4 mw_2_143) rfl rfl rfl (by decide +kernel) ⟨Nat.le_of_ble_eq_true rfl, Nat.le_of_ble_eq_true rfl⟩) rfl rfl (Nat.le_of_ble_eq_true rfl) dX8_of_97 ⟨Nat.zero_le _, Nat.zero_le _⟩ hf (fun r8 m7 H locs hf hW hS => ?_)
              exact e_iret X hW hS hf dX8_of_100
            · rw [if_neg c15_4] at hf
              by_cases c15_5 : x2 = 5
              · rw [if_pos c15_5] at hf
                refine lv_tableIn (off := 86) (tgt := 101) X.1.1 X.1.2.1 dX8_of_15 (by rw [c15_5]; decide) (by rw [c15_5]; decide) (by rw [c15_5]; rfl) (by decide) ?_
                refine lv_aload_n X.1.1 X.1.2.1 dX8_of_101 rfl (lv_at hl 0 rfl) ?_
                refine e_getr X hW (C := RX8) (T := TX8) (N := 11) (j := 1) rfl (by decide) inX8 (by decide) (by decide) rfl (t := 9) rfl rfl mw_2_13 dX8_of_102 ?_
                refine lv_iload_n X.1.1 X.1.2.1 dX8_of_105 rfl (lv_at hl 1 rfl) ?_
                refine e_vi (rest := []) (As := [.int x1]) X hl.1 hW hS (C := RX3) (T := TX3) (N := 7) rfl (by decide) (ctfX3_placeOf X.2.2.2.2 F x1 m1) (cwV (rm := rmX3_placeOf) 1 X.1.2.2.2.2 (gd_V mw_2_144 mw_2_145 mw_2_146 mw_1_4 mw_2_147) rfl rfl rfl (by decide +kernel) ⟨Nat.le_of_ble_eq_true rfl, Nat.le_of_ble_eq_true rfl⟩) rfl rfl (Nat.le_of_ble_eq_true rfl) dX8_of_106 ⟨Nat.zero_le _, Nat.zero_le _⟩ hf (fun r10 m9 H locs hf hW hS => ?_)
                exact e_iret X hW hS hf dX8_of_109
              · rw [if_neg c15_5] at hf
                refine lv_tableOut (tgt := 110) X.1.1 X.1.2.1 dX8_of_15 (by have e0 := lv_neT c15_0 (a := 0) rfl; have e1 := lv_neT c15_1 (a := 1) rfl; have e2 := lv_neT c15_2 (a := 2) rfl; have e3 := lv_neT c15_3 (a := 3) rfl; have e4 := lv_neT c15_4 (a := 4) rfl; have e5 := lv_neT c15_5 (a := 5) rfl; have e := e0; omega) (by decide) ?_
                refine lv_bipush (v := (-2)) X.1.1 X.1.2.1 dX8_of_110 (by decide) ?_
                exact e_iret X hW hS hf dX8_of_112
  · rw [if_pos c8] at hf
    refine lv_bipush (v := (-2)) X.1.1 X.1.2.1 dX8_of_11 (by decide) ?_
    exact e_iret X hW hS hf dX8_of_13
-- OvenHouse.isDegree
def rmX8_isDegree : Room := { frames := 0, cells := 0, slots := 0, locals := 0 }
set_option maxRecDepth 100000 in
set_option maxHeartbeats 4000000 in
theorem ctfX8_isDegree {l : Launch} {E : Gv} (hD : Do E) (F : Nat) (x0 : Int32)  (μ : Mem) : CtI l yX8_isDegree ((Cond.code yX8_isDegree cX8_isDegree 1 (some .boolean)) :: GG) rmX8_isDegree E [.int x0] μ (fX8_isDegree F x0 μ) := by
  intro r u hf
  refine of_entry (cc := cX8_isDegree) (maxL := 1) (ret := (some .boolean)) (by decide +kernel) rfl hD (Nat.le_of_ble_eq_true rfl) (fun p e s m args below meth c X H locs hW hS ls hl => ?_)
  have hl : lv_has ls 1 [(0, .int x0)] := hl
  unfold fX8_isDegree at hf
  refine lv_iload_n X.1.1 X.1.2.1 dX8_isDegree_0 rfl (lv_at hl 0 rfl) ?_
  refine lv_if_lt (tgt := 15) X.1.1 X.1.2.1 dX8_isDegree_1 (by decide) (fun c1 => ?_) (fun c1 => ?_)
  · rw [if_pos c1] at hf
    refine lv_iconst (v := 0) X.1.1 X.1.2.1 dX8_isDegree_15 (by decide) ?_
    exact e_zret X hW hS hf dX8_isDegree_16
  · rw [if_neg c1] at hf
    refine lv_iload_n X.1.1 X.1.2.1 dX8_isDegree_4 rfl (lv_at hl 0 rfl) ?_
    refine lv_sipush (v := 399) X.1.1 X.1.2.1 dX8_isDegree_5 (by decide) ?_
    refine lv_icmp_gt (tgt := 15) X.1.1 X.1.2.1 dX8_isDegree_8 (by decide) (fun c8 => ?_) (fun c8 => ?_)
    · rw [if_pos c8] at hf
      refine lv_iconst (v := 0) X.1.1 X.1.2.1 dX8_isDegree_15 (by decide) ?_
      exact e_zret X hW hS hf dX8_isDegree_16
    · rw [if_neg c8] at hf
      refine lv_iconst (v := 1) X.1.1 X.1.2.1 dX8_isDegree_11 (by decide) ?_
      refine lv_goto (tgt := 16) X.1.1 X.1.2.1 dX8_isDegree_12 (by decide) ?_
      exact e_zret X hW hS hf dX8_isDegree_16
-- OvenHouse.heat
def rmX8_heat : Room := { frames := 3, cells := 0, slots := 0, locals := 60 }
set_option maxRecDepth 100000 in
set_option maxHeartbeats 4000000 in
theorem ctfX8_heat {l : Launch} {E : Gv} (hD : Do E) (F : Nat) (x1 : Int32) (x2 : Int32) (x3 : Int32)  (μ : Mem) : CtI l yX8_heat ((Cond.code yX8_heat cX8_heat 4 (some .int)) :: GG) rmX8_heat E [.ref (E.1 0), .int x1, .int x2, .int x3] μ (fX8_heat F x1 x2 x3 μ) := by
  intro r u hf
  refine of_entry (cc := cX8_heat) (maxL := 4) (ret := (some .int)) (by decide +kernel) rfl hD (Nat.le_of_ble_eq_true rfl) (fun p e s m args below meth c X H locs hW hS ls hl => ?_)
  have hl : lv_has ls 4 [(0, .ref (E.1 0)), (1, .int x1), (2, .int x2), (3, .int x3)] := hl
  unfold fX8_heat at hf
  refine lv_aload_n X.1.1 X.1.2.1 dX8_heat_0 rfl (lv_at hl 0 rfl) ?_
  refine e_getr X hW (C := RX8) (T := TX8) (N := 11) (j := 1) rfl (by decide) inX8 (by decide) (by decide) rfl (t := 9) rfl rfl mw_2_13 dX8_heat_1 ?_
  refine lv_iload_n X.1.1 X.1.2.1 dX8_heat_4 rfl (lv_at hl 1 rfl) ?_
  refine e_vi (rest := []) (As := [.int x1]) X hl.1 hW hS (C := RX3) (T := TX3) (N := 7) rfl (by decide) (ctfX3_has X.2.2.2.2 F x1 μ) (cwV (rm := rmX3_has) 1 X.1.2.2.2.2 (gd_V mw_2_136 mw_2_137 mw_2_138 mw_1_4 mw_2_139) rfl rfl rfl (by decide +kernel) ⟨Nat.le_of_ble_eq_true rfl, Nat.le_of_ble_eq_true rfl⟩) rfl rfl (Nat.le_of_ble_eq_true rfl) dX8_heat_5 ⟨Nat.zero_le _, Nat.zero_le _⟩ hf (fun r2 m1 H locs hf hW hS => ?_)
  refine lv_if_eq (tgt := 25) X.1.1 X.1.2.1 dX8_heat_8 (by decide) (fun c8 => ?_) (fun c8 => ?_)
  · rw [if_pos c8] at hf
    refine lv_bipush (v := (-2)) X.1.1 X.1.2.1 dX8_heat_25 (by decide) ?_
    exact e_iret X hW hS hf dX8_heat_27
  · rw [if_neg c8] at hf
    refine lv_iload_n X.1.1 X.1.2.1 dX8_heat_11 rfl (lv_at hl 2 rfl) ?_
    refine e_si (rest := []) (As := [.int x2]) X hl.1 hW hS (ctfX8_isDegree X.2.2.2.2 F x2 m1) (cwS (rm := rmX8_isDegree) 1 X.1.2.2.2.2 (gd_S mw_2_152 mw_2_153 mw_1_1 mw_2_154) rfl rfl rfl (by decide +kernel) ⟨Nat.le_of_ble_eq_true rfl, Nat.le_of_ble_eq_true rfl⟩) rfl rfl (Nat.le_of_ble_eq_true rfl) dX8_heat_12 ⟨Nat.zero_le _, Nat.zero_le _⟩ hf (fun r4 m3 H locs hf hW hS => ?_)
    refine lv_if_eq (tgt := 25) X.1.1 X.1.2.1 dX8_heat_15 (by decide) (fun c15 => ?_) (fun c15 => ?_)
    · rw [if_pos c15] at hf
      refine lv_bipush (v := (-2)) X.1.1 X.1.2.1 dX8_heat_25 (by decide) ?_
      exact e_iret X hW hS hf dX8_heat_27
    · rw [if_neg c15] at hf
      refine lv_iload_n X.1.1 X.1.2.1 dX8_heat_18 rfl (lv_at hl 3 rfl) ?_
      refine e_si (rest := []) (As := [.int x3]) X hl.1 hW hS (ctfX8_isDegree X.2.2.2.2 F x3 m3) (cwS (rm := rmX8_isDegree) 1 X.1.2.2.2.2 (gd_S mw_2_152 mw_2_153 mw_1_1 mw_2_154) rfl rfl rfl (by decide +kernel) ⟨Nat.le_of_ble_eq_true rfl, Nat.le_of_ble_eq_true rfl⟩) rfl rfl (Nat.le_of_ble_eq_true rfl) dX8_heat_19 ⟨Nat.zero_le _, Nat.zero_le _⟩ hf (fun r6 m5 H locs hf hW hS => ?_)
      refine lv_if_ne (tgt := 28) X.1.1 X.1.2.1 dX8_heat_22 (by decide) (fun c22 => ?_) (fun c22 => ?_)
      · rw [if_neg c22] at hf
        refine lv_aload_n X.1.1 X.1.2.1 dX8_heat_28 rfl (lv_at hl 0 rfl) ?_
        refine e_getr X hW (C := RX8) (T := TX8) (N := 11) (j := 2) rfl (by decide) inX8 (by decide) (by decide) rfl (t := 16) rfl rfl mw_2_14 dX8_heat_29 ?_
        refine lv_aload_n X.1.1 X.1.2.1 dX8_heat_32 rfl (lv_at hl 0 rfl) ?_
        refine e_getr X hW (C := RX8) (T := TX8) (N := 11) (j := 1) rfl (by decide) inX8 (by decide) (by decide) rfl (t := 9) rfl rfl mw_2_13 dX8_heat_33 ?_
        refine e_vv (rest := []) (As := [.ref (E.1 9)]) X hl.1 hW hS (C := RX2) (T := TX2) (N := 3) rfl (by decide) (ctfX2_keep X.2.2.2.2 F m5) (cwV (rm := rmX2_keep) 1 X.1.2.2.2.2 (gd_V mw_2_112 mw_2_113 mw_2_114 mw_1_5 mw_2_115) rfl rfl rfl (by decide +kernel) ⟨Nat.le_of_ble_eq_true rfl, Nat.le_of_ble_eq_true rfl⟩) rfl rfl (Nat.le_of_ble_eq_true rfl) dX8_heat_36 ⟨Nat.zero_le _, Nat.zero_le _⟩ hf (fun m7 H locs hf hW hS => ?_)
        refine lv_aload_n X.1.1 X.1.2.1 dX8_heat_39 rfl (lv_at hl 0 rfl) ?_
        refine e_getr X hW (C := RX8) (T := TX8) (N := 11) (j := 1) rfl (by decide) inX8 (by decide) (by decide) rfl (t := 9) rfl rfl mw_2_13 dX8_heat_40 ?_
        refine e_getr X hW (C := RX3) (T := TX3) (N := 7) (j := 2) rfl (by decide) inX3 (by decide) (by decide) rfl (t := 12) rfl rfl mw_1_64 dX8_heat_43 ?_
        refine lv_iload_n X.1.1 X.1.2.1 dX8_heat_46 rfl (lv_at hl 1 rfl) ?_
        refine lv_iload_n X.1.1 X.1.2.1 dX8_heat_47 rfl (lv_at hl 2 rfl) ?_
        refine e_ist X hW hS (by decide) rfl dX8_heat_48 hf (fun m8 H locs hf hW hS => ?_)
        refine lv_aload_n X.1.1 X.1.2.1 dX8_heat_49 rfl (lv_at hl 0 rfl) ?_
        refine e_getr X hW (C := RX8) (T := TX8) (N := 11) (j := 1) rfl (by decide) inX8 (by decide) (by decide) rfl (t := 9) rfl rfl mw_2_13 dX8_heat_50 ?_
        refine e_getr X hW (C := RX3) (T := TX3) (N := 7) (j := 3) rfl (by decide) inX3 (by decide) (by decide) rfl (t := 13) rfl rfl mw_1_66 dX8_heat_53 ?_
        refine lv_iload_n X.1.1 X.1.2.1 dX8_heat_56 rfl (lv_at hl 1 rfl) ?_
        refine lv_iload_n X.1.1 X.1.2.1 dX8_heat_57 rfl (lv_at hl 3 rfl) ?_
        refine e_ist X hW hS (by decide) rfl dX8_heat_58 hf (fun m9 H locs hf hW hS => ?_)
        refine lv_iconst (v := 1) X.1.1 X.1.2.1 dX8_heat_59 (by decide) ?_
        exact e_iret X hW hS hf dX8_heat_60
      · rw [if_pos c22] at hf
        refine lv_bipush (v := (-2)) X.1.1 X.1.2.1 dX8_heat_25 (by decide) ?_
        exact e_iret X hW hS hf dX8_heat_27
-- OvenHouse.isPrice
def rmX8_isPrice : Room := { frames := 0, cells := 0, slots := 0, locals := 0 }
set_option maxRecDepth 100000 in
set_option maxHeartbeats 4000000 in
theorem ctfX8_isPrice {l : Launch} {E : Gv} (hD : Do E) (F : Nat) (x0 : Int32)  (μ : Mem) : CtI l yX8_isPrice ((Cond.code yX8_isPrice cX8_isPrice 1 (some .boolean)) :: GG) rmX8_isPrice E [.int x0] μ (fX8_isPrice F x0 μ) := by
  intro r u hf
  refine of_entry (cc := cX8_isPrice) (maxL := 1) (ret := (some .boolean)) (by decide +kernel) rfl hD (Nat.le_of_ble_eq_true rfl) (fun p e s m args below meth c X H locs hW hS ls hl => ?_)
  have hl : lv_has ls 1 [(0, .int x0)] := hl
  unfold fX8_isPrice at hf
  refine lv_iload_n X.1.1 X.1.2.1 dX8_isPrice_0 rfl (lv_at hl 0 rfl) ?_
  refine lv_bipush (v := (-100)) X.1.1 X.1.2.1 dX8_isPrice_1 (by decide) ?_
  refine lv_icmp_lt (tgt := 16) X.1.1 X.1.2.1 dX8_isPrice_3 (by decide) (fun c3 => ?_) (fun c3 => ?_)
  · rw [if_pos c3] at hf
    refine lv_iconst (v := 0) X.1.1 X.1.2.1 dX8_isPrice_16 (by decide) ?_
    exact e_zret X hW hS hf dX8_isPrice_17
  · rw [if_neg c3] at hf
    refine lv_iload_n X.1.1 X.1.2.1 dX8_isPrice_6 rfl (lv_at hl 0 rfl) ?_
    refine lv_bipush (v := 100) X.1.1 X.1.2.1 dX8_isPrice_7 (by decide) ?_
    refine lv_icmp_gt (tgt := 16) X.1.1 X.1.2.1 dX8_isPrice_9 (by decide) (fun c9 => ?_) (fun c9 => ?_)
    · rw [if_pos c9] at hf
      refine lv_iconst (v := 0) X.1.1 X.1.2.1 dX8_isPrice_16 (by decide) ?_
      exact e_zret X hW hS hf dX8_isPrice_17
    · rw [if_neg c9] at hf
      refine lv_iconst (v := 1) X.1.1 X.1.2.1 dX8_isPrice_12 (by decide) ?_
      refine lv_goto (tgt := 17) X.1.1 X.1.2.1 dX8_isPrice_13 (by decide) ?_
      exact e_zret X hW hS hf dX8_isPrice_17
-- OvenHouse.price
def rmX8_price : Room := { frames := 1, cells := 0, slots := 0, locals := 20 }
set_option maxRecDepth 100000 in
set_option maxHeartbeats 4000000 in
theorem ctfX8_price {l : Launch} {E : Gv} (hD : Do E) (F : Nat) (x1 : Int32) (x2 : Int32) (x3 : Int32)  (μ : Mem) : CtI l yX8_price ((Cond.code yX8_price cX8_price 4 (some .int)) :: GG) rmX8_price E [.ref (E.1 0), .int x1, .int x2, .int x3] μ (fX8_price F x1 x2 x3 μ) := by
  intro r u hf
  refine of_entry (cc := cX8_price) (maxL := 4) (ret := (some .int)) (by decide +kernel) rfl hD (Nat.le_of_ble_eq_true rfl) (fun p e s m args below meth c X H locs hW hS ls hl => ?_)
  have hl : lv_has ls 4 [(0, .ref (E.1 0)), (1, .int x1), (2, .int x2), (3, .int x3)] := hl
  unfold fX8_price at hf
  refine lv_iload_n X.1.1 X.1.2.1 dX8_price_0 rfl (lv_at hl 1 rfl) ?_
  refine lv_if_lt (tgt := 24) X.1.1 X.1.2.1 dX8_price_1 (by decide) (fun c1 => ?_) (fun c1 => ?_)
  · rw [if_pos c1] at hf
    refine lv_bipush (v := (-2)) X.1.1 X.1.2.1 dX8_price_24 (by decide) ?_
    exact e_iret X hW hS hf dX8_price_26
  · rw [if_neg c1] at hf
    refine lv_iload_n X.1.1 X.1.2.1 dX8_price_4 rfl (lv_at hl 1 rfl) ?_
    refine lv_bipush (v := 8) X.1.1 X.1.2.1 dX8_price_5 (by decide) ?_
    refine lv_icmp_ge (tgt := 24) X.1.1 X.1.2.1 dX8_price_7 (by decide) (fun c7 => ?_) (fun c7 => ?_)
    · rw [if_pos c7] at hf
      refine lv_bipush (v := (-2)) X.1.1 X.1.2.1 dX8_price_24 (by decide) ?_
      exact e_iret X hW hS hf dX8_price_26
    · rw [if_neg c7] at hf
      refine lv_iload_n X.1.1 X.1.2.1 dX8_price_10 rfl (lv_at hl 2 rfl) ?_
      refine e_si (rest := []) (As := [.int x2]) X hl.1 hW hS (ctfX8_isPrice X.2.2.2.2 F x2 μ) (cwS (rm := rmX8_isPrice) 1 X.1.2.2.2.2 (gd_S mw_2_159 mw_2_160 mw_1_1 mw_2_161) rfl rfl rfl (by decide +kernel) ⟨Nat.le_of_ble_eq_true rfl, Nat.le_of_ble_eq_true rfl⟩) rfl rfl (Nat.le_of_ble_eq_true rfl) dX8_price_11 ⟨Nat.zero_le _, Nat.zero_le _⟩ hf (fun r2 m1 H locs hf hW hS => ?_)
      refine lv_if_eq (tgt := 24) X.1.1 X.1.2.1 dX8_price_14 (by decide) (fun c14 => ?_) (fun c14 => ?_)
      · rw [if_pos c14] at hf
        refine lv_bipush (v := (-2)) X.1.1 X.1.2.1 dX8_price_24 (by decide) ?_
        exact e_iret X hW hS hf dX8_price_26
      · rw [if_neg c14] at hf
        refine lv_iload_n X.1.1 X.1.2.1 dX8_price_17 rfl (lv_at hl 3 rfl) ?_
        refine e_si (rest := []) (As := [.int x3]) X hl.1 hW hS (ctfX8_isPrice X.2.2.2.2 F x3 m1) (cwS (rm := rmX8_isPrice) 1 X.1.2.2.2.2 (gd_S mw_2_159 mw_2_160 mw_1_1 mw_2_161) rfl rfl rfl (by decide +kernel) ⟨Nat.le_of_ble_eq_true rfl, Nat.le_of_ble_eq_true rfl⟩) rfl rfl (Nat.le_of_ble_eq_true rfl) dX8_price_18 ⟨Nat.zero_le _, Nat.zero_le _⟩ hf (fun r4 m3 H locs hf hW hS => ?_)
        refine lv_if_ne (tgt := 27) X.1.1 X.1.2.1 dX8_price_21 (by decide) (fun c21 => ?_) (fun c21 => ?_)
        · rw [if_neg c21] at hf
          refine lv_aload_n X.1.1 X.1.2.1 dX8_price_27 rfl (lv_at hl 0 rfl) ?_
          refine e_getr X hW (C := RX8) (T := TX8) (N := 11) (j := 7) rfl (by decide) inX8 (by decide) (by decide) rfl (t := 73) rfl rfl mw_2_19 dX8_price_28 ?_
          refine e_getr X hW (C := RX4) (T := TX4) (N := 2) (j := 0) rfl (by decide) inX4 (by decide) (by decide) rfl (t := 74) rfl rfl mw_2_3 dX8_price_31 ?_
          refine lv_iload_n X.1.1 X.1.2.1 dX8_price_34 rfl (lv_at hl 1 rfl) ?_
          refine lv_iload_n X.1.1 X.1.2.1 dX8_price_35 rfl (lv_at hl 2 rfl) ?_
          refine e_ist X hW hS (by decide) rfl dX8_price_36 hf (fun m5 H locs hf hW hS => ?_)
          refine lv_aload_n X.1.1 X.1.2.1 dX8_price_37 rfl (lv_at hl 0 rfl) ?_
          refine e_getr X hW (C := RX8) (T := TX8) (N := 11) (j := 7) rfl (by decide) inX8 (by decide) (by decide) rfl (t := 73) rfl rfl mw_2_19 dX8_price_38 ?_
          refine e_getr X hW (C := RX4) (T := TX4) (N := 2) (j := 1) rfl (by decide) inX4 (by decide) (by decide) rfl (t := 75) rfl rfl mw_2_5 dX8_price_41 ?_
          refine lv_iload_n X.1.1 X.1.2.1 dX8_price_44 rfl (lv_at hl 1 rfl) ?_
          refine lv_iload_n X.1.1 X.1.2.1 dX8_price_45 rfl (lv_at hl 3 rfl) ?_
          refine e_ist X hW hS (by decide) rfl dX8_price_46 hf (fun m6 H locs hf hW hS => ?_)
          refine lv_iconst (v := 1) X.1.1 X.1.2.1 dX8_price_47 (by decide) ?_
          exact e_iret X hW hS hf dX8_price_48
        · rw [if_pos c21] at hf
          refine lv_bipush (v := (-2)) X.1.1 X.1.2.1 dX8_price_24 (by decide) ?_
          exact e_iret X hW hS hf dX8_price_26
-- OvenHouse.at
def rmX8_at : Room := { frames := 1, cells := 0, slots := 0, locals := 21 }
set_option maxRecDepth 100000 in
set_option maxHeartbeats 4000000 in
theorem ctfX8_at {l : Launch} {E : Gv} (hD : Do E) (F : Nat) (x1 : Int32)  (μ : Mem) : CtI l yX8_at ((Cond.code yX8_at cX8_at 2 (some .int)) :: GG) rmX8_at E [.ref (E.1 0), .int x1] μ (fX8_at F x1 μ) := by
  intro r u hf
  refine of_entry (cc := cX8_at) (maxL := 2) (ret := (some .int)) (by decide +kernel) rfl hD (Nat.le_of_ble_eq_true rfl) (fun p e s m args below meth c X H locs hW hS ls hl => ?_)
  have hl : lv_has ls 2 [(0, .ref (E.1 0)), (1, .int x1)] := hl
  unfold fX8_at at hf
  refine lv_aload_n X.1.1 X.1.2.1 dX8_at_0 rfl (lv_at hl 0 rfl) ?_
  refine e_getr X hW (C := RX8) (T := TX8) (N := 11) (j := 1) rfl (by decide) inX8 (by decide) (by decide) rfl (t := 9) rfl rfl mw_2_13 dX8_at_1 ?_
  refine lv_iload_n X.1.1 X.1.2.1 dX8_at_4 rfl (lv_at hl 1 rfl) ?_
  refine e_vi (rest := []) (As := [.int x1]) X hl.1 hW hS (C := RX3) (T := TX3) (N := 7) rfl (by decide) (ctfX3_has X.2.2.2.2 F x1 μ) (cwV (rm := rmX3_has) 1 X.1.2.2.2.2 (gd_V mw_2_136 mw_2_137 mw_2_138 mw_1_4 mw_2_139) rfl rfl rfl (by decide +kernel) ⟨Nat.le_of_ble_eq_true rfl, Nat.le_of_ble_eq_true rfl⟩) rfl rfl (Nat.le_of_ble_eq_true rfl) dX8_at_5 ⟨Nat.zero_le _, Nat.zero_le _⟩ hf (fun r2 m1 H locs hf hW hS => ?_)
  refine lv_if_eq (tgt := 23) X.1.1 X.1.2.1 dX8_at_8 (by decide) (fun c8 => ?_) (fun c8 => ?_)
  · rw [if_pos c8] at hf
    refine lv_iconst (v := (-1)) X.1.1 X.1.2.1 dX8_at_23 (by decide) ?_
    exact e_iret X hW hS hf dX8_at_24
  · rw [if_neg c8] at hf
    refine lv_aload_n X.1.1 X.1.2.1 dX8_at_11 rfl (lv_at hl 0 rfl) ?_
    refine e_getr X hW (C := RX8) (T := TX8) (N := 11) (j := 1) rfl (by decide) inX8 (by decide) (by decide) rfl (t := 9) rfl rfl mw_2_13 dX8_at_12 ?_
    refine e_getr X hW (C := RX3) (T := TX3) (N := 7) (j := 4) rfl (by decide) inX3 (by decide) (by decide) rfl (t := 14) rfl rfl mw_1_68 dX8_at_15 ?_
    refine lv_iload_n X.1.1 X.1.2.1 dX8_at_18 rfl (lv_at hl 1 rfl) ?_
    refine e_ild X hW (by decide) rfl dX8_at_19 hf (fun v3 hf => ?_)
    refine lv_goto (tgt := 24) X.1.1 X.1.2.1 dX8_at_20 (by decide) ?_
    exact e_iret X hW hS hf dX8_at_24
-- OvenHouse.swap
def rmX8_swap : Room := { frames := 3, cells := 0, slots := 0, locals := 60 }
set_option maxRecDepth 100000 in
set_option maxHeartbeats 4000000 in
theorem ctfX8_swap {l : Launch} {E : Gv} (hD : Do E) (F : Nat) (x1 : Int32) (x2 : Int32)  (μ : Mem) : CtI l yX8_swap ((Cond.code yX8_swap cX8_swap 3 (some .int)) :: GG) rmX8_swap E [.ref (E.1 0), .int x1, .int x2] μ (fX8_swap F x1 x2 μ) := by
  intro r u hf
  refine of_entry (cc := cX8_swap) (maxL := 3) (ret := (some .int)) (by decide +kernel) rfl hD (Nat.le_of_ble_eq_true rfl) (fun p e s m args below meth c X H locs hW hS ls hl => ?_)
  have hl : lv_has ls 3 [(0, .ref (E.1 0)), (1, .int x1), (2, .int x2)] := hl
  unfold fX8_swap at hf
  refine lv_aload_n X.1.1 X.1.2.1 dX8_swap_0 rfl (lv_at hl 0 rfl) ?_
  refine e_getr X hW (C := RX8) (T := TX8) (N := 11) (j := 1) rfl (by decide) inX8 (by decide) (by decide) rfl (t := 9) rfl rfl mw_2_13 dX8_swap_1 ?_
  refine lv_iload_n X.1.1 X.1.2.1 dX8_swap_4 rfl (lv_at hl 1 rfl) ?_
  refine e_vi (rest := []) (As := [.int x1]) X hl.1 hW hS (C := RX3) (T := TX3) (N := 7) rfl (by decide) (ctfX3_has X.2.2.2.2 F x1 μ) (cwV (rm := rmX3_has) 1 X.1.2.2.2.2 (gd_V mw_2_136 mw_2_137 mw_2_138 mw_1_4 mw_2_139) rfl rfl rfl (by decide +kernel) ⟨Nat.le_of_ble_eq_true rfl, Nat.le_of_ble_eq_true rfl⟩) rfl rfl (Nat.le_of_ble_eq_true rfl) dX8_swap_5 ⟨Nat.zero_le _, Nat.zero_le _⟩ hf (fun r2 m1 H locs hf hW hS => ?_)
  refine lv_if_eq (tgt := 22) X.1.1 X.1.2.1 dX8_swap_8 (by decide) (fun c8 => ?_) (fun c8 => ?_)
  · rw [if_pos c8] at hf
    refine lv_bipush (v := (-2)) X.1.1 X.1.2.1 dX8_swap_22 (by decide) ?_
    exact e_iret X hW hS hf dX8_swap_24
  · rw [if_neg c8] at hf
    refine lv_aload_n X.1.1 X.1.2.1 dX8_swap_11 rfl (lv_at hl 0 rfl) ?_
    refine e_getr X hW (C := RX8) (T := TX8) (N := 11) (j := 1) rfl (by decide) inX8 (by decide) (by decide) rfl (t := 9) rfl rfl mw_2_13 dX8_swap_12 ?_
    refine lv_iload_n X.1.1 X.1.2.1 dX8_swap_15 rfl (lv_at hl 2 rfl) ?_
    refine e_vi (rest := []) (As := [.int x2]) X hl.1 hW hS (C := RX3) (T := TX3) (N := 7) rfl (by decide) (ctfX3_has X.2.2.2.2 F x2 m1) (cwV (rm := rmX3_has) 1 X.1.2.2.2.2 (gd_V mw_2_136 mw_2_137 mw_2_138 mw_1_4 mw_2_139) rfl rfl rfl (by decide +kernel) ⟨Nat.le_of_ble_eq_true rfl, Nat.le_of_ble_eq_true rfl⟩) rfl rfl (Nat.le_of_ble_eq_true rfl) dX8_swap_16 ⟨Nat.zero_le _, Nat.zero_le _⟩ hf (fun r4 m3 H locs hf hW hS => ?_)
    refine lv_if_ne (tgt := 25) X.1.1 X.1.2.1 dX8_swap_19 (by decide) (fun c19 => ?_) (fun c19 => ?_)
    · rw [if_neg c19] at hf
      refine lv_aload_n X.1.1 X.1.2.1 dX8_swap_25 rfl (lv_at hl 0 rfl) ?_
      refine e_getr X hW (C := RX8) (T := TX8) (N := 11) (j := 2) rfl (by decide) inX8 (by decide) (by decide) rfl (t := 16) rfl rfl mw_2_14 dX8_swap_26 ?_
      refine lv_aload_n X.1.1 X.1.2.1 dX8_swap_29 rfl (lv_at hl 0 rfl) ?_
      refine e_getr X hW (C := RX8) (T := TX8) (N := 11) (j := 1) rfl (by decide) inX8 (by decide) (by decide) rfl (t := 9) rfl rfl mw_2_13 dX8_swap_30 ?_
      refine e_vv (rest := []) (As := [.ref (E.1 9)]) X hl.1 hW hS (C := RX2) (T := TX2) (N := 3) rfl (by decide) (ctfX2_keep X.2.2.2.2 F m3) (cwV (rm := rmX2_keep) 1 X.1.2.2.2.2 (gd_V mw_2_112 mw_2_113 mw_2_114 mw_1_5 mw_2_115) rfl rfl rfl (by decide +kernel) ⟨Nat.le_of_ble_eq_true rfl, Nat.le_of_ble_eq_true rfl⟩) rfl rfl (Nat.le_of_ble_eq_true rfl) dX8_swap_33 ⟨Nat.zero_le _, Nat.zero_le _⟩ hf (fun m5 H locs hf hW hS => ?_)
      refine lv_aload_n X.1.1 X.1.2.1 dX8_swap_36 rfl (lv_at hl 0 rfl) ?_
      refine e_getr X hW (C := RX8) (T := TX8) (N := 11) (j := 1) rfl (by decide) inX8 (by decide) (by decide) rfl (t := 9) rfl rfl mw_2_13 dX8_swap_37 ?_
      refine e_getr X hW (C := RX3) (T := TX3) (N := 7) (j := 4) rfl (by decide) inX3 (by decide) (by decide) rfl (t := 14) rfl rfl mw_1_68 dX8_swap_40 ?_
      refine lv_iload_n X.1.1 X.1.2.1 dX8_swap_43 rfl (lv_at hl 1 rfl) ?_
      refine lv_iload_n X.1.1 X.1.2.1 dX8_swap_44 rfl (lv_at hl 2 rfl) ?_
      refine e_sv (rest := []) (As := [.ref (E.1 14), .int x1, .int x2]) X hl.1 hW hS (ctfX8_exchange X.2.2.2.2 F 14 x1 x2 ⟨(by decide), rfl⟩ m5) (cwS (rm := rmX8_exchange) 3 X.1.2.2.2.2 (gd_S mw_2_170 mw_2_171 mw_1_1 mw_2_172) rfl rfl rfl (by decide +kernel) ⟨Nat.le_of_ble_eq_true rfl, Nat.le_of_ble_eq_true rfl⟩) rfl rfl (Nat.le_of_ble_eq_true rfl) dX8_swap_45 ⟨Nat.zero_le _, Nat.zero_le _⟩ hf (fun m6 H locs hf hW hS => ?_)
      refine lv_iconst (v := 1) X.1.1 X.1.2.1 dX8_swap_48 (by decide) ?_
      exact e_iret X hW hS hf dX8_swap_49
    · rw [if_pos c19] at hf
      refine lv_bipush (v := (-2)) X.1.1 X.1.2.1 dX8_swap_22 (by decide) ?_
      exact e_iret X hW hS hf dX8_swap_24
-- OvenHouse.rule
def rmX8_rule : Room := { frames := 3, cells := 0, slots := 0, locals := 64 }
set_option maxRecDepth 100000 in
set_option maxHeartbeats 4000000 in
theorem ctfX8_rule {l : Launch} {E : Gv} (hD : Do E) (F : Nat)  (μ : Mem) : CtI l yX8_rule ((Cond.code yX8_rule cX8_rule 1 (some .int)) :: GG) rmX8_rule E [.ref (E.1 0)] μ (fX8_rule F μ) := by
  intro r u hf
  refine of_entry (cc := cX8_rule) (maxL := 1) (ret := (some .int)) (by decide +kernel) rfl hD (Nat.le_of_ble_eq_true rfl) (fun p e s m args below meth c X H locs hW hS ls hl => ?_)
  have hl : lv_has ls 1 [(0, .ref (E.1 0))] := hl
  unfold fX8_rule at hf
  refine lv_aload_n X.1.1 X.1.2.1 dX8_rule_0 rfl (lv_at hl 0 rfl) ?_
  refine e_getr X hW (C := RX8) (T := TX8) (N := 11) (j := 2) rfl (by decide) inX8 (by decide) (by decide) rfl (t := 16) rfl rfl mw_2_14 dX8_rule_1 ?_
  refine lv_aload_n X.1.1 X.1.2.1 dX8_rule_4 rfl (lv_at hl 0 rfl) ?_
  refine e_getr X hW (C := RX8) (T := TX8) (N := 11) (j := 1) rfl (by decide) inX8 (by decide) (by decide) rfl (t := 9) rfl rfl mw_2_13 dX8_rule_5 ?_
  refine e_vv (rest := []) (As := [.ref (E.1 9)]) X hl.1 hW hS (C := RX2) (T := TX2) (N := 3) rfl (by decide) (ctfX2_keep X.2.2.2.2 F μ) (cwV (rm := rmX2_keep) 1 X.1.2.2.2.2 (gd_V mw_2_112 mw_2_113 mw_2_114 mw_1_5 mw_2_115) rfl rfl rfl (by decide +kernel) ⟨Nat.le_of_ble_eq_true rfl, Nat.le_of_ble_eq_true rfl⟩) rfl rfl (Nat.le_of_ble_eq_true rfl) dX8_rule_8 ⟨Nat.zero_le _, Nat.zero_le _⟩ hf (fun m1 H locs hf hW hS => ?_)
  refine lv_aload_n X.1.1 X.1.2.1 dX8_rule_11 rfl (lv_at hl 0 rfl) ?_
  refine e_getr X hW (C := RX8) (T := TX8) (N := 11) (j := 1) rfl (by decide) inX8 (by decide) (by decide) rfl (t := 9) rfl rfl mw_2_13 dX8_rule_12 ?_
  refine lv_aload_n X.1.1 X.1.2.1 dX8_rule_15 rfl (lv_at hl 0 rfl) ?_
  refine e_getr X hW (C := RX8) (T := TX8) (N := 11) (j := 1) rfl (by decide) inX8 (by decide) (by decide) rfl (t := 9) rfl rfl mw_2_13 dX8_rule_16 ?_
  refine e_getr X hW (C := RX3) (T := TX3) (N := 7) (j := 4) rfl (by decide) inX3 (by decide) (by decide) rfl (t := 14) rfl rfl mw_1_68 dX8_rule_19 ?_
  refine e_vv (rest := []) (As := [.ref (E.1 14)]) X hl.1 hW hS (C := RX3) (T := TX3) (N := 7) rfl (by decide) (ctfX3_byRule X.2.2.2.2 F 14 ⟨(by decide), rfl⟩ m1) (cwV (rm := rmX3_byRule) 1 X.1.2.2.2.2 (gd_V mw_2_177 mw_2_178 mw_2_179 mw_1_4 mw_2_180) rfl rfl rfl (by decide +kernel) ⟨Nat.le_of_ble_eq_true rfl, Nat.le_of_ble_eq_true rfl⟩) rfl rfl (Nat.le_of_ble_eq_true rfl) dX8_rule_22 ⟨Nat.zero_le _, Nat.zero_le _⟩ hf (fun m2 H locs hf hW hS => ?_)
  refine lv_aload_n X.1.1 X.1.2.1 dX8_rule_25 rfl (lv_at hl 0 rfl) ?_
  refine e_getr X hW (C := RX8) (T := TX8) (N := 11) (j := 4) rfl (by decide) inX8 (by decide) (by decide) rfl (t := 55) rfl rfl mw_2_16 dX8_rule_26 ?_
  refine lv_iconst (v := 1) X.1.1 X.1.2.1 dX8_rule_29 (by decide) ?_
  refine lv_iconst (v := 0) X.1.1 X.1.2.1 dX8_rule_30 (by decide) ?_
  refine e_vv (rest := []) (As := [.int 1, .int 0]) X hl.1 hW hS (C := RX1) (T := TX1) (N := 7) rfl (by decide) (ctfX1_follow X.2.2.2.2 F 1 0 m2) (cwV (rm := rmX1_follow) 2 X.1.2.2.2.2 (gd_V mw_2_185 mw_2_186 mw_2_187 mw_1_7 mw_2_188) rfl rfl rfl (by decide +kernel) ⟨Nat.le_of_ble_eq_true rfl, Nat.le_of_ble_eq_true rfl⟩) rfl rfl (Nat.le_of_ble_eq_true rfl) dX8_rule_31 ⟨Nat.zero_le _, Nat.zero_le _⟩ hf (fun m3 H locs hf hW hS => ?_)
  refine lv_aload_n X.1.1 X.1.2.1 dX8_rule_34 rfl (lv_at hl 0 rfl) ?_
  refine e_getr X hW (C := RX8) (T := TX8) (N := 11) (j := 4) rfl (by decide) inX8 (by decide) (by decide) rfl (t := 55) rfl rfl mw_2_16 dX8_rule_35 ?_
  refine lv_aload_n X.1.1 X.1.2.1 dX8_rule_38 rfl (lv_at hl 0 rfl) ?_
  refine e_getr X hW (C := RX8) (T := TX8) (N := 11) (j := 1) rfl (by decide) inX8 (by decide) (by decide) rfl (t := 9) rfl rfl mw_2_13 dX8_rule_39 ?_
  refine lv_aload_n X.1.1 X.1.2.1 dX8_rule_42 rfl (lv_at hl 0 rfl) ?_
  refine e_getr X hW (C := RX8) (T := TX8) (N := 11) (j := 1) rfl (by decide) inX8 (by decide) (by decide) rfl (t := 9) rfl rfl mw_2_13 dX8_rule_43 ?_
  refine e_getr X hW (C := RX3) (T := TX3) (N := 7) (j := 4) rfl (by decide) inX3 (by decide) (by decide) rfl (t := 14) rfl rfl mw_1_68 dX8_rule_46 ?_
  refine lv_iconst (v := 0) X.1.1 X.1.2.1 dX8_rule_49 (by decide) ?_
  refine e_vi (rest := []) (As := [.ref (E.1 9), .ref (E.1 14), .int 0]) X hl.1 hW hS (C := RX1) (T := TX1) (N := 7) rfl (by decide) (ctfX1_endOf X.2.2.2.2 F 14 0 ⟨(by decide), rfl⟩ m3) (cwV (rm := rmX1_endOf) 3 X.1.2.2.2.2 (gd_V mw_2_189 mw_2_190 mw_2_191 mw_1_7 mw_2_192) rfl rfl rfl (by decide +kernel) ⟨Nat.le_of_ble_eq_true rfl, Nat.le_of_ble_eq_true rfl⟩) rfl rfl (Nat.le_of_ble_eq_true rfl) dX8_rule_50 ⟨Nat.zero_le _, Nat.zero_le _⟩ hf (fun r5 m4 H locs hf hW hS => ?_)
  exact e_iret X hW hS hf dX8_rule_53
-- OvenHouse.use
def rmX8_use : Room := { frames := 3, cells := 0, slots := 0, locals := 60 }
set_option maxRecDepth 100000 in
set_option maxHeartbeats 4000000 in
theorem ctfX8_use {l : Launch} {E : Gv} (hD : Do E) (F : Nat)  (μ : Mem) : CtI l yX8_use ((Cond.code yX8_use cX8_use 1 (some .int)) :: GG) rmX8_use E [.ref (E.1 0)] μ (fX8_use F μ) := by
  intro r u hf
  refine of_entry (cc := cX8_use) (maxL := 1) (ret := (some .int)) (by decide +kernel) rfl hD (Nat.le_of_ble_eq_true rfl) (fun p e s m args below meth c X H locs hW hS ls hl => ?_)
  have hl : lv_has ls 1 [(0, .ref (E.1 0))] := hl
  unfold fX8_use at hf
  refine lv_aload_n X.1.1 X.1.2.1 dX8_use_0 rfl (lv_at hl 0 rfl) ?_
  refine e_getr X hW (C := RX8) (T := TX8) (N := 11) (j := 3) rfl (by decide) inX8 (by decide) (by decide) rfl (t := 53) rfl rfl mw_2_15 dX8_use_1 ?_
  refine e_geti X hW (C := RX0) (T := TX0) (N := 3) (j := 2) rfl (by decide) inX0 (by decide) (by decide) rfl rfl mw_1_119 dX8_use_4 ?_
  refine lv_if_ne (tgt := 13) X.1.1 X.1.2.1 dX8_use_7 (by decide) (fun c7 => ?_) (fun c7 => ?_)
  · rw [if_neg c7] at hf
    refine lv_aload_n X.1.1 X.1.2.1 dX8_use_13 rfl (lv_at hl 0 rfl) ?_
    refine e_getr X hW (C := RX8) (T := TX8) (N := 11) (j := 2) rfl (by decide) inX8 (by decide) (by decide) rfl (t := 16) rfl rfl mw_2_14 dX8_use_14 ?_
    refine lv_aload_n X.1.1 X.1.2.1 dX8_use_17 rfl (lv_at hl 0 rfl) ?_
    refine e_getr X hW (C := RX8) (T := TX8) (N := 11) (j := 1) rfl (by decide) inX8 (by decide) (by decide) rfl (t := 9) rfl rfl mw_2_13 dX8_use_18 ?_
    refine e_vv (rest := []) (As := [.ref (E.1 9)]) X hl.1 hW hS (C := RX2) (T := TX2) (N := 3) rfl (by decide) (ctfX2_keep X.2.2.2.2 F μ) (cwV (rm := rmX2_keep) 1 X.1.2.2.2.2 (gd_V mw_2_112 mw_2_113 mw_2_114 mw_1_5 mw_2_115) rfl rfl rfl (by decide +kernel) ⟨Nat.le_of_ble_eq_true rfl, Nat.le_of_ble_eq_true rfl⟩) rfl rfl (Nat.le_of_ble_eq_true rfl) dX8_use_21 ⟨Nat.zero_le _, Nat.zero_le _⟩ hf (fun m1 H locs hf hW hS => ?_)
    refine lv_aload_n X.1.1 X.1.2.1 dX8_use_24 rfl (lv_at hl 0 rfl) ?_
    refine e_getr X hW (C := RX8) (T := TX8) (N := 11) (j := 3) rfl (by decide) inX8 (by decide) (by decide) rfl (t := 53) rfl rfl mw_2_15 dX8_use_25 ?_
    refine e_getr X hW (C := RX0) (T := TX0) (N := 3) (j := 0) rfl (by decide) inX0 (by decide) (by decide) rfl (t := 54) rfl rfl mw_1_115 dX8_use_28 ?_
    refine lv_iconst (v := 0) X.1.1 X.1.2.1 dX8_use_31 (by decide) ?_
    refine lv_aload_n X.1.1 X.1.2.1 dX8_use_32 rfl (lv_at hl 0 rfl) ?_
    refine e_getr X hW (C := RX8) (T := TX8) (N := 11) (j := 1) rfl (by decide) inX8 (by decide) (by decide) rfl (t := 9) rfl rfl mw_2_13 dX8_use_33 ?_
    refine e_getr X hW (C := RX3) (T := TX3) (N := 7) (j := 4) rfl (by decide) inX3 (by decide) (by decide) rfl (t := 14) rfl rfl mw_1_68 dX8_use_36 ?_
    refine lv_iconst (v := 0) X.1.1 X.1.2.1 dX8_use_39 (by decide) ?_
    refine lv_aload_n X.1.1 X.1.2.1 dX8_use_40 rfl (lv_at hl 0 rfl) ?_
    refine e_getr X hW (C := RX8) (T := TX8) (N := 11) (j := 3) rfl (by decide) inX8 (by decide) (by decide) rfl (t := 53) rfl rfl mw_2_15 dX8_use_41 ?_
    refine e_geti X hW (C := RX0) (T := TX0) (N := 3) (j := 1) rfl (by decide) inX0 (by decide) (by decide) rfl rfl mw_1_117 dX8_use_44 ?_
    refine e_cpy X hl.1 hW hS mw_2_98 mw_2_100 mw_2_99 mw_1_12 (by decide) (by decide) rfl rfl ⟨Nat.le_of_ble_eq_true rfl, Nat.le_of_ble_eq_true rfl⟩ dX8_use_47 hf (fun m2 H locs hf hW hS => ?_)
    refine lv_iconst (v := 1) X.1.1 X.1.2.1 dX8_use_50 (by decide) ?_
    exact e_iret X hW hS hf dX8_use_51
  · rw [if_pos c7] at hf
    refine lv_bipush (v := (-5)) X.1.1 X.1.2.1 dX8_use_10 (by decide) ?_
    exact e_iret X hW hS hf dX8_use_12
-- OvenHouse.turn
def rmX8_turn : Room := { frames := 3, cells := 0, slots := 0, locals := 60 }
set_option maxRecDepth 100000 in
set_option maxHeartbeats 4000000 in
theorem ctfX8_turn {l : Launch} {E : Gv} (hD : Do E) (F : Nat)  (μ : Mem) : CtI l yX8_turn ((Cond.code yX8_turn cX8_turn 1 (some .int)) :: GG) rmX8_turn E [.ref (E.1 0)] μ (fX8_turn F μ) := by
  intro r u hf
  refine of_entry (cc := cX8_turn) (maxL := 1) (ret := (some .int)) (by decide +kernel) rfl hD (Nat.le_of_ble_eq_true rfl) (fun p e s m args below meth c X H locs hW hS ls hl => ?_)
  have hl : lv_has ls 1 [(0, .ref (E.1 0))] := hl
  unfold fX8_turn at hf
  refine lv_aload_n X.1.1 X.1.2.1 dX8_turn_0 rfl (lv_at hl 0 rfl) ?_
  refine e_getr X hW (C := RX8) (T := TX8) (N := 11) (j := 2) rfl (by decide) inX8 (by decide) (by decide) rfl (t := 16) rfl rfl mw_2_14 dX8_turn_1 ?_
  refine lv_aload_n X.1.1 X.1.2.1 dX8_turn_4 rfl (lv_at hl 0 rfl) ?_
  refine e_getr X hW (C := RX8) (T := TX8) (N := 11) (j := 1) rfl (by decide) inX8 (by decide) (by decide) rfl (t := 9) rfl rfl mw_2_13 dX8_turn_5 ?_
  refine e_vv (rest := []) (As := [.ref (E.1 9)]) X hl.1 hW hS (C := RX2) (T := TX2) (N := 3) rfl (by decide) (ctfX2_keep X.2.2.2.2 F μ) (cwV (rm := rmX2_keep) 1 X.1.2.2.2.2 (gd_V mw_2_112 mw_2_113 mw_2_114 mw_1_5 mw_2_115) rfl rfl rfl (by decide +kernel) ⟨Nat.le_of_ble_eq_true rfl, Nat.le_of_ble_eq_true rfl⟩) rfl rfl (Nat.le_of_ble_eq_true rfl) dX8_turn_8 ⟨Nat.zero_le _, Nat.zero_le _⟩ hf (fun m1 H locs hf hW hS => ?_)
  refine lv_aload_n X.1.1 X.1.2.1 dX8_turn_11 rfl (lv_at hl 0 rfl) ?_
  refine e_getr X hW (C := RX8) (T := TX8) (N := 11) (j := 1) rfl (by decide) inX8 (by decide) (by decide) rfl (t := 9) rfl rfl mw_2_13 dX8_turn_12 ?_
  refine e_vv (rest := []) (As := []) X hl.1 hW hS (C := RX3) (T := TX3) (N := 7) rfl (by decide) (ctfX3_turnAbout X.2.2.2.2 F m1) (cwV (rm := rmX3_turnAbout) 0 X.1.2.2.2.2 (gd_V mw_2_208 mw_2_209 mw_2_210 mw_1_4 mw_2_211) rfl rfl rfl (by decide +kernel) ⟨Nat.le_of_ble_eq_true rfl, Nat.le_of_ble_eq_true rfl⟩) rfl rfl (Nat.le_of_ble_eq_true rfl) dX8_turn_15 ⟨Nat.zero_le _, Nat.zero_le _⟩ hf (fun m2 H locs hf hW hS => ?_)
  refine lv_aload_n X.1.1 X.1.2.1 dX8_turn_18 rfl (lv_at hl 0 rfl) ?_
  refine e_getr X hW (C := RX8) (T := TX8) (N := 11) (j := 3) rfl (by decide) inX8 (by decide) (by decide) rfl (t := 53) rfl rfl mw_2_15 dX8_turn_19 ?_
  refine lv_iconst (v := 0) X.1.1 X.1.2.1 dX8_turn_22 (by decide) ?_
  refine e_put X hW hS (C := RX0) (T := TX0) (N := 3) (j := 2) (tyF := tyX0) rfl (by decide) inX0 tyX0_ok nmX0 (by decide) (by decide) rfl rfl mw_1_119 rfl rfl rfl dX8_turn_23 hf (fun m3 H locs hf hW hS => ?_)
  refine lv_iconst (v := 1) X.1.1 X.1.2.1 dX8_turn_26 (by decide) ?_
  exact e_iret X hW hS hf dX8_turn_27
-- OvenHouse.undo
def rmX8_undo : Room := { frames := 3, cells := 0, slots := 0, locals := 60 }
set_option maxRecDepth 100000 in
set_option maxHeartbeats 4000000 in
theorem ctfX8_undo {l : Launch} {E : Gv} (hD : Do E) (F : Nat)  (μ : Mem) : CtI l yX8_undo ((Cond.code yX8_undo cX8_undo 1 (some .int)) :: GG) rmX8_undo E [.ref (E.1 0)] μ (fX8_undo F μ) := by
  intro r u hf
  refine of_entry (cc := cX8_undo) (maxL := 1) (ret := (some .int)) (by decide +kernel) rfl hD (Nat.le_of_ble_eq_true rfl) (fun p e s m args below meth c X H locs hW hS ls hl => ?_)
  have hl : lv_has ls 1 [(0, .ref (E.1 0))] := hl
  unfold fX8_undo at hf
  refine lv_aload_n X.1.1 X.1.2.1 dX8_undo_0 rfl (lv_at hl 0 rfl) ?_
  refine e_getr X hW (C := RX8) (T := TX8) (N := 11) (j := 2) rfl (by decide) inX8 (by decide) (by decide) rfl (t := 16) rfl rfl mw_2_14 dX8_undo_1 ?_
  refine e_geti X hW (C := RX2) (T := TX2) (N := 3) (j := 2) rfl (by decide) inX2 (by decide) (by decide) rfl rfl mw_1_100 dX8_undo_4 ?_
  refine lv_if_ne (tgt := 13) X.1.1 X.1.2.1 dX8_undo_7 (by decide) (fun c7 => ?_) (fun c7 => ?_)
  · rw [if_neg c7] at hf
    refine lv_aload_n X.1.1 X.1.2.1 dX8_undo_13 rfl (lv_at hl 0 rfl) ?_
    refine e_getr X hW (C := RX8) (T := TX8) (N := 11) (j := 2) rfl (by decide) inX8 (by decide) (by decide) rfl (t := 16) rfl rfl mw_2_14 dX8_undo_14 ?_
    refine lv_aload_n X.1.1 X.1.2.1 dX8_undo_17 rfl (lv_at hl 0 rfl) ?_
    refine e_getr X hW (C := RX8) (T := TX8) (N := 11) (j := 1) rfl (by decide) inX8 (by decide) (by decide) rfl (t := 9) rfl rfl mw_2_13 dX8_undo_18 ?_
    refine e_vv (rest := []) (As := [.ref (E.1 9)]) X hl.1 hW hS (C := RX2) (T := TX2) (N := 3) rfl (by decide) (ctfX2_giveBack X.2.2.2.2 F μ) (cwV (rm := rmX2_giveBack) 1 X.1.2.2.2.2 (gd_V mw_2_217 mw_2_218 mw_2_219 mw_1_5 mw_2_220) rfl rfl rfl (by decide +kernel) ⟨Nat.le_of_ble_eq_true rfl, Nat.le_of_ble_eq_true rfl⟩) rfl rfl (Nat.le_of_ble_eq_true rfl) dX8_undo_21 ⟨Nat.zero_le _, Nat.zero_le _⟩ hf (fun m1 H locs hf hW hS => ?_)
    refine lv_aload_n X.1.1 X.1.2.1 dX8_undo_24 rfl (lv_at hl 0 rfl) ?_
    refine e_getr X hW (C := RX8) (T := TX8) (N := 11) (j := 3) rfl (by decide) inX8 (by decide) (by decide) rfl (t := 53) rfl rfl mw_2_15 dX8_undo_25 ?_
    refine lv_iconst (v := 0) X.1.1 X.1.2.1 dX8_undo_28 (by decide) ?_
    refine e_put X hW hS (C := RX0) (T := TX0) (N := 3) (j := 2) (tyF := tyX0) rfl (by decide) inX0 tyX0_ok nmX0 (by decide) (by decide) rfl rfl mw_1_119 rfl rfl rfl dX8_undo_29 hf (fun m2 H locs hf hW hS => ?_)
    refine lv_aload_n X.1.1 X.1.2.1 dX8_undo_32 rfl (lv_at hl 0 rfl) ?_
    refine e_getr X hW (C := RX8) (T := TX8) (N := 11) (j := 2) rfl (by decide) inX8 (by decide) (by decide) rfl (t := 16) rfl rfl mw_2_14 dX8_undo_33 ?_
    refine e_geti X hW (C := RX2) (T := TX2) (N := 3) (j := 2) rfl (by decide) inX2 (by decide) (by decide) rfl rfl mw_1_100 dX8_undo_36 ?_
    exact e_iret X hW hS hf dX8_undo_39
  · rw [if_pos c7] at hf
    refine lv_bipush (v := (-5)) X.1.1 X.1.2.1 dX8_undo_10 (by decide) ?_
    exact e_iret X hW hS hf dX8_undo_12
-- OvenHouse.isLaw
def rmX8_isLaw : Room := { frames := 0, cells := 0, slots := 0, locals := 0 }
set_option maxRecDepth 100000 in
set_option maxHeartbeats 4000000 in
theorem wfX8_isLaw_30 {p : Program} {l : Launch} {e : Env} {s : State} {m : MethodId} {args : Array Value} {below : List Frame} {meth : Method} {c : Code} {E : Gv} {F : Nat}  {r : Int32} {u : Mem} (X : Fx p m c cX8_isLaw 2 s args (Cond.code yX8_isLaw cX8_isLaw 2 (some .boolean)) "OvenHouse" meth (some .boolean) E)  (y1 : Int32) (μ : Mem) (H : Heap) (locs : List Loc) (ls : Array Slot) (hf : fX8_isLaw_30 F   y1 μ = some (r, u)) (hW : Wo E μ H) (hS : va_S (AE E) s.heap H locs) (hl : lv_has ls 2 [(1, .int y1)]) : W0 p l e rmX8_isLaw s m args below meth c H locs (QcI E r u) E (F0 m 30 ls []) := by
  unfold fX8_isLaw_30 at hf
  refine lv_iload_n X.1.1 X.1.2.1 dX8_isLaw_30 rfl (lv_at hl 0 rfl) ?_
  refine lv_if_ne (tgt := 38) X.1.1 X.1.2.1 dX8_isLaw_31 (by decide) (fun c31 => ?_) (fun c31 => ?_)
  · rw [if_neg c31] at hf
    refine lv_iconst (v := 0) X.1.1 X.1.2.1 dX8_isLaw_38 (by decide) ?_
    exact e_zret X hW hS hf dX8_isLaw_39
  · rw [if_pos c31] at hf
    refine lv_iconst (v := 1) X.1.1 X.1.2.1 dX8_isLaw_34 (by decide) ?_
    refine lv_goto (tgt := 39) X.1.1 X.1.2.1 dX8_isLaw_35 (by decide) ?_
    exact e_zret X hW hS hf dX8_isLaw_39
set_option maxRecDepth 100000 in
set_option maxHeartbeats 4000000 in
theorem ctfX8_isLaw {l : Launch} {E : Gv} (hD : Do E) (F : Nat) (x0 : Int32) (x1 : Int32)  (μ : Mem) : CtI l yX8_isLaw ((Cond.code yX8_isLaw cX8_isLaw 2 (some .boolean)) :: GG) rmX8_isLaw E [.int x0, .int x1] μ (fX8_isLaw F x0 x1 μ) := by
  intro r u hf
  refine of_entry (cc := cX8_isLaw) (maxL := 2) (ret := (some .boolean)) (by decide +kernel) rfl hD (Nat.le_of_ble_eq_true rfl) (fun p e s m args below meth c X H locs hW hS ls hl => ?_)
  have hl : lv_has ls 2 [(0, .int x0), (1, .int x1)] := hl
  unfold fX8_isLaw at hf
  refine lv_iload_n X.1.1 X.1.2.1 dX8_isLaw_0 rfl (lv_at hl 0 rfl) ?_
  refine lv_iconst (v := 2) X.1.1 X.1.2.1 dX8_isLaw_1 (by decide) ?_
  refine lv_icmp_ne (tgt := 21) X.1.1 X.1.2.1 dX8_isLaw_2 (by decide) (fun c2 => ?_) (fun c2 => ?_)
  · rw [if_neg c2] at hf
    refine lv_iload_n X.1.1 X.1.2.1 dX8_isLaw_21 rfl (lv_at hl 0 rfl) ?_
    refine lv_if_eq (tgt := 30) X.1.1 X.1.2.1 dX8_isLaw_22 (by decide) (fun c22 => ?_) (fun c22 => ?_)
    · rw [if_pos c22] at hf
      exact wfX8_isLaw_30 X  x1 μ H locs ls hf hW hS (lv_sub hl [1] rfl)
    · rw [if_neg c22] at hf
      refine lv_iload_n X.1.1 X.1.2.1 dX8_isLaw_25 rfl (lv_at hl 0 rfl) ?_
      refine lv_iconst (v := 1) X.1.1 X.1.2.1 dX8_isLaw_26 (by decide) ?_
      refine lv_icmp_ne (tgt := 38) X.1.1 X.1.2.1 dX8_isLaw_27 (by decide) (fun c27 => ?_) (fun c27 => ?_)
      · rw [if_neg c27] at hf
        refine lv_iconst (v := 0) X.1.1 X.1.2.1 dX8_isLaw_38 (by decide) ?_
        exact e_zret X hW hS hf dX8_isLaw_39
      · rw [if_pos c27] at hf
        exact wfX8_isLaw_30 X  x1 μ H locs ls hf hW hS (lv_sub hl [1] rfl)
  · rw [if_pos c2] at hf
    refine lv_iload_n X.1.1 X.1.2.1 dX8_isLaw_5 rfl (lv_at hl 1 rfl) ?_
    refine lv_iconst (v := 1) X.1.1 X.1.2.1 dX8_isLaw_6 (by decide) ?_
    refine lv_icmp_lt (tgt := 19) X.1.1 X.1.2.1 dX8_isLaw_7 (by decide) (fun c7 => ?_) (fun c7 => ?_)
    · rw [if_pos c7] at hf
      refine lv_iconst (v := 0) X.1.1 X.1.2.1 dX8_isLaw_19 (by decide) ?_
      exact e_zret X hW hS hf dX8_isLaw_20
    · rw [if_neg c7] at hf
      refine lv_iload_n X.1.1 X.1.2.1 dX8_isLaw_10 rfl (lv_at hl 1 rfl) ?_
      refine lv_iconst (v := 5) X.1.1 X.1.2.1 dX8_isLaw_11 (by decide) ?_
      refine lv_icmp_gt (tgt := 19) X.1.1 X.1.2.1 dX8_isLaw_12 (by decide) (fun c12 => ?_) (fun c12 => ?_)
      · rw [if_pos c12] at hf
        refine lv_iconst (v := 0) X.1.1 X.1.2.1 dX8_isLaw_19 (by decide) ?_
        exact e_zret X hW hS hf dX8_isLaw_20
      · rw [if_neg c12] at hf
        refine lv_iconst (v := 1) X.1.1 X.1.2.1 dX8_isLaw_15 (by decide) ?_
        refine lv_goto (tgt := 20) X.1.1 X.1.2.1 dX8_isLaw_16 (by decide) ?_
        exact e_zret X hW hS hf dX8_isLaw_20
-- OvenHouse.day
def rmX8_day : Room := { frames := 3, cells := 0, slots := 0, locals := 64 }
set_option maxRecDepth 100000 in
set_option maxHeartbeats 4000000 in
theorem ctfX8_day {l : Launch} {E : Gv} (hD : Do E) (F : Nat) (x1 : Int32) (x2 : Int32)  (μ : Mem) : CtI l yX8_day ((Cond.code yX8_day cX8_day 3 (some .int)) :: GG) rmX8_day E [.ref (E.1 0), .int x1, .int x2] μ (fX8_day F x1 x2 μ) := by
  intro r u hf
  refine of_entry (cc := cX8_day) (maxL := 3) (ret := (some .int)) (by decide +kernel) rfl hD (Nat.le_of_ble_eq_true rfl) (fun p e s m args below meth c X H locs hW hS ls hl => ?_)
  have hl : lv_has ls 3 [(0, .ref (E.1 0)), (1, .int x1), (2, .int x2)] := hl
  unfold fX8_day at hf
  refine lv_iload_n X.1.1 X.1.2.1 dX8_day_0 rfl (lv_at hl 1 rfl) ?_
  refine lv_iload_n X.1.1 X.1.2.1 dX8_day_1 rfl (lv_at hl 2 rfl) ?_
  refine e_si (rest := []) (As := [.int x1, .int x2]) X hl.1 hW hS (ctfX8_isLaw X.2.2.2.2 F x1 x2 μ) (cwS (rm := rmX8_isLaw) 2 X.1.2.2.2.2 (gd_S mw_2_225 mw_2_226 mw_1_1 mw_2_227) rfl rfl rfl (by decide +kernel) ⟨Nat.le_of_ble_eq_true rfl, Nat.le_of_ble_eq_true rfl⟩) rfl rfl (Nat.le_of_ble_eq_true rfl) dX8_day_2 ⟨Nat.zero_le _, Nat.zero_le _⟩ hf (fun r2 m1 H locs hf hW hS => ?_)
  refine lv_if_ne (tgt := 11) X.1.1 X.1.2.1 dX8_day_5 (by decide) (fun c5 => ?_) (fun c5 => ?_)
  · rw [if_neg c5] at hf
    refine lv_aload_n X.1.1 X.1.2.1 dX8_day_11 rfl (lv_at hl 0 rfl) ?_
    refine e_getr X hW (C := RX8) (T := TX8) (N := 11) (j := 4) rfl (by decide) inX8 (by decide) (by decide) rfl (t := 55) rfl rfl mw_2_16 dX8_day_12 ?_
    refine lv_iload_n X.1.1 X.1.2.1 dX8_day_15 rfl (lv_at hl 1 rfl) ?_
    refine lv_iload_n X.1.1 X.1.2.1 dX8_day_16 rfl (lv_at hl 2 rfl) ?_
    refine e_vv (rest := []) (As := [.int x1, .int x2]) X hl.1 hW hS (C := RX1) (T := TX1) (N := 7) rfl (by decide) (ctfX1_follow X.2.2.2.2 F x1 x2 m1) (cwV (rm := rmX1_follow) 2 X.1.2.2.2.2 (gd_V mw_2_185 mw_2_186 mw_2_187 mw_1_7 mw_2_188) rfl rfl rfl (by decide +kernel) ⟨Nat.le_of_ble_eq_true rfl, Nat.le_of_ble_eq_true rfl⟩) rfl rfl (Nat.le_of_ble_eq_true rfl) dX8_day_17 ⟨Nat.zero_le _, Nat.zero_le _⟩ hf (fun m3 H locs hf hW hS => ?_)
    refine lv_aload_n X.1.1 X.1.2.1 dX8_day_20 rfl (lv_at hl 0 rfl) ?_
    refine e_getr X hW (C := RX8) (T := TX8) (N := 11) (j := 4) rfl (by decide) inX8 (by decide) (by decide) rfl (t := 55) rfl rfl mw_2_16 dX8_day_21 ?_
    refine lv_aload_n X.1.1 X.1.2.1 dX8_day_24 rfl (lv_at hl 0 rfl) ?_
    refine e_getr X hW (C := RX8) (T := TX8) (N := 11) (j := 1) rfl (by decide) inX8 (by decide) (by decide) rfl (t := 9) rfl rfl mw_2_13 dX8_day_25 ?_
    refine lv_aload_n X.1.1 X.1.2.1 dX8_day_28 rfl (lv_at hl 0 rfl) ?_
    refine e_getr X hW (C := RX8) (T := TX8) (N := 11) (j := 1) rfl (by decide) inX8 (by decide) (by decide) rfl (t := 9) rfl rfl mw_2_13 dX8_day_29 ?_
    refine e_getr X hW (C := RX3) (T := TX3) (N := 7) (j := 4) rfl (by decide) inX3 (by decide) (by decide) rfl (t := 14) rfl rfl mw_1_68 dX8_day_32 ?_
    refine lv_iconst (v := 0) X.1.1 X.1.2.1 dX8_day_35 (by decide) ?_
    refine e_vi (rest := []) (As := [.ref (E.1 9), .ref (E.1 14), .int 0]) X hl.1 hW hS (C := RX1) (T := TX1) (N := 7) rfl (by decide) (ctfX1_endOf X.2.2.2.2 F 14 0 ⟨(by decide), rfl⟩ m3) (cwV (rm := rmX1_endOf) 3 X.1.2.2.2.2 (gd_V mw_2_189 mw_2_190 mw_2_191 mw_1_7 mw_2_192) rfl rfl rfl (by decide +kernel) ⟨Nat.le_of_ble_eq_true rfl, Nat.le_of_ble_eq_true rfl⟩) rfl rfl (Nat.le_of_ble_eq_true rfl) dX8_day_36 ⟨Nat.zero_le _, Nat.zero_le _⟩ hf (fun r5 m4 H locs hf hW hS => ?_)
    exact e_iret X hW hS hf dX8_day_39
  · rw [if_pos c5] at hf
    refine lv_bipush (v := (-2)) X.1.1 X.1.2.1 dX8_day_8 (by decide) ?_
    exact e_iret X hW hS hf dX8_day_10
-- OvenHouse.moment
def rmX8_moment : Room := { frames := 3, cells := 0, slots := 0, locals := 64 }
set_option maxRecDepth 100000 in
set_option maxHeartbeats 4000000 in
theorem ctfX8_moment {l : Launch} {E : Gv} (hD : Do E) (F : Nat) (x1 : Int32) (x2 : Int32) (x3 : Int32) (x4 : Int32)  (μ : Mem) : CtI l yX8_moment ((Cond.code yX8_moment cX8_moment 5 (some .int)) :: GG) rmX8_moment E [.ref (E.1 0), .int x1, .int x2, .int x3, .int x4] μ (fX8_moment F x1 x2 x3 x4 μ) := by
  intro r u hf
  refine of_entry (cc := cX8_moment) (maxL := 5) (ret := (some .int)) (by decide +kernel) rfl hD (Nat.le_of_ble_eq_true rfl) (fun p e s m args below meth c X H locs hW hS ls hl => ?_)
  have hl : lv_has ls 5 [(0, .ref (E.1 0)), (1, .int x1), (2, .int x2), (3, .int x3), (4, .int x4)] := hl
  unfold fX8_moment at hf
  refine lv_iload_n X.1.1 X.1.2.1 dX8_moment_0 rfl (lv_at hl 1 rfl) ?_
  refine lv_iload_n X.1.1 X.1.2.1 dX8_moment_1 rfl (lv_at hl 2 rfl) ?_
  refine e_si (rest := []) (As := [.int x1, .int x2]) X hl.1 hW hS (ctfX8_isLaw X.2.2.2.2 F x1 x2 μ) (cwS (rm := rmX8_isLaw) 2 X.1.2.2.2.2 (gd_S mw_2_225 mw_2_226 mw_1_1 mw_2_227) rfl rfl rfl (by decide +kernel) ⟨Nat.le_of_ble_eq_true rfl, Nat.le_of_ble_eq_true rfl⟩) rfl rfl (Nat.le_of_ble_eq_true rfl) dX8_moment_2 ⟨Nat.zero_le _, Nat.zero_le _⟩ hf (fun r2 m1 H locs hf hW hS => ?_)
  refine lv_if_eq (tgt := 19) X.1.1 X.1.2.1 dX8_moment_5 (by decide) (fun c5 => ?_) (fun c5 => ?_)
  · rw [if_pos c5] at hf
    refine lv_bipush (v := (-2)) X.1.1 X.1.2.1 dX8_moment_19 (by decide) ?_
    exact e_iret X hW hS hf dX8_moment_21
  · rw [if_neg c5] at hf
    refine lv_aload_n X.1.1 X.1.2.1 dX8_moment_8 rfl (lv_at hl 0 rfl) ?_
    refine e_getr X hW (C := RX8) (T := TX8) (N := 11) (j := 1) rfl (by decide) inX8 (by decide) (by decide) rfl (t := 9) rfl rfl mw_2_13 dX8_moment_9 ?_
    refine lv_iload_n X.1.1 X.1.2.1 dX8_moment_12 rfl (lv_at hl 3 rfl) ?_
    refine e_vi (rest := []) (As := [.int x3]) X hl.1 hW hS (C := RX3) (T := TX3) (N := 7) rfl (by decide) (ctfX3_has X.2.2.2.2 F x3 m1) (cwV (rm := rmX3_has) 1 X.1.2.2.2.2 (gd_V mw_2_136 mw_2_137 mw_2_138 mw_1_4 mw_2_139) rfl rfl rfl (by decide +kernel) ⟨Nat.le_of_ble_eq_true rfl, Nat.le_of_ble_eq_true rfl⟩) rfl rfl (Nat.le_of_ble_eq_true rfl) dX8_moment_13 ⟨Nat.zero_le _, Nat.zero_le _⟩ hf (fun r4 m3 H locs hf hW hS => ?_)
    refine lv_if_ne (tgt := 22) X.1.1 X.1.2.1 dX8_moment_16 (by decide) (fun c16 => ?_) (fun c16 => ?_)
    · rw [if_neg c16] at hf
      refine lv_aload_n X.1.1 X.1.2.1 dX8_moment_22 rfl (lv_at hl 0 rfl) ?_
      refine e_getr X hW (C := RX8) (T := TX8) (N := 11) (j := 4) rfl (by decide) inX8 (by decide) (by decide) rfl (t := 55) rfl rfl mw_2_16 dX8_moment_23 ?_
      refine lv_iload_n X.1.1 X.1.2.1 dX8_moment_26 rfl (lv_at hl 1 rfl) ?_
      refine lv_iload_n X.1.1 X.1.2.1 dX8_moment_27 rfl (lv_at hl 2 rfl) ?_
      refine e_vv (rest := []) (As := [.int x1, .int x2]) X hl.1 hW hS (C := RX1) (T := TX1) (N := 7) rfl (by decide) (ctfX1_follow X.2.2.2.2 F x1 x2 m3) (cwV (rm := rmX1_follow) 2 X.1.2.2.2.2 (gd_V mw_2_185 mw_2_186 mw_2_187 mw_1_7 mw_2_188) rfl rfl rfl (by decide +kernel) ⟨Nat.le_of_ble_eq_true rfl, Nat.le_of_ble_eq_true rfl⟩) rfl rfl (Nat.le_of_ble_eq_true rfl) dX8_moment_28 ⟨Nat.zero_le _, Nat.zero_le _⟩ hf (fun m5 H locs hf hW hS => ?_)
      refine lv_aload_n X.1.1 X.1.2.1 dX8_moment_31 rfl (lv_at hl 0 rfl) ?_
      refine e_getr X hW (C := RX8) (T := TX8) (N := 11) (j := 4) rfl (by decide) inX8 (by decide) (by decide) rfl (t := 55) rfl rfl mw_2_16 dX8_moment_32 ?_
      refine lv_aload_n X.1.1 X.1.2.1 dX8_moment_35 rfl (lv_at hl 0 rfl) ?_
      refine e_getr X hW (C := RX8) (T := TX8) (N := 11) (j := 1) rfl (by decide) inX8 (by decide) (by decide) rfl (t := 9) rfl rfl mw_2_13 dX8_moment_36 ?_
      refine lv_aload_n X.1.1 X.1.2.1 dX8_moment_39 rfl (lv_at hl 0 rfl) ?_
      refine e_getr X hW (C := RX8) (T := TX8) (N := 11) (j := 1) rfl (by decide) inX8 (by decide) (by decide) rfl (t := 9) rfl rfl mw_2_13 dX8_moment_40 ?_
      refine e_getr X hW (C := RX3) (T := TX3) (N := 7) (j := 4) rfl (by decide) inX3 (by decide) (by decide) rfl (t := 14) rfl rfl mw_1_68 dX8_moment_43 ?_
      refine lv_iconst (v := 0) X.1.1 X.1.2.1 dX8_moment_46 (by decide) ?_
      refine e_vi (rest := []) (As := [.ref (E.1 9), .ref (E.1 14), .int 0]) X hl.1 hW hS (C := RX1) (T := TX1) (N := 7) rfl (by decide) (ctfX1_endOf X.2.2.2.2 F 14 0 ⟨(by decide), rfl⟩ m5) (cwV (rm := rmX1_endOf) 3 X.1.2.2.2.2 (gd_V mw_2_189 mw_2_190 mw_2_191 mw_1_7 mw_2_192) rfl rfl rfl (by decide +kernel) ⟨Nat.le_of_ble_eq_true rfl, Nat.le_of_ble_eq_true rfl⟩) rfl rfl (Nat.le_of_ble_eq_true rfl) dX8_moment_47 ⟨Nat.zero_le _, Nat.zero_le _⟩ hf (fun r7 m6 H locs hf hW hS => ?_)
      refine lv_pop X.1.1 X.1.2.1 dX8_moment_50 rfl ?_
      refine lv_iload X.1.1 X.1.2.1 dX8_moment_51 (lv_at hl 4 rfl) ?_
      by_cases c53_0 : x4 = 0
      · rw [if_pos c53_0] at hf
        refine lv_tableIn (off := 31) (tgt := 84) X.1.1 X.1.2.1 dX8_moment_53 (by rw [c53_0]; decide) (by rw [c53_0]; decide) (by rw [c53_0]; rfl) (by decide) ?_
        refine lv_aload_n X.1.1 X.1.2.1 dX8_moment_84 rfl (lv_at hl 0 rfl) ?_
        refine e_getr X hW (C := RX8) (T := TX8) (N := 11) (j := 4) rfl (by decide) inX8 (by decide) (by decide) rfl (t := 55) rfl rfl mw_2_16 dX8_moment_85 ?_
        refine e_getr X hW (C := RX1) (T := TX1) (N := 7) (j := 0) rfl (by decide) inX1 (by decide) (by decide) rfl (t := 56) rfl rfl mw_1_134 dX8_moment_88 ?_
        refine lv_iload_n X.1.1 X.1.2.1 dX8_moment_91 rfl (lv_at hl 3 rfl) ?_
        refine e_ild X hW (by decide) rfl dX8_moment_92 hf (fun v8 hf => ?_)
        exact e_iret X hW hS hf dX8_moment_93
      · rw [if_neg c53_0] at hf
        by_cases c53_1 : x4 = 1
        · rw [if_pos c53_1] at hf
          refine lv_tableIn (off := 41) (tgt := 94) X.1.1 X.1.2.1 dX8_moment_53 (by rw [c53_1]; decide) (by rw [c53_1]; decide) (by rw [c53_1]; rfl) (by decide) ?_
          refine lv_aload_n X.1.1 X.1.2.1 dX8_moment_94 rfl (lv_at hl 0 rfl) ?_
          refine e_getr X hW (C := RX8) (T := TX8) (N := 11) (j := 4) rfl (by decide) inX8 (by decide) (by decide) rfl (t := 55) rfl rfl mw_2_16 dX8_moment_95 ?_
          refine e_getr X hW (C := RX1) (T := TX1) (N := 7) (j := 1) rfl (by decide) inX1 (by decide) (by decide) rfl (t := 57) rfl rfl mw_1_136 dX8_moment_98 ?_
          refine lv_iload_n X.1.1 X.1.2.1 dX8_moment_101 rfl (lv_at hl 3 rfl) ?_
          refine e_ild X hW (by decide) rfl dX8_moment_102 hf (fun v9 hf => ?_)
          exact e_iret X hW hS hf dX8_moment_103
        · rw [if_neg c53_1] at hf
          by_cases c53_2 : x4 = 2
          · rw [if_pos c53_2] at hf
            refine lv_tableIn (off := 51) (tgt := 104) X.1.1 X.1.2.1 dX8_moment_53 (by rw [c53_2]; decide) (by rw [c53_2]; decide) (by rw [c53_2]; rfl) (by decide) ?_
            refine lv_aload_n X.1.1 X.1.2.1 dX8_moment_104 rfl (lv_at hl 0 rfl) ?_
            refine e_getr X hW (C := RX8) (T := TX8) (N := 11) (j := 4) rfl (by decide) inX8 (by decide) (by decide) rfl (t := 55) rfl rfl mw_2_16 dX8_moment_105 ?_
            refine e_getr X hW (C := RX1) (T := TX1) (N := 7) (j := 2) rfl (by decide) inX1 (by decide) (by decide) rfl (t := 58) rfl rfl mw_1_138 dX8_moment_108 ?_
            refine lv_iload_n X.1.1 X.1.2.1 dX8_moment_111 rfl (lv_at hl 3 rfl) ?_
            refine e_ild X hW (by decide) rfl dX8_moment_112 hf (fun v10 hf => ?_)
            exact e_iret X hW hS hf dX8_moment_113
          · rw [if_neg c53_2] at hf
            by_cases c53_3 : x4 = 3
            · rw [if_pos c53_3] at hf
              refine lv_tableIn (off := 61) (tgt := 114) X.1.1 X.1.2.1 dX8_moment_53 (by rw [c53_3]; decide) (by rw [c53_3]; decide) (by rw [c53_3]; rfl) (by decide) ?_
              refine lv_aload_n X.1.1 X.1.2.1 dX8_moment_114 rfl (lv_at hl 0 rfl) ?_
              refine e_getr X hW (C := RX8) (T := TX8) (N := 11) (j := 4) rfl (by decide) inX8 (by decide) (by decide) rfl (t := 55) rfl rfl mw_2_16 dX8_moment_115 ?_
              refine e_getr X hW (C := RX1) (T := TX1) (N := 7) (j := 3) rfl (by decide) inX1 (by decide) (by decide) rfl (t := 59) rfl rfl mw_1_140 dX8_moment_118 ?_
              refine lv_iload_n X.1.1 X.1.2.1 dX8_moment_121 rfl (lv_at hl 3 rfl) ?_
              refine e_ild X hW (by decide) rfl dX8_moment_122 hf (fun v11 hf => ?_)
              exact e_iret X hW hS hf dX8_moment_123
            · rw [if_neg c53_3] at hf
              refine lv_tableOut (tgt := 124) X.1.1 X.1.2.1 dX8_moment_53 (by have e0 := lv_neT c53_0 (a := 0) rfl; have e1 := lv_neT c53_1 (a := 1) rfl; have e2 := lv_neT c53_2 (a := 2) rfl; have e3 := lv_neT c53_3 (a := 3) rfl; have e := e0; omega) (by decide) ?_
              refine lv_bipush (v := (-2)) X.1.1 X.1.2.1 dX8_moment_124 (by decide) ?_
              exact e_iret X hW hS hf dX8_moment_126
    · rw [if_pos c16] at hf
      refine lv_bipush (v := (-2)) X.1.1 X.1.2.1 dX8_moment_19 (by decide) ?_
      exact e_iret X hW hS hf dX8_moment_21
-- OvenHouse.idle
def rmX8_idle : Room := { frames := 3, cells := 0, slots := 0, locals := 64 }
set_option maxRecDepth 100000 in
set_option maxHeartbeats 4000000 in
theorem ctfX8_idle {l : Launch} {E : Gv} (hD : Do E) (F : Nat) (x1 : Int32) (x2 : Int32)  (μ : Mem) : CtI l yX8_idle ((Cond.code yX8_idle cX8_idle 3 (some .int)) :: GG) rmX8_idle E [.ref (E.1 0), .int x1, .int x2] μ (fX8_idle F x1 x2 μ) := by
  intro r u hf
  refine of_entry (cc := cX8_idle) (maxL := 3) (ret := (some .int)) (by decide +kernel) rfl hD (Nat.le_of_ble_eq_true rfl) (fun p e s m args below meth c X H locs hW hS ls hl => ?_)
  have hl : lv_has ls 3 [(0, .ref (E.1 0)), (1, .int x1), (2, .int x2)] := hl
  unfold fX8_idle at hf
  refine lv_iload_n X.1.1 X.1.2.1 dX8_idle_0 rfl (lv_at hl 1 rfl) ?_
  refine lv_iload_n X.1.1 X.1.2.1 dX8_idle_1 rfl (lv_at hl 2 rfl) ?_
  refine e_si (rest := []) (As := [.int x1, .int x2]) X hl.1 hW hS (ctfX8_isLaw X.2.2.2.2 F x1 x2 μ) (cwS (rm := rmX8_isLaw) 2 X.1.2.2.2.2 (gd_S mw_2_225 mw_2_226 mw_1_1 mw_2_227) rfl rfl rfl (by decide +kernel) ⟨Nat.le_of_ble_eq_true rfl, Nat.le_of_ble_eq_true rfl⟩) rfl rfl (Nat.le_of_ble_eq_true rfl) dX8_idle_2 ⟨Nat.zero_le _, Nat.zero_le _⟩ hf (fun r2 m1 H locs hf hW hS => ?_)
  refine lv_if_ne (tgt := 11) X.1.1 X.1.2.1 dX8_idle_5 (by decide) (fun c5 => ?_) (fun c5 => ?_)
  · rw [if_neg c5] at hf
    refine lv_aload_n X.1.1 X.1.2.1 dX8_idle_11 rfl (lv_at hl 0 rfl) ?_
    refine e_getr X hW (C := RX8) (T := TX8) (N := 11) (j := 4) rfl (by decide) inX8 (by decide) (by decide) rfl (t := 55) rfl rfl mw_2_16 dX8_idle_12 ?_
    refine lv_iload_n X.1.1 X.1.2.1 dX8_idle_15 rfl (lv_at hl 1 rfl) ?_
    refine lv_iload_n X.1.1 X.1.2.1 dX8_idle_16 rfl (lv_at hl 2 rfl) ?_
    refine e_vv (rest := []) (As := [.int x1, .int x2]) X hl.1 hW hS (C := RX1) (T := TX1) (N := 7) rfl (by decide) (ctfX1_follow X.2.2.2.2 F x1 x2 m1) (cwV (rm := rmX1_follow) 2 X.1.2.2.2.2 (gd_V mw_2_185 mw_2_186 mw_2_187 mw_1_7 mw_2_188) rfl rfl rfl (by decide +kernel) ⟨Nat.le_of_ble_eq_true rfl, Nat.le_of_ble_eq_true rfl⟩) rfl rfl (Nat.le_of_ble_eq_true rfl) dX8_idle_17 ⟨Nat.zero_le _, Nat.zero_le _⟩ hf (fun m3 H locs hf hW hS => ?_)
    refine lv_aload_n X.1.1 X.1.2.1 dX8_idle_20 rfl (lv_at hl 0 rfl) ?_
    refine e_getr X hW (C := RX8) (T := TX8) (N := 11) (j := 4) rfl (by decide) inX8 (by decide) (by decide) rfl (t := 55) rfl rfl mw_2_16 dX8_idle_21 ?_
    refine lv_aload_n X.1.1 X.1.2.1 dX8_idle_24 rfl (lv_at hl 0 rfl) ?_
    refine e_getr X hW (C := RX8) (T := TX8) (N := 11) (j := 1) rfl (by decide) inX8 (by decide) (by decide) rfl (t := 9) rfl rfl mw_2_13 dX8_idle_25 ?_
    refine lv_aload_n X.1.1 X.1.2.1 dX8_idle_28 rfl (lv_at hl 0 rfl) ?_
    refine e_getr X hW (C := RX8) (T := TX8) (N := 11) (j := 1) rfl (by decide) inX8 (by decide) (by decide) rfl (t := 9) rfl rfl mw_2_13 dX8_idle_29 ?_
    refine e_getr X hW (C := RX3) (T := TX3) (N := 7) (j := 4) rfl (by decide) inX3 (by decide) (by decide) rfl (t := 14) rfl rfl mw_1_68 dX8_idle_32 ?_
    refine lv_iconst (v := 0) X.1.1 X.1.2.1 dX8_idle_35 (by decide) ?_
    refine e_vi (rest := []) (As := [.ref (E.1 9), .ref (E.1 14), .int 0]) X hl.1 hW hS (C := RX1) (T := TX1) (N := 7) rfl (by decide) (ctfX1_endOf X.2.2.2.2 F 14 0 ⟨(by decide), rfl⟩ m3) (cwV (rm := rmX1_endOf) 3 X.1.2.2.2.2 (gd_V mw_2_189 mw_2_190 mw_2_191 mw_1_7 mw_2_192) rfl rfl rfl (by decide +kernel) ⟨Nat.le_of_ble_eq_true rfl, Nat.le_of_ble_eq_true rfl⟩) rfl rfl (Nat.le_of_ble_eq_true rfl) dX8_idle_36 ⟨Nat.zero_le _, Nat.zero_le _⟩ hf (fun r5 m4 H locs hf hW hS => ?_)
    refine lv_aload_n X.1.1 X.1.2.1 dX8_idle_39 rfl (lv_at hl 0 rfl) ?_
    refine e_getr X hW (C := RX8) (T := TX8) (N := 11) (j := 1) rfl (by decide) inX8 (by decide) (by decide) rfl (t := 9) rfl rfl mw_2_13 dX8_idle_40 ?_
    refine lv_aload_n X.1.1 X.1.2.1 dX8_idle_43 rfl (lv_at hl 0 rfl) ?_
    refine e_getr X hW (C := RX8) (T := TX8) (N := 11) (j := 1) rfl (by decide) inX8 (by decide) (by decide) rfl (t := 9) rfl rfl mw_2_13 dX8_idle_44 ?_
    refine e_getr X hW (C := RX3) (T := TX3) (N := 7) (j := 1) rfl (by decide) inX3 (by decide) (by decide) rfl (t := 11) rfl rfl mw_1_62 dX8_idle_47 ?_
    refine e_vi (rest := [.int r5]) (As := [.ref (E.1 11)]) X hl.1 hW hS (C := RX3) (T := TX3) (N := 7) rfl (by decide) (ctfX3_sum X.2.2.2.2 F 11 ⟨(by decide), rfl⟩ m4) (cwV (rm := rmX3_sum) 1 X.1.2.2.2.2 (gd_V mw_2_236 mw_2_237 mw_2_238 mw_1_4 mw_2_239) rfl rfl rfl (by decide +kernel) ⟨Nat.le_of_ble_eq_true rfl, Nat.le_of_ble_eq_true rfl⟩) rfl rfl (Nat.le_of_ble_eq_true rfl) dX8_idle_50 ⟨Nat.zero_le _, Nat.zero_le _⟩ hf (fun r7 m6 H locs hf hW hS => ?_)
    refine lv_isub X.1.1 X.1.2.1 dX8_idle_53 ?_
    exact e_iret X hW hS hf dX8_idle_54
  · rw [if_pos c5] at hf
    refine lv_bipush (v := (-2)) X.1.1 X.1.2.1 dX8_idle_8 (by decide) ?_
    exact e_iret X hW hS hf dX8_idle_10
-- OvenHouse.bound
def rmX8_bound : Room := { frames := 2, cells := 0, slots := 0, locals := 36 }
set_option maxRecDepth 100000 in
set_option maxHeartbeats 4000000 in
theorem ctfX8_bound {l : Launch} {E : Gv} (hD : Do E) (F : Nat)  (μ : Mem) : CtI l yX8_bound ((Cond.code yX8_bound cX8_bound 1 (some .int)) :: GG) rmX8_bound E [.ref (E.1 0)] μ (fX8_bound F μ) := by
  intro r u hf
  refine of_entry (cc := cX8_bound) (maxL := 1) (ret := (some .int)) (by decide +kernel) rfl hD (Nat.le_of_ble_eq_true rfl) (fun p e s m args below meth c X H locs hW hS ls hl => ?_)
  have hl : lv_has ls 1 [(0, .ref (E.1 0))] := hl
  unfold fX8_bound at hf
  refine lv_aload_n X.1.1 X.1.2.1 dX8_bound_0 rfl (lv_at hl 0 rfl) ?_
  refine e_getr X hW (C := RX8) (T := TX8) (N := 11) (j := 1) rfl (by decide) inX8 (by decide) (by decide) rfl (t := 9) rfl rfl mw_2_13 dX8_bound_1 ?_
  refine e_geti X hW (C := RX3) (T := TX3) (N := 7) (j := 6) rfl (by decide) inX3 (by decide) (by decide) rfl rfl mw_1_72 dX8_bound_4 ?_
  refine lv_if_ne (tgt := 12) X.1.1 X.1.2.1 dX8_bound_7 (by decide) (fun c7 => ?_) (fun c7 => ?_)
  · rw [if_neg c7] at hf
    refine lv_aload_n X.1.1 X.1.2.1 dX8_bound_12 rfl (lv_at hl 0 rfl) ?_
    refine e_getr X hW (C := RX8) (T := TX8) (N := 11) (j := 1) rfl (by decide) inX8 (by decide) (by decide) rfl (t := 9) rfl rfl mw_2_13 dX8_bound_13 ?_
    refine lv_aload_n X.1.1 X.1.2.1 dX8_bound_16 rfl (lv_at hl 0 rfl) ?_
    refine e_getr X hW (C := RX8) (T := TX8) (N := 11) (j := 1) rfl (by decide) inX8 (by decide) (by decide) rfl (t := 9) rfl rfl mw_2_13 dX8_bound_17 ?_
    refine e_getr X hW (C := RX3) (T := TX3) (N := 7) (j := 0) rfl (by decide) inX3 (by decide) (by decide) rfl (t := 10) rfl rfl mw_1_59 dX8_bound_20 ?_
    refine e_vi (rest := []) (As := [.ref (E.1 10)]) X hl.1 hW hS (C := RX3) (T := TX3) (N := 7) rfl (by decide) (ctfX3_sum X.2.2.2.2 F 10 ⟨(by decide), rfl⟩ μ) (cwV (rm := rmX3_sum) 1 X.1.2.2.2.2 (gd_V mw_2_236 mw_2_237 mw_2_238 mw_1_4 mw_2_239) rfl rfl rfl (by decide +kernel) ⟨Nat.le_of_ble_eq_true rfl, Nat.le_of_ble_eq_true rfl⟩) rfl rfl (Nat.le_of_ble_eq_true rfl) dX8_bound_23 ⟨Nat.zero_le _, Nat.zero_le _⟩ hf (fun r2 m1 H locs hf hW hS => ?_)
    refine lv_aload_n X.1.1 X.1.2.1 dX8_bound_26 rfl (lv_at hl 0 rfl) ?_
    refine e_getr X hW (C := RX8) (T := TX8) (N := 11) (j := 1) rfl (by decide) inX8 (by decide) (by decide) rfl (t := 9) rfl rfl mw_2_13 dX8_bound_27 ?_
    refine lv_aload_n X.1.1 X.1.2.1 dX8_bound_30 rfl (lv_at hl 0 rfl) ?_
    refine e_getr X hW (C := RX8) (T := TX8) (N := 11) (j := 1) rfl (by decide) inX8 (by decide) (by decide) rfl (t := 9) rfl rfl mw_2_13 dX8_bound_31 ?_
    refine e_getr X hW (C := RX3) (T := TX3) (N := 7) (j := 1) rfl (by decide) inX3 (by decide) (by decide) rfl (t := 11) rfl rfl mw_1_62 dX8_bound_34 ?_
    refine e_vi (rest := [.int r2]) (As := [.ref (E.1 11)]) X hl.1 hW hS (C := RX3) (T := TX3) (N := 7) rfl (by decide) (ctfX3_leastOf X.2.2.2.2 F 11 ⟨(by decide), rfl⟩ m1) (cwV (rm := rmX3_leastOf) 1 X.1.2.2.2.2 (gd_V mw_3_4 mw_3_5 mw_3_6 mw_1_4 mw_3_7) rfl rfl rfl (by decide +kernel) ⟨Nat.le_of_ble_eq_true rfl, Nat.le_of_ble_eq_true rfl⟩) rfl rfl (Nat.le_of_ble_eq_true rfl) dX8_bound_37 ⟨Nat.zero_le _, Nat.zero_le _⟩ hf (fun r4 m3 H locs hf hW hS => ?_)
    refine lv_iadd X.1.1 X.1.2.1 dX8_bound_40 ?_
    refine lv_aload_n X.1.1 X.1.2.1 dX8_bound_41 rfl (lv_at hl 0 rfl) ?_
    refine e_getr X hW (C := RX8) (T := TX8) (N := 11) (j := 1) rfl (by decide) inX8 (by decide) (by decide) rfl (t := 9) rfl rfl mw_2_13 dX8_bound_42 ?_
    refine lv_aload_n X.1.1 X.1.2.1 dX8_bound_45 rfl (lv_at hl 0 rfl) ?_
    refine e_getr X hW (C := RX8) (T := TX8) (N := 11) (j := 1) rfl (by decide) inX8 (by decide) (by decide) rfl (t := 9) rfl rfl mw_2_13 dX8_bound_46 ?_
    refine e_getr X hW (C := RX3) (T := TX3) (N := 7) (j := 1) rfl (by decide) inX3 (by decide) (by decide) rfl (t := 11) rfl rfl mw_1_62 dX8_bound_49 ?_
    refine e_vi (rest := [.int (r2 + r4)]) (As := [.ref (E.1 11)]) X hl.1 hW hS (C := RX3) (T := TX3) (N := 7) rfl (by decide) (ctfX3_sum X.2.2.2.2 F 11 ⟨(by decide), rfl⟩ m3) (cwV (rm := rmX3_sum) 1 X.1.2.2.2.2 (gd_V mw_2_236 mw_2_237 mw_2_238 mw_1_4 mw_2_239) rfl rfl rfl (by decide +kernel) ⟨Nat.le_of_ble_eq_true rfl, Nat.le_of_ble_eq_true rfl⟩) rfl rfl (Nat.le_of_ble_eq_true rfl) dX8_bound_52 ⟨Nat.zero_le _, Nat.zero_le _⟩ hf (fun r6 m5 H locs hf hW hS => ?_)
    refine lv_aload_n X.1.1 X.1.2.1 dX8_bound_55 rfl (lv_at hl 0 rfl) ?_
    refine e_getr X hW (C := RX8) (T := TX8) (N := 11) (j := 1) rfl (by decide) inX8 (by decide) (by decide) rfl (t := 9) rfl rfl mw_2_13 dX8_bound_56 ?_
    refine lv_aload_n X.1.1 X.1.2.1 dX8_bound_59 rfl (lv_at hl 0 rfl) ?_
    refine e_getr X hW (C := RX8) (T := TX8) (N := 11) (j := 1) rfl (by decide) inX8 (by decide) (by decide) rfl (t := 9) rfl rfl mw_2_13 dX8_bound_60 ?_
    refine e_getr X hW (C := RX3) (T := TX3) (N := 7) (j := 0) rfl (by decide) inX3 (by decide) (by decide) rfl (t := 10) rfl rfl mw_1_59 dX8_bound_63 ?_
    refine e_vi (rest := [.int r6, .int (r2 + r4)]) (As := [.ref (E.1 10)]) X hl.1 hW hS (C := RX3) (T := TX3) (N := 7) rfl (by decide) (ctfX3_leastOf X.2.2.2.2 F 10 ⟨(by decide), rfl⟩ m5) (cwV (rm := rmX3_leastOf) 1 X.1.2.2.2.2 (gd_V mw_3_4 mw_3_5 mw_3_6 mw_1_4 mw_3_7) rfl rfl rfl (by decide +kernel) ⟨Nat.le_of_ble_eq_true rfl, Nat.le_of_ble_eq_true rfl⟩) rfl rfl (Nat.le_of_ble_eq_true rfl) dX8_bound_66 ⟨Nat.zero_le _, Nat.zero_le _⟩ hf (fun r8 m7 H locs hf hW hS => ?_)
    refine lv_iadd X.1.1 X.1.2.1 dX8_bound_69 ?_
    refine e_max X hl.1 mw_3_10 mw_2_198 mw_1_13 mw_2_199 ⟨Nat.le_of_ble_eq_true rfl, Nat.le_of_ble_eq_true rfl⟩ ⟨Nat.zero_le _, Nat.zero_le _⟩ dX8_bound_70 ?_
    exact e_iret X hW hS hf dX8_bound_73
  · rw [if_pos c7] at hf
    refine lv_iconst (v := 0) X.1.1 X.1.2.1 dX8_bound_10 (by decide) ?_
    exact e_iret X hW hS hf dX8_bound_11
