-- OvenHouse$Best.become
def rmX0_become : Room := { frames := 1, cells := 0, slots := 0, locals := 18 }
set_option maxRecDepth 100000 in
set_option maxHeartbeats 4000000 in
theorem ctfX0_become {l : Launch} {E : Gv} (hD : Do E) (F : Nat) (k1 : Nat) (x2 : Int32) (h1 : k1 < NC ∧ kd k1 = 10) (μ : Mem) : CtV l yX0_become ((Cond.code yX0_become cX0_become 3 none) :: GG) rmX0_become E [.ref (E.1 53), .ref (E.1 k1), .int x2] μ (fX0_become F k1 x2 μ) := by
  intro u hf
  refine of_entry (cc := cX0_become) (maxL := 3) (ret := none) (by decide +kernel) rfl hD (Nat.le_of_ble_eq_true rfl) (fun p e s m args below meth c X H locs hW hS ls hl => ?_)
  have hl : lv_has ls 3 [(0, .ref (E.1 53)), (1, .ref (E.1 k1)), (2, .int x2)] := hl
  unfold fX0_become at hf
  refine lv_aload_n X.1.1 X.1.2.1 dX0_become_0 rfl (lv_at hl 1 rfl) ?_
  refine lv_iconst (v := 0) X.1.1 X.1.2.1 dX0_become_1 (by decide) ?_
  refine lv_aload_n X.1.1 X.1.2.1 dX0_become_2 rfl (lv_at hl 0 rfl) ?_
  refine e_getr X hW (C := RX0) (T := TX0) (N := 3) (j := 0) rfl (by decide) inX0 (by decide) (by decide) rfl (t := 54) rfl rfl mw_1_114 dX0_become_3 ?_
  refine lv_iconst (v := 0) X.1.1 X.1.2.1 dX0_become_6 (by decide) ?_
  refine lv_iload_n X.1.1 X.1.2.1 dX0_become_7 rfl (lv_at hl 2 rfl) ?_
  refine e_cpy X hl.1 hW hS mw_3_77 mw_2_100 mw_2_99 mw_1_12 h1.1 (by decide) h1.2 rfl ⟨Nat.le_of_ble_eq_true rfl, Nat.le_of_ble_eq_true rfl⟩ dX0_become_8 hf (fun m1 H locs hf hW hS => ?_)
  refine lv_aload_n X.1.1 X.1.2.1 dX0_become_11 rfl (lv_at hl 0 rfl) ?_
  refine lv_iload_n X.1.1 X.1.2.1 dX0_become_12 rfl (lv_at hl 2 rfl) ?_
  refine e_put X hW hS (C := RX0) (T := TX0) (N := 3) (j := 1) (tyF := tyX0) rfl (by decide) inX0 tyX0_ok nmX0 (by decide) (by decide) rfl rfl mw_1_116 rfl rfl rfl dX0_become_13 hf (fun m2 H locs hf hW hS => ?_)
  refine lv_aload_n X.1.1 X.1.2.1 dX0_become_16 rfl (lv_at hl 0 rfl) ?_
  refine lv_iconst (v := 1) X.1.1 X.1.2.1 dX0_become_17 (by decide) ?_
  refine e_put X hW hS (C := RX0) (T := TX0) (N := 3) (j := 2) (tyF := tyX0) rfl (by decide) inX0 tyX0_ok nmX0 (by decide) (by decide) rfl rfl mw_1_118 rfl rfl rfl dX0_become_18 hf (fun m3 H locs hf hW hS => ?_)
  exact e_vret X hW hS hf dX0_become_21
-- OvenHouse$Day.follow
def rmX1_follow : Room := { frames := 0, cells := 0, slots := 0, locals := 0 }
set_option maxRecDepth 100000 in
set_option maxHeartbeats 4000000 in
theorem ctfX1_follow {l : Launch} {E : Gv} (hD : Do E) (F : Nat) (x1 : Int32) (x2 : Int32)  (μ : Mem) : CtV l yX1_follow ((Cond.code yX1_follow cX1_follow 3 none) :: GG) rmX1_follow E [.ref (E.1 55), .int x1, .int x2] μ (fX1_follow F x1 x2 μ) := by
  intro u hf
  refine of_entry (cc := cX1_follow) (maxL := 3) (ret := none) (by decide +kernel) rfl hD (Nat.le_of_ble_eq_true rfl) (fun p e s m args below meth c X H locs hW hS ls hl => ?_)
  have hl : lv_has ls 3 [(0, .ref (E.1 55)), (1, .int x1), (2, .int x2)] := hl
  unfold fX1_follow at hf
  refine lv_aload_n X.1.1 X.1.2.1 dX1_follow_0 rfl (lv_at hl 0 rfl) ?_
  refine lv_iload_n X.1.1 X.1.2.1 dX1_follow_1 rfl (lv_at hl 1 rfl) ?_
  refine e_put X hW hS (C := RX1) (T := TX1) (N := 7) (j := 5) (tyF := tyX1) rfl (by decide) inX1 tyX1_ok nmX1 (by decide) (by decide) rfl rfl mw_1_142 rfl rfl rfl dX1_follow_2 hf (fun m1 H locs hf hW hS => ?_)
  refine lv_aload_n X.1.1 X.1.2.1 dX1_follow_5 rfl (lv_at hl 0 rfl) ?_
  refine lv_iload_n X.1.1 X.1.2.1 dX1_follow_6 rfl (lv_at hl 2 rfl) ?_
  refine e_put X hW hS (C := RX1) (T := TX1) (N := 7) (j := 6) (tyF := tyX1) rfl (by decide) inX1 tyX1_ok nmX1 (by decide) (by decide) rfl rfl mw_1_143 rfl rfl rfl dX1_follow_7 hf (fun m2 H locs hf hW hS => ?_)
  exact e_vret X hW hS hf dX1_follow_10
-- OvenHouse$Day.lay
def rmX1_lay : Room := { frames := 1, cells := 0, slots := 0, locals := 15 }
set_option maxRecDepth 100000 in
set_option maxHeartbeats 4000000 in
theorem wfX1_lay_62 {p : Program} {l : Launch} {e : Env} {s : State} {m : MethodId} {args : Array Value} {below : List Frame} {meth : Method} {c : Code} {E : Gv} {F : Nat}  {u : Mem} (X : Fx p m c cX1_lay 6 s args (Cond.code yX1_lay cX1_lay 6 none) "OvenHouse$Day" meth none E)  (y1 : Int32) (y2 : Int32) (y3 : Int32) (y5 : Int32) (z0 : Int32) (z1 : Int32) (μ : Mem) (H : Heap) (locs : List Loc) (ls : Array Slot) (hf : fX1_lay_62 F   y1 y2 y3 y5 z0 z1 μ = some u) (hW : Wo E μ H) (hS : va_S (AE E) s.heap H locs) (hl : lv_has ls 6 [(0, .ref (E.1 55)), (1, .int y1), (2, .int y2), (3, .int y3), (5, .int y5)]) : W0 p l e rmX1_lay s m args below meth c H locs (QcN E u) E (F0 m 62 ls [.int z0, .int z1, .ref (E.1 56)]) := by
  unfold fX1_lay_62 at hf
  refine e_ist X hW hS (by decide) rfl dX1_lay_62 hf (fun m3 H locs hf hW hS => ?_)
  refine lv_aload_n X.1.1 X.1.2.1 dX1_lay_63 rfl (lv_at hl 0 rfl) ?_
  refine e_getr X hW (C := RX1) (T := TX1) (N := 7) (j := 1) rfl (by decide) inX1 (by decide) (by decide) rfl (t := 57) rfl rfl mw_1_135 dX1_lay_64 ?_
  refine lv_iload_n X.1.1 X.1.2.1 dX1_lay_67 rfl (lv_at hl 1 rfl) ?_
  refine lv_aload_n X.1.1 X.1.2.1 dX1_lay_68 rfl (lv_at hl 0 rfl) ?_
  refine e_getr X hW (C := RX1) (T := TX1) (N := 7) (j := 0) rfl (by decide) inX1 (by decide) (by decide) rfl (t := 56) rfl rfl mw_1_133 dX1_lay_69 ?_
  refine lv_iload_n X.1.1 X.1.2.1 dX1_lay_72 rfl (lv_at hl 1 rfl) ?_
  refine e_ild X hW (by decide) rfl dX1_lay_73 hf (fun v4 hf => ?_)
  refine lv_iload_n X.1.1 X.1.2.1 dX1_lay_74 rfl (lv_at hl 2 rfl) ?_
  refine lv_iadd X.1.1 X.1.2.1 dX1_lay_75 ?_
  refine e_ist X hW hS (by decide) rfl dX1_lay_76 hf (fun m5 H locs hf hW hS => ?_)
  refine lv_aload_n X.1.1 X.1.2.1 dX1_lay_77 rfl (lv_at hl 0 rfl) ?_
  refine e_getr X hW (C := RX1) (T := TX1) (N := 7) (j := 2) rfl (by decide) inX1 (by decide) (by decide) rfl (t := 58) rfl rfl mw_1_137 dX1_lay_78 ?_
  refine lv_iload_n X.1.1 X.1.2.1 dX1_lay_81 rfl (lv_at hl 1 rfl) ?_
  refine lv_aload_n X.1.1 X.1.2.1 dX1_lay_82 rfl (lv_at hl 0 rfl) ?_
  refine e_getr X hW (C := RX1) (T := TX1) (N := 7) (j := 1) rfl (by decide) inX1 (by decide) (by decide) rfl (t := 57) rfl rfl mw_1_135 dX1_lay_83 ?_
  refine lv_iload_n X.1.1 X.1.2.1 dX1_lay_86 rfl (lv_at hl 1 rfl) ?_
  refine e_ild X hW (by decide) rfl dX1_lay_87 hf (fun v6 hf => ?_)
  refine lv_iload X.1.1 X.1.2.1 dX1_lay_88 (lv_at hl 4 rfl) ?_
  refine e_max X hl.1 mw_2_197 mw_2_198 mw_1_13 mw_2_199 ⟨Nat.le_of_ble_eq_true rfl, Nat.le_of_ble_eq_true rfl⟩ ⟨Nat.zero_le _, Nat.zero_le _⟩ dX1_lay_90 ?_
  refine e_ist X hW hS (by decide) rfl dX1_lay_93 hf (fun m7 H locs hf hW hS => ?_)
  refine lv_aload_n X.1.1 X.1.2.1 dX1_lay_94 rfl (lv_at hl 0 rfl) ?_
  refine e_getr X hW (C := RX1) (T := TX1) (N := 7) (j := 3) rfl (by decide) inX1 (by decide) (by decide) rfl (t := 59) rfl rfl mw_1_139 dX1_lay_95 ?_
  refine lv_iload_n X.1.1 X.1.2.1 dX1_lay_98 rfl (lv_at hl 1 rfl) ?_
  refine lv_aload_n X.1.1 X.1.2.1 dX1_lay_99 rfl (lv_at hl 0 rfl) ?_
  refine e_getr X hW (C := RX1) (T := TX1) (N := 7) (j := 2) rfl (by decide) inX1 (by decide) (by decide) rfl (t := 58) rfl rfl mw_1_137 dX1_lay_100 ?_
  refine lv_iload_n X.1.1 X.1.2.1 dX1_lay_103 rfl (lv_at hl 1 rfl) ?_
  refine e_ild X hW (by decide) rfl dX1_lay_104 hf (fun v8 hf => ?_)
  refine lv_iload_n X.1.1 X.1.2.1 dX1_lay_105 rfl (lv_at hl 3 rfl) ?_
  refine lv_iadd X.1.1 X.1.2.1 dX1_lay_106 ?_
  refine e_ist X hW hS (by decide) rfl dX1_lay_107 hf (fun m9 H locs hf hW hS => ?_)
  refine lv_aload_n X.1.1 X.1.2.1 dX1_lay_108 rfl (lv_at hl 0 rfl) ?_
  refine e_getr X hW (C := RX1) (T := TX1) (N := 7) (j := 4) rfl (by decide) inX1 (by decide) (by decide) rfl (t := 60) rfl rfl mw_1_141 dX1_lay_109 ?_
  refine lv_iload_n X.1.1 X.1.2.1 dX1_lay_112 rfl (lv_at hl 1 rfl) ?_
  refine lv_aload_n X.1.1 X.1.2.1 dX1_lay_113 rfl (lv_at hl 0 rfl) ?_
  refine e_getr X hW (C := RX1) (T := TX1) (N := 7) (j := 1) rfl (by decide) inX1 (by decide) (by decide) rfl (t := 57) rfl rfl mw_1_135 dX1_lay_114 ?_
  refine lv_iload_n X.1.1 X.1.2.1 dX1_lay_117 rfl (lv_at hl 1 rfl) ?_
  refine e_ild X hW (by decide) rfl dX1_lay_118 hf (fun v10 hf => ?_)
  refine e_ist X hW hS (by decide) rfl dX1_lay_119 hf (fun m11 H locs hf hW hS => ?_)
  refine lv_aload_n X.1.1 X.1.2.1 dX1_lay_120 rfl (lv_at hl 0 rfl) ?_
  refine e_geti X hW (C := RX1) (T := TX1) (N := 7) (j := 5) rfl (by decide) inX1 (by decide) (by decide) rfl rfl mw_1_142 dX1_lay_121 ?_
  refine lv_iconst (v := 2) X.1.1 X.1.2.1 dX1_lay_124 (by decide) ?_
  refine lv_icmp_ne (tgt := 162) X.1.1 X.1.2.1 dX1_lay_125 (by decide) (fun c125 => ?_) (fun c125 => ?_)
  · rw [if_neg c125] at hf
    exact e_vret X hW hS hf dX1_lay_162
  · rw [if_pos c125] at hf
    refine lv_iload_n X.1.1 X.1.2.1 dX1_lay_128 rfl (lv_at hl 1 rfl) ?_
    refine lv_aload_n X.1.1 X.1.2.1 dX1_lay_129 rfl (lv_at hl 0 rfl) ?_
    refine e_geti X hW (C := RX1) (T := TX1) (N := 7) (j := 6) rfl (by decide) inX1 (by decide) (by decide) rfl rfl mw_1_143 dX1_lay_130 ?_
    refine lv_icmp_lt (tgt := 162) X.1.1 X.1.2.1 dX1_lay_133 (by decide) (fun c133 => ?_) (fun c133 => ?_)
    · rw [if_pos c133] at hf
      exact e_vret X hW hS hf dX1_lay_162
    · rw [if_neg c133] at hf
      refine lv_aload_n X.1.1 X.1.2.1 dX1_lay_136 rfl (lv_at hl 0 rfl) ?_
      refine e_getr X hW (C := RX1) (T := TX1) (N := 7) (j := 4) rfl (by decide) inX1 (by decide) (by decide) rfl (t := 60) rfl rfl mw_1_141 dX1_lay_137 ?_
      refine lv_iload_n X.1.1 X.1.2.1 dX1_lay_140 rfl (lv_at hl 1 rfl) ?_
      refine lv_aload_n X.1.1 X.1.2.1 dX1_lay_141 rfl (lv_at hl 0 rfl) ?_
      refine e_getr X hW (C := RX1) (T := TX1) (N := 7) (j := 1) rfl (by decide) inX1 (by decide) (by decide) rfl (t := 57) rfl rfl mw_1_135 dX1_lay_142 ?_
      refine lv_iload_n X.1.1 X.1.2.1 dX1_lay_145 rfl (lv_at hl 1 rfl) ?_
      refine e_ild X hW (by decide) rfl dX1_lay_146 hf (fun v12 hf => ?_)
      refine lv_aload_n X.1.1 X.1.2.1 dX1_lay_147 rfl (lv_at hl 0 rfl) ?_
      refine e_getr X hW (C := RX1) (T := TX1) (N := 7) (j := 2) rfl (by decide) inX1 (by decide) (by decide) rfl (t := 58) rfl rfl mw_1_137 dX1_lay_148 ?_
      refine lv_iload_n X.1.1 X.1.2.1 dX1_lay_151 rfl (lv_at hl 1 rfl) ?_
      refine lv_aload_n X.1.1 X.1.2.1 dX1_lay_152 rfl (lv_at hl 0 rfl) ?_
      refine e_geti X hW (C := RX1) (T := TX1) (N := 7) (j := 6) rfl (by decide) inX1 (by decide) (by decide) rfl rfl mw_1_143 dX1_lay_153 ?_
      refine lv_isub X.1.1 X.1.2.1 dX1_lay_156 ?_
      refine e_ild X hW (by decide) rfl dX1_lay_157 hf (fun v13 hf => ?_)
      refine e_max X hl.1 mw_2_197 mw_2_198 mw_1_13 mw_2_199 ⟨Nat.le_of_ble_eq_true rfl, Nat.le_of_ble_eq_true rfl⟩ ⟨Nat.zero_le _, Nat.zero_le _⟩ dX1_lay_158 ?_
      refine e_ist X hW hS (by decide) rfl dX1_lay_161 hf (fun m14 H locs hf hW hS => ?_)
      exact e_vret X hW hS hf dX1_lay_162
set_option maxRecDepth 100000 in
set_option maxHeartbeats 4000000 in
theorem wfX1_lay_34 {p : Program} {l : Launch} {e : Env} {s : State} {m : MethodId} {args : Array Value} {below : List Frame} {meth : Method} {c : Code} {E : Gv} {F : Nat}  {u : Mem} (X : Fx p m c cX1_lay 6 s args (Cond.code yX1_lay cX1_lay 6 none) "OvenHouse$Day" meth none E)  (y1 : Int32) (y2 : Int32) (y3 : Int32) (y4 : Int32) (z0 : Int32) (μ : Mem) (H : Heap) (locs : List Loc) (ls : Array Slot) (hf : fX1_lay_34 F   y1 y2 y3 y4 z0 μ = some u) (hW : Wo E μ H) (hS : va_S (AE E) s.heap H locs) (hl : lv_has ls 6 [(0, .ref (E.1 55)), (1, .int y1), (2, .int y2), (3, .int y3), (4, .int y4)]) : W0 p l e rmX1_lay s m args below meth c H locs (QcN E u) E (F0 m 34 ls [.int z0]) := by
  unfold fX1_lay_34 at hf
  refine lv_istore (lv' := [(5, .int z0), (0, .ref (E.1 55)), (1, .int y1), (2, .int y2), (3, .int y3), (4, .int y4)]) X.1.1 X.1.2.1 dX1_lay_34 hl (by decide) rfl (fun ls hl => ?_)
  refine lv_aload_n X.1.1 X.1.2.1 dX1_lay_36 rfl (lv_at hl 1 rfl) ?_
  refine e_getr X hW (C := RX1) (T := TX1) (N := 7) (j := 0) rfl (by decide) inX1 (by decide) (by decide) rfl (t := 56) rfl rfl mw_1_133 dX1_lay_37 ?_
  refine lv_iload_n X.1.1 X.1.2.1 dX1_lay_40 rfl (lv_at hl 2 rfl) ?_
  refine lv_aload_n X.1.1 X.1.2.1 dX1_lay_41 rfl (lv_at hl 1 rfl) ?_
  refine e_geti X hW (C := RX1) (T := TX1) (N := 7) (j := 5) rfl (by decide) inX1 (by decide) (by decide) rfl rfl mw_1_142 dX1_lay_42 ?_
  refine lv_if_ne (tgt := 60) X.1.1 X.1.2.1 dX1_lay_45 (by decide) (fun c45 => ?_) (fun c45 => ?_)
  · rw [if_neg c45] at hf
    refine lv_iload X.1.1 X.1.2.1 dX1_lay_60 (lv_at hl 5 rfl) ?_
    exact wfX1_lay_62 X  y1 y2 y3 z0 y4 y1 μ H locs ls hf hW hS (lv_sub hl [1, 2, 3, 4, 0] rfl)
  · rw [if_pos c45] at hf
    refine lv_iload X.1.1 X.1.2.1 dX1_lay_48 (lv_at hl 5 rfl) ?_
    refine lv_iload X.1.1 X.1.2.1 dX1_lay_50 (lv_at hl 0 rfl) ?_
    refine lv_iload_n X.1.1 X.1.2.1 dX1_lay_52 rfl (lv_at hl 3 rfl) ?_
    refine lv_isub X.1.1 X.1.2.1 dX1_lay_53 ?_
    refine e_max X hl.1 mw_2_197 mw_2_198 mw_1_13 mw_2_199 ⟨Nat.le_of_ble_eq_true rfl, Nat.le_of_ble_eq_true rfl⟩ ⟨Nat.zero_le _, Nat.zero_le _⟩ dX1_lay_54 ?_
    refine lv_goto (tgt := 62) X.1.1 X.1.2.1 dX1_lay_57 (by decide) ?_
    exact wfX1_lay_62 X  y1 y2 y3 z0 (imax y4 (z0 - y2)) y1 μ H locs ls hf hW hS (lv_sub hl [1, 2, 3, 4, 0] rfl)
set_option maxRecDepth 100000 in
set_option maxHeartbeats 4000000 in
theorem wfX1_lay_16 {p : Program} {l : Launch} {e : Env} {s : State} {m : MethodId} {args : Array Value} {below : List Frame} {meth : Method} {c : Code} {E : Gv} {F : Nat}  {u : Mem} (X : Fx p m c cX1_lay 6 s args (Cond.code yX1_lay cX1_lay 6 none) "OvenHouse$Day" meth none E)  (y1 : Int32) (y2 : Int32) (y3 : Int32) (z0 : Int32) (μ : Mem) (H : Heap) (locs : List Loc) (ls : Array Slot) (hf : fX1_lay_16 F   y1 y2 y3 z0 μ = some u) (hW : Wo E μ H) (hS : va_S (AE E) s.heap H locs) (hl : lv_has ls 6 [(0, .ref (E.1 55)), (1, .int y1), (2, .int y2), (3, .int y3)]) : W0 p l e rmX1_lay s m args below meth c H locs (QcN E u) E (F0 m 16 ls [.int z0]) := by
  unfold fX1_lay_16 at hf
  refine lv_istore (lv' := [(4, .int z0), (0, .ref (E.1 55)), (1, .int y1), (2, .int y2), (3, .int y3)]) X.1.1 X.1.2.1 dX1_lay_16 hl (by decide) rfl (fun ls hl => ?_)
  refine lv_iload_n X.1.1 X.1.2.1 dX1_lay_18 rfl (lv_at hl 2 rfl) ?_
  refine lv_if_ne (tgt := 26) X.1.1 X.1.2.1 dX1_lay_19 (by decide) (fun c19 => ?_) (fun c19 => ?_)
  · rw [if_neg c19] at hf
    refine lv_aload_n X.1.1 X.1.2.1 dX1_lay_26 rfl (lv_at hl 1 rfl) ?_
    refine e_getr X hW (C := RX1) (T := TX1) (N := 7) (j := 3) rfl (by decide) inX1 (by decide) (by decide) rfl (t := 59) rfl rfl mw_1_139 dX1_lay_27 ?_
    refine lv_iload_n X.1.1 X.1.2.1 dX1_lay_30 rfl (lv_at hl 2 rfl) ?_
    refine lv_iconst (v := 1) X.1.1 X.1.2.1 dX1_lay_31 (by decide) ?_
    refine lv_isub X.1.1 X.1.2.1 dX1_lay_32 ?_
    refine e_ild X hW (by decide) rfl dX1_lay_33 hf (fun v2 hf => ?_)
    exact wfX1_lay_34 X  y1 y2 y3 z0 v2 μ H locs ls hf hW hS (lv_sub hl [1, 2, 3, 4, 0] rfl)
  · rw [if_pos c19] at hf
    refine lv_iconst (v := 0) X.1.1 X.1.2.1 dX1_lay_22 (by decide) ?_
    refine lv_goto (tgt := 34) X.1.1 X.1.2.1 dX1_lay_23 (by decide) ?_
    exact wfX1_lay_34 X  y1 y2 y3 z0 0 μ H locs ls hf hW hS (lv_sub hl [1, 2, 3, 4, 0] rfl)
set_option maxRecDepth 100000 in
set_option maxHeartbeats 4000000 in
theorem ctfX1_lay {l : Launch} {E : Gv} (hD : Do E) (F : Nat) (x1 : Int32) (x2 : Int32) (x3 : Int32)  (μ : Mem) : CtV l yX1_lay ((Cond.code yX1_lay cX1_lay 6 none) :: GG) rmX1_lay E [.ref (E.1 55), .int x1, .int x2, .int x3] μ (fX1_lay F x1 x2 x3 μ) := by
  intro u hf
  refine of_entry (cc := cX1_lay) (maxL := 6) (ret := none) (by decide +kernel) rfl hD (Nat.le_of_ble_eq_true rfl) (fun p e s m args below meth c X H locs hW hS ls hl => ?_)
  have hl : lv_has ls 6 [(0, .ref (E.1 55)), (1, .int x1), (2, .int x2), (3, .int x3)] := hl
  unfold fX1_lay at hf
  refine lv_iload_n X.1.1 X.1.2.1 dX1_lay_0 rfl (lv_at hl 1 rfl) ?_
  refine lv_if_ne (tgt := 8) X.1.1 X.1.2.1 dX1_lay_1 (by decide) (fun c1 => ?_) (fun c1 => ?_)
  · rw [if_neg c1] at hf
    refine lv_aload_n X.1.1 X.1.2.1 dX1_lay_8 rfl (lv_at hl 0 rfl) ?_
    refine e_getr X hW (C := RX1) (T := TX1) (N := 7) (j := 4) rfl (by decide) inX1 (by decide) (by decide) rfl (t := 60) rfl rfl mw_1_141 dX1_lay_9 ?_
    refine lv_iload_n X.1.1 X.1.2.1 dX1_lay_12 rfl (lv_at hl 1 rfl) ?_
    refine lv_iconst (v := 1) X.1.1 X.1.2.1 dX1_lay_13 (by decide) ?_
    refine lv_isub X.1.1 X.1.2.1 dX1_lay_14 ?_
    refine e_ild X hW (by decide) rfl dX1_lay_15 hf (fun v1 hf => ?_)
    exact wfX1_lay_16 X  x1 x2 x3 v1 μ H locs ls hf hW hS (lv_sub hl [0, 1, 2, 3] rfl)
  · rw [if_pos c1] at hf
    refine lv_iconst (v := 0) X.1.1 X.1.2.1 dX1_lay_4 (by decide) ?_
    refine lv_goto (tgt := 16) X.1.1 X.1.2.1 dX1_lay_5 (by decide) ?_
    exact wfX1_lay_16 X  x1 x2 x3 0 μ H locs ls hf hW hS (lv_sub hl [0, 1, 2, 3] rfl)
-- OvenHouse$Day.endOf
def rmX1_endOf : Room := { frames := 2, cells := 0, slots := 0, locals := 40 }
set_option maxRecDepth 100000 in
set_option maxHeartbeats 4000000 in
theorem wfX1_endOf_3_b {p : Program} {l : Launch} {e : Env} {s : State} {m : MethodId} {args : Array Value} {below : List Frame} {meth : Method} {c : Code} {E : Gv} {F : Nat} {k2 : Nat} {r : Int32} {u : Mem} (X : Fx p m c cX1_endOf 5 s args (Cond.code yX1_endOf cX1_endOf 5 (some .int)) "OvenHouse$Day" meth (some .int) E) (h2 : k2 < NC ∧ kd k2 = 10) (rec3 : Int32 → Mem → Option (Int32 × Mem)) (hrec3 : ∀ (y4 : Int32) (μ : Mem) (H : Heap) (locs : List Loc) (ls : Array Slot), rec3 y4 μ = some (r, u) → Wo E μ H → va_S (AE E) s.heap H locs → lv_has ls 5 [(0, .ref (E.1 55)), (1, .ref (E.1 9)), (2, .ref (E.1 k2)), (4, .int y4)] → W0 p l e rmX1_endOf s m args below meth c H locs (QcI E r u) E (F0 m 3 ls [])) (y4 : Int32) (μ : Mem) (H : Heap) (locs : List Loc) (ls : Array Slot) (hf : fX1_endOf_3_b F k2 rec3 y4 μ = some (r, u)) (hW : Wo E μ H) (hS : va_S (AE E) s.heap H locs) (hl : lv_has ls 5 [(0, .ref (E.1 55)), (1, .ref (E.1 9)), (2, .ref (E.1 k2)), (4, .int y4)]) : W0 p l e rmX1_endOf s m args below meth c H locs (QcI E r u) E (F0 m 3 ls []) := by
  unfold fX1_endOf_3_b at hf
  refine lv_iload X.1.1 X.1.2.1 dX1_endOf_3 (lv_at hl 3 rfl) ?_
  refine lv_aload_n X.1.1 X.1.2.1 dX1_endOf_5 rfl (lv_at hl 1 rfl) ?_
  refine e_geti X hW (C := RX3) (T := TX3) (N := 7) (j := 6) rfl (by decide) inX3 (by decide) (by decide) rfl rfl mw_1_71 dX1_endOf_6 ?_
  refine lv_icmp_ge (tgt := 42) X.1.1 X.1.2.1 dX1_endOf_9 (by decide) (fun c9 => ?_) (fun c9 => ?_)
  · rw [if_pos c9] at hf
    refine lv_aload_n X.1.1 X.1.2.1 dX1_endOf_42 rfl (lv_at hl 1 rfl) ?_
    refine e_geti X hW (C := RX3) (T := TX3) (N := 7) (j := 6) rfl (by decide) inX3 (by decide) (by decide) rfl rfl mw_1_71 dX1_endOf_43 ?_
    refine lv_if_ne (tgt := 53) X.1.1 X.1.2.1 dX1_endOf_46 (by decide) (fun c46 => ?_) (fun c46 => ?_)
    · rw [if_neg c46] at hf
      refine lv_aload_n X.1.1 X.1.2.1 dX1_endOf_53 rfl (lv_at hl 0 rfl) ?_
      refine e_getr X hW (C := RX1) (T := TX1) (N := 7) (j := 3) rfl (by decide) inX1 (by decide) (by decide) rfl (t := 59) rfl rfl mw_1_139 dX1_endOf_54 ?_
      refine lv_aload_n X.1.1 X.1.2.1 dX1_endOf_57 rfl (lv_at hl 1 rfl) ?_
      refine e_geti X hW (C := RX3) (T := TX3) (N := 7) (j := 6) rfl (by decide) inX3 (by decide) (by decide) rfl rfl mw_1_71 dX1_endOf_58 ?_
      refine lv_iconst (v := 1) X.1.1 X.1.2.1 dX1_endOf_61 (by decide) ?_
      refine lv_isub X.1.1 X.1.2.1 dX1_endOf_62 ?_
      refine e_ild X hW (by decide) rfl dX1_endOf_63 hf (fun v1 hf => ?_)
      exact e_iret X hW hS hf dX1_endOf_64
    · rw [if_pos c46] at hf
      refine lv_iconst (v := 0) X.1.1 X.1.2.1 dX1_endOf_49 (by decide) ?_
      refine lv_goto (tgt := 64) X.1.1 X.1.2.1 dX1_endOf_50 (by decide) ?_
      exact e_iret X hW hS hf dX1_endOf_64
  · rw [if_neg c9] at hf
    refine lv_aload_n X.1.1 X.1.2.1 dX1_endOf_12 rfl (lv_at hl 0 rfl) ?_
    refine lv_iload X.1.1 X.1.2.1 dX1_endOf_13 (lv_at hl 3 rfl) ?_
    refine lv_aload_n X.1.1 X.1.2.1 dX1_endOf_15 rfl (lv_at hl 1 rfl) ?_
    refine e_getr X hW (C := RX3) (T := TX3) (N := 7) (j := 0) rfl (by decide) inX3 (by decide) (by decide) rfl (t := 10) rfl rfl mw_1_58 dX1_endOf_16 ?_
    refine lv_aload_n X.1.1 X.1.2.1 dX1_endOf_19 rfl (lv_at hl 2 rfl) ?_
    refine lv_iload X.1.1 X.1.2.1 dX1_endOf_20 (lv_at hl 3 rfl) ?_
    refine e_ild X hW h2.1 h2.2 dX1_endOf_22 hf (fun v2 hf => ?_)
    refine e_ild X hW (by decide) rfl dX1_endOf_23 hf (fun v3 hf => ?_)
    refine lv_aload_n X.1.1 X.1.2.1 dX1_endOf_24 rfl (lv_at hl 1 rfl) ?_
    refine e_getr X hW (C := RX3) (T := TX3) (N := 7) (j := 1) rfl (by decide) inX3 (by decide) (by decide) rfl (t := 11) rfl rfl mw_1_61 dX1_endOf_25 ?_
    refine lv_aload_n X.1.1 X.1.2.1 dX1_endOf_28 rfl (lv_at hl 2 rfl) ?_
    refine lv_iload X.1.1 X.1.2.1 dX1_endOf_29 (lv_at hl 3 rfl) ?_
    refine e_ild X hW h2.1 h2.2 dX1_endOf_31 hf (fun v4 hf => ?_)
    refine e_ild X hW (by decide) rfl dX1_endOf_32 hf (fun v5 hf => ?_)
    refine e_vv (rest := []) (As := [.int y4, .int v3, .int v5]) X hl.1 hW hS (C := RX1) (T := TX1) (N := 7) rfl (by decide) (ctfX1_lay X.2.2.2.2 F y4 v3 v5 μ) (cwV (rm := rmX1_lay) 3 X.1.2.2.2.2 (gd_V mw_2_193 mw_2_195 mw_0_0 mw_1_7 mw_2_196) rfl rfl rfl (by decide +kernel) ⟨Nat.le_of_ble_eq_true rfl, Nat.le_of_ble_eq_true rfl⟩) rfl rfl (Nat.le_of_ble_eq_true rfl) dX1_endOf_33 ⟨Nat.zero_le _, Nat.zero_le _⟩ hf (fun m6 H locs hf hW hS => ?_)
    refine lv_iinc (v := (y4 + 1)) (lv' := [(4, .int (y4 + 1)), (0, .ref (E.1 55)), (1, .ref (E.1 9)), (2, .ref (E.1 k2))]) X.1.1 X.1.2.1 dX1_endOf_36 hl (k := 3) rfl rfl (by decide) rfl (fun ls hl => ?_)
    refine lv_goto (tgt := 3) X.1.1 X.1.2.1 dX1_endOf_39 (by decide) ?_
    exact hrec3 (y4 + 1) m6 H locs ls hf hW hS (lv_sub hl [1, 2, 3, 0] rfl)
theorem wfX1_endOf_3 {p : Program} {l : Launch} {e : Env} {s : State} {m : MethodId} {args : Array Value} {below : List Frame} {meth : Method} {c : Code} {E : Gv} {F : Nat} {k2 : Nat} {r : Int32} {u : Mem} (X : Fx p m c cX1_endOf 5 s args (Cond.code yX1_endOf cX1_endOf 5 (some .int)) "OvenHouse$Day" meth (some .int) E) (h2 : k2 < NC ∧ kd k2 = 10) (n : Nat) : ∀ (y4 : Int32) (μ : Mem) (H : Heap) (locs : List Loc) (ls : Array Slot) (_ : fX1_endOf_3 F k2  n y4 μ = some (r, u)) (_ : Wo E μ H) (_ : va_S (AE E) s.heap H locs) (_ : lv_has ls 5 [(0, .ref (E.1 55)), (1, .ref (E.1 9)), (2, .ref (E.1 k2)), (4, .int y4)]), W0 p l e rmX1_endOf s m args below meth c H locs (QcI E r u) E (F0 m 3 ls []) := by
  induction n with
  | zero => intro y4 μ H locs ls hf hW hS hl; cases hf
  | succ n ih => intro y4 μ H locs ls hf hW hS hl; exact wfX1_endOf_3_b X h2 _ ih y4 μ H locs ls hf hW hS hl
set_option maxRecDepth 100000 in
set_option maxHeartbeats 4000000 in
theorem ctfX1_endOf {l : Launch} {E : Gv} (hD : Do E) (F : Nat) (k2 : Nat) (x3 : Int32) (h2 : k2 < NC ∧ kd k2 = 10) (μ : Mem) : CtI l yX1_endOf ((Cond.code yX1_endOf cX1_endOf 5 (some .int)) :: GG) rmX1_endOf E [.ref (E.1 55), .ref (E.1 9), .ref (E.1 k2), .int x3] μ (fX1_endOf F k2 x3 μ) := by
  intro r u hf
  refine of_entry (cc := cX1_endOf) (maxL := 5) (ret := (some .int)) (by decide +kernel) rfl hD (Nat.le_of_ble_eq_true rfl) (fun p e s m args below meth c X H locs hW hS ls hl => ?_)
  have hl : lv_has ls 5 [(0, .ref (E.1 55)), (1, .ref (E.1 9)), (2, .ref (E.1 k2)), (3, .int x3)] := hl
  unfold fX1_endOf at hf
  refine lv_iload_n X.1.1 X.1.2.1 dX1_endOf_0 rfl (lv_at hl 3 rfl) ?_
  refine lv_istore (lv' := [(4, .int x3), (0, .ref (E.1 55)), (1, .ref (E.1 9)), (2, .ref (E.1 k2)), (3, .int x3)]) X.1.1 X.1.2.1 dX1_endOf_1 hl (by decide) rfl (fun ls hl => ?_)
  exact wfX1_endOf_3 X h2 F x3 μ H locs ls hf hW hS (lv_sub hl [1, 2, 3, 0] rfl)
-- OvenHouse$Loaves.become
def rmX3_become : Room := { frames := 1, cells := 0, slots := 0, locals := 18 }
set_option maxRecDepth 100000 in
set_option maxHeartbeats 4000000 in
theorem ctfX3_become {l : Launch} {E : Gv} (hD : Do E) (F : Nat) (k0 : Nat) (k1 : Nat) (h0 : isLv k0) (h1 : isLv k1) (μ : Mem) : CtV l yX3_become ((Cond.code yX3_become cX3_become 2 none) :: GG) rmX3_become E [.ref (E.1 k0), .ref (E.1 k1)] μ (fX3_become F k0 k1 μ) := by
  intro u hf
  refine of_entry (cc := cX3_become) (maxL := 2) (ret := none) (by decide +kernel) rfl hD (Nat.le_of_ble_eq_true rfl) (fun p e s m args below meth c X H locs hW hS ls hl => ?_)
  have hl : lv_has ls 2 [(0, .ref (E.1 k0)), (1, .ref (E.1 k1))] := hl
  unfold fX3_become at hf
  refine lv_aload_n X.1.1 X.1.2.1 dX3_become_0 rfl (lv_at hl 0 rfl) ?_
  refine lv_aload_n X.1.1 X.1.2.1 dX3_become_1 rfl (lv_at hl 1 rfl) ?_
  refine e_geti X hW (C := RX3) (T := TX3) (N := 7) (j := 6) (by rw [h1.2.1]; rfl) h1.1 inX3 (by decide) (by rw [h1.2.1]; decide) (by rw [h1.2.1]; rfl) rfl mw_1_70 dX3_become_2 ?_
  refine e_put X hW hS (C := RX3) (T := TX3) (N := 7) (j := 6) (tyF := tyX3) (by rw [h0.2.1]; rfl) h0.1 inX3 tyX3_ok nmX3 (by decide) (by rw [h0.2.1]; decide) (by rw [h0.2.1]; rfl) rfl mw_1_70 rfl rfl rfl dX3_become_5 hf (fun m1 H locs hf hW hS => ?_)
  refine lv_aload_n X.1.1 X.1.2.1 dX3_become_8 rfl (lv_at hl 1 rfl) ?_
  refine e_getr X hW (C := RX3) (T := TX3) (N := 7) (j := 0) (by rw [h1.2.1]; rfl) h1.1 inX3 (by decide) (by rw [h1.2.1]; decide) (by rw [h1.2.1]; rfl) (t := (k1 + 1 + 0)) (h1.2.2 0 (by decide)).1 rfl mw_1_57 dX3_become_9 ?_
  refine lv_iconst (v := 0) X.1.1 X.1.2.1 dX3_become_12 (by decide) ?_
  refine lv_aload_n X.1.1 X.1.2.1 dX3_become_13 rfl (lv_at hl 0 rfl) ?_
  refine e_getr X hW (C := RX3) (T := TX3) (N := 7) (j := 0) (by rw [h0.2.1]; rfl) h0.1 inX3 (by decide) (by rw [h0.2.1]; decide) (by rw [h0.2.1]; rfl) (t := (k0 + 1 + 0)) (h0.2.2 0 (by decide)).1 rfl mw_1_57 dX3_become_14 ?_
  refine lv_iconst (v := 0) X.1.1 X.1.2.1 dX3_become_17 (by decide) ?_
  refine lv_aload_n X.1.1 X.1.2.1 dX3_become_18 rfl (lv_at hl 0 rfl) ?_
  refine e_geti X hW (C := RX3) (T := TX3) (N := 7) (j := 6) (by rw [h0.2.1]; rfl) h0.1 inX3 (by decide) (by rw [h0.2.1]; decide) (by rw [h0.2.1]; rfl) rfl mw_1_70 dX3_become_19 ?_
  refine e_cpy X hl.1 hW hS mw_2_120 mw_2_100 mw_2_99 mw_1_12 (h1.2.2 0 (by decide)).2.1 (h0.2.2 0 (by decide)).2.1 (h1.2.2 0 (by decide)).2.2.1 (h0.2.2 0 (by decide)).2.2.1 ⟨Nat.le_of_ble_eq_true rfl, Nat.le_of_ble_eq_true rfl⟩ dX3_become_22 hf (fun m2 H locs hf hW hS => ?_)
  refine lv_aload_n X.1.1 X.1.2.1 dX3_become_25 rfl (lv_at hl 1 rfl) ?_
  refine e_getr X hW (C := RX3) (T := TX3) (N := 7) (j := 1) (by rw [h1.2.1]; rfl) h1.1 inX3 (by decide) (by rw [h1.2.1]; decide) (by rw [h1.2.1]; rfl) (t := (k1 + 1 + 1)) (h1.2.2 1 (by decide)).1 rfl mw_1_60 dX3_become_26 ?_
  refine lv_iconst (v := 0) X.1.1 X.1.2.1 dX3_become_29 (by decide) ?_
  refine lv_aload_n X.1.1 X.1.2.1 dX3_become_30 rfl (lv_at hl 0 rfl) ?_
  refine e_getr X hW (C := RX3) (T := TX3) (N := 7) (j := 1) (by rw [h0.2.1]; rfl) h0.1 inX3 (by decide) (by rw [h0.2.1]; decide) (by rw [h0.2.1]; rfl) (t := (k0 + 1 + 1)) (h0.2.2 1 (by decide)).1 rfl mw_1_60 dX3_become_31 ?_
  refine lv_iconst (v := 0) X.1.1 X.1.2.1 dX3_become_34 (by decide) ?_
  refine lv_aload_n X.1.1 X.1.2.1 dX3_become_35 rfl (lv_at hl 0 rfl) ?_
  refine e_geti X hW (C := RX3) (T := TX3) (N := 7) (j := 6) (by rw [h0.2.1]; rfl) h0.1 inX3 (by decide) (by rw [h0.2.1]; decide) (by rw [h0.2.1]; rfl) rfl mw_1_70 dX3_become_36 ?_
  refine e_cpy X hl.1 hW hS mw_2_120 mw_2_100 mw_2_99 mw_1_12 (h1.2.2 1 (by decide)).2.1 (h0.2.2 1 (by decide)).2.1 (h1.2.2 1 (by decide)).2.2.1 (h0.2.2 1 (by decide)).2.2.1 ⟨Nat.le_of_ble_eq_true rfl, Nat.le_of_ble_eq_true rfl⟩ dX3_become_39 hf (fun m3 H locs hf hW hS => ?_)
  refine lv_aload_n X.1.1 X.1.2.1 dX3_become_42 rfl (lv_at hl 1 rfl) ?_
  refine e_getr X hW (C := RX3) (T := TX3) (N := 7) (j := 2) (by rw [h1.2.1]; rfl) h1.1 inX3 (by decide) (by rw [h1.2.1]; decide) (by rw [h1.2.1]; rfl) (t := (k1 + 1 + 2)) (h1.2.2 2 (by decide)).1 rfl mw_1_63 dX3_become_43 ?_
  refine lv_iconst (v := 0) X.1.1 X.1.2.1 dX3_become_46 (by decide) ?_
  refine lv_aload_n X.1.1 X.1.2.1 dX3_become_47 rfl (lv_at hl 0 rfl) ?_
  refine e_getr X hW (C := RX3) (T := TX3) (N := 7) (j := 2) (by rw [h0.2.1]; rfl) h0.1 inX3 (by decide) (by rw [h0.2.1]; decide) (by rw [h0.2.1]; rfl) (t := (k0 + 1 + 2)) (h0.2.2 2 (by decide)).1 rfl mw_1_63 dX3_become_48 ?_
  refine lv_iconst (v := 0) X.1.1 X.1.2.1 dX3_become_51 (by decide) ?_
  refine lv_aload_n X.1.1 X.1.2.1 dX3_become_52 rfl (lv_at hl 0 rfl) ?_
  refine e_geti X hW (C := RX3) (T := TX3) (N := 7) (j := 6) (by rw [h0.2.1]; rfl) h0.1 inX3 (by decide) (by rw [h0.2.1]; decide) (by rw [h0.2.1]; rfl) rfl mw_1_70 dX3_become_53 ?_
  refine e_cpy X hl.1 hW hS mw_2_120 mw_2_100 mw_2_99 mw_1_12 (h1.2.2 2 (by decide)).2.1 (h0.2.2 2 (by decide)).2.1 (h1.2.2 2 (by decide)).2.2.1 (h0.2.2 2 (by decide)).2.2.1 ⟨Nat.le_of_ble_eq_true rfl, Nat.le_of_ble_eq_true rfl⟩ dX3_become_56 hf (fun m4 H locs hf hW hS => ?_)
  refine lv_aload_n X.1.1 X.1.2.1 dX3_become_59 rfl (lv_at hl 1 rfl) ?_
  refine e_getr X hW (C := RX3) (T := TX3) (N := 7) (j := 3) (by rw [h1.2.1]; rfl) h1.1 inX3 (by decide) (by rw [h1.2.1]; decide) (by rw [h1.2.1]; rfl) (t := (k1 + 1 + 3)) (h1.2.2 3 (by decide)).1 rfl mw_1_65 dX3_become_60 ?_
  refine lv_iconst (v := 0) X.1.1 X.1.2.1 dX3_become_63 (by decide) ?_
  refine lv_aload_n X.1.1 X.1.2.1 dX3_become_64 rfl (lv_at hl 0 rfl) ?_
  refine e_getr X hW (C := RX3) (T := TX3) (N := 7) (j := 3) (by rw [h0.2.1]; rfl) h0.1 inX3 (by decide) (by rw [h0.2.1]; decide) (by rw [h0.2.1]; rfl) (t := (k0 + 1 + 3)) (h0.2.2 3 (by decide)).1 rfl mw_1_65 dX3_become_65 ?_
  refine lv_iconst (v := 0) X.1.1 X.1.2.1 dX3_become_68 (by decide) ?_
  refine lv_aload_n X.1.1 X.1.2.1 dX3_become_69 rfl (lv_at hl 0 rfl) ?_
  refine e_geti X hW (C := RX3) (T := TX3) (N := 7) (j := 6) (by rw [h0.2.1]; rfl) h0.1 inX3 (by decide) (by rw [h0.2.1]; decide) (by rw [h0.2.1]; rfl) rfl mw_1_70 dX3_become_70 ?_
  refine e_cpy X hl.1 hW hS mw_2_120 mw_2_100 mw_2_99 mw_1_12 (h1.2.2 3 (by decide)).2.1 (h0.2.2 3 (by decide)).2.1 (h1.2.2 3 (by decide)).2.2.1 (h0.2.2 3 (by decide)).2.2.1 ⟨Nat.le_of_ble_eq_true rfl, Nat.le_of_ble_eq_true rfl⟩ dX3_become_73 hf (fun m5 H locs hf hW hS => ?_)
  refine lv_aload_n X.1.1 X.1.2.1 dX3_become_76 rfl (lv_at hl 1 rfl) ?_
  refine e_getr X hW (C := RX3) (T := TX3) (N := 7) (j := 4) (by rw [h1.2.1]; rfl) h1.1 inX3 (by decide) (by rw [h1.2.1]; decide) (by rw [h1.2.1]; rfl) (t := (k1 + 1 + 4)) (h1.2.2 4 (by decide)).1 rfl mw_1_67 dX3_become_77 ?_
  refine lv_iconst (v := 0) X.1.1 X.1.2.1 dX3_become_80 (by decide) ?_
  refine lv_aload_n X.1.1 X.1.2.1 dX3_become_81 rfl (lv_at hl 0 rfl) ?_
  refine e_getr X hW (C := RX3) (T := TX3) (N := 7) (j := 4) (by rw [h0.2.1]; rfl) h0.1 inX3 (by decide) (by rw [h0.2.1]; decide) (by rw [h0.2.1]; rfl) (t := (k0 + 1 + 4)) (h0.2.2 4 (by decide)).1 rfl mw_1_67 dX3_become_82 ?_
  refine lv_iconst (v := 0) X.1.1 X.1.2.1 dX3_become_85 (by decide) ?_
  refine lv_aload_n X.1.1 X.1.2.1 dX3_become_86 rfl (lv_at hl 0 rfl) ?_
  refine e_geti X hW (C := RX3) (T := TX3) (N := 7) (j := 6) (by rw [h0.2.1]; rfl) h0.1 inX3 (by decide) (by rw [h0.2.1]; decide) (by rw [h0.2.1]; rfl) rfl mw_1_70 dX3_become_87 ?_
  refine e_cpy X hl.1 hW hS mw_2_120 mw_2_100 mw_2_99 mw_1_12 (h1.2.2 4 (by decide)).2.1 (h0.2.2 4 (by decide)).2.1 (h1.2.2 4 (by decide)).2.2.1 (h0.2.2 4 (by decide)).2.2.1 ⟨Nat.le_of_ble_eq_true rfl, Nat.le_of_ble_eq_true rfl⟩ dX3_become_90 hf (fun m6 H locs hf hW hS => ?_)
  exact e_vret X hW hS hf dX3_become_93
-- OvenHouse$History.keep
def rmX2_keep : Room := { frames := 2, cells := 0, slots := 0, locals := 39 }
set_option maxRecDepth 100000 in
set_option maxHeartbeats 4000000 in
theorem wfX2_keep_34 {p : Program} {l : Launch} {e : Env} {s : State} {m : MethodId} {args : Array Value} {below : List Frame} {meth : Method} {c : Code} {E : Gv} {F : Nat}  {u : Mem} (X : Fx p m c cX2_keep 2 s args (Cond.code yX2_keep cX2_keep 2 none) "OvenHouse$History" meth none E)  (z0 : Int32) (μ : Mem) (H : Heap) (locs : List Loc) (ls : Array Slot) (hf : fX2_keep_34 F   z0 μ = some u) (hW : Wo E μ H) (hS : va_S (AE E) s.heap H locs) (hl : lv_has ls 2 [(0, .ref (E.1 16))]) : W0 p l e rmX2_keep s m args below meth c H locs (QcN E u) E (F0 m 34 ls [.int z0, .ref (E.1 16)]) := by
  unfold fX2_keep_34 at hf
  refine e_put X hW hS (C := RX2) (T := TX2) (N := 3) (j := 1) (tyF := tyX2) rfl (by decide) inX2 tyX2_ok nmX2 (by decide) (by decide) rfl rfl mw_1_98 rfl rfl rfl dX2_keep_34 hf (fun m3 H locs hf hW hS => ?_)
  refine lv_aload_n X.1.1 X.1.2.1 dX2_keep_37 rfl (lv_at hl 0 rfl) ?_
  refine lv_aload_n X.1.1 X.1.2.1 dX2_keep_38 rfl (lv_at hl 0 rfl) ?_
  refine e_geti X hW (C := RX2) (T := TX2) (N := 3) (j := 2) rfl (by decide) inX2 (by decide) (by decide) rfl rfl mw_1_99 dX2_keep_39 ?_
  refine lv_iconst (v := 1) X.1.1 X.1.2.1 dX2_keep_42 (by decide) ?_
  refine lv_iadd X.1.1 X.1.2.1 dX2_keep_43 ?_
  refine lv_iconst (v := 5) X.1.1 X.1.2.1 dX2_keep_44 (by decide) ?_
  refine e_min X hl.1 mw_2_121 mw_2_122 mw_1_13 mw_2_123 ⟨Nat.le_of_ble_eq_true rfl, Nat.le_of_ble_eq_true rfl⟩ ⟨Nat.zero_le _, Nat.zero_le _⟩ dX2_keep_45 ?_
  refine e_put X hW hS (C := RX2) (T := TX2) (N := 3) (j := 2) (tyF := tyX2) rfl (by decide) inX2 tyX2_ok nmX2 (by decide) (by decide) rfl rfl mw_1_99 rfl rfl rfl dX2_keep_48 hf (fun m4 H locs hf hW hS => ?_)
  exact e_vret X hW hS hf dX2_keep_51
set_option maxRecDepth 100000 in
set_option maxHeartbeats 4000000 in
theorem ctfX2_keep {l : Launch} {E : Gv} (hD : Do E) (F : Nat)  (μ : Mem) : CtV l yX2_keep ((Cond.code yX2_keep cX2_keep 2 none) :: GG) rmX2_keep E [.ref (E.1 16), .ref (E.1 9)] μ (fX2_keep F μ) := by
  intro u hf
  refine of_entry (cc := cX2_keep) (maxL := 2) (ret := none) (by decide +kernel) rfl hD (Nat.le_of_ble_eq_true rfl) (fun p e s m args below meth c X H locs hW hS ls hl => ?_)
  have hl : lv_has ls 2 [(0, .ref (E.1 16)), (1, .ref (E.1 9))] := hl
  unfold fX2_keep at hf
  refine lv_aload_n X.1.1 X.1.2.1 dX2_keep_0 rfl (lv_at hl 0 rfl) ?_
  refine e_getr X hW (C := RX2) (T := TX2) (N := 3) (j := 0) rfl (by decide) inX2 (by decide) (by decide) rfl (t := 17) rfl rfl mw_1_97 dX2_keep_1 ?_
  refine lv_aload_n X.1.1 X.1.2.1 dX2_keep_4 rfl (lv_at hl 0 rfl) ?_
  refine e_geti X hW (C := RX2) (T := TX2) (N := 3) (j := 1) rfl (by decide) inX2 (by decide) (by decide) rfl rfl mw_1_98 dX2_keep_5 ?_
  refine e_rld (t0 := 2) (c9 := 12) X hW (by decide) (by decide) rfl rfl rfl dX2_keep_8 hf (fun t1 qt1 hf => ?_)
  replace qt1 := rowSlots qt1
  refine lv_aload_n X.1.1 X.1.2.1 dX2_keep_9 rfl (lv_at hl 1 rfl) ?_
  refine e_vv (rest := []) (As := [.ref (E.1 9)]) X hl.1 hW hS (C := RX3) (T := TX3) (N := 7) (by rw [qt1.2.1]; rfl) qt1.1 (ctfX3_become X.2.2.2.2 F t1 9 qt1 isLv_9 μ) (cwV (rm := rmX3_become) 1 X.1.2.2.2.2 (gd_V mw_2_116 mw_2_117 mw_2_118 mw_1_4 mw_2_119) rfl rfl rfl (by decide +kernel) ⟨Nat.le_of_ble_eq_true rfl, Nat.le_of_ble_eq_true rfl⟩) rfl rfl (Nat.le_of_ble_eq_true rfl) dX2_keep_10 ⟨Nat.zero_le _, Nat.zero_le _⟩ hf (fun m2 H locs hf hW hS => ?_)
  refine lv_aload_n X.1.1 X.1.2.1 dX2_keep_13 rfl (lv_at hl 0 rfl) ?_
  refine lv_aload_n X.1.1 X.1.2.1 dX2_keep_14 rfl (lv_at hl 0 rfl) ?_
  refine e_geti X hW (C := RX2) (T := TX2) (N := 3) (j := 1) rfl (by decide) inX2 (by decide) (by decide) rfl rfl mw_1_98 dX2_keep_15 ?_
  refine lv_iconst (v := 1) X.1.1 X.1.2.1 dX2_keep_18 (by decide) ?_
  refine lv_iadd X.1.1 X.1.2.1 dX2_keep_19 ?_
  refine lv_iconst (v := 5) X.1.1 X.1.2.1 dX2_keep_20 (by decide) ?_
  refine lv_icmp_ge (tgt := 33) X.1.1 X.1.2.1 dX2_keep_21 (by decide) (fun c21 => ?_) (fun c21 => ?_)
  · rw [if_pos c21] at hf
    refine lv_iconst (v := 0) X.1.1 X.1.2.1 dX2_keep_33 (by decide) ?_
    exact wfX2_keep_34 X  0 m2 H locs ls hf hW hS (lv_sub hl [0] rfl)
  · rw [if_neg c21] at hf
    refine lv_aload_n X.1.1 X.1.2.1 dX2_keep_24 rfl (lv_at hl 0 rfl) ?_
    refine e_geti X hW (C := RX2) (T := TX2) (N := 3) (j := 1) rfl (by decide) inX2 (by decide) (by decide) rfl rfl mw_1_98 dX2_keep_25 ?_
    refine lv_iconst (v := 1) X.1.1 X.1.2.1 dX2_keep_28 (by decide) ?_
    refine lv_iadd X.1.1 X.1.2.1 dX2_keep_29 ?_
    refine lv_goto (tgt := 34) X.1.1 X.1.2.1 dX2_keep_30 (by decide) ?_
    exact wfX2_keep_34 X  ((m2 16 1) + 1) m2 H locs ls hf hW hS (lv_sub hl [0] rfl)
-- OvenHouse$History.giveBack
def rmX2_giveBack : Room := { frames := 2, cells := 0, slots := 0, locals := 39 }
set_option maxRecDepth 100000 in
set_option maxHeartbeats 4000000 in
theorem wfX2_giveBack_18 {p : Program} {l : Launch} {e : Env} {s : State} {m : MethodId} {args : Array Value} {below : List Frame} {meth : Method} {c : Code} {E : Gv} {F : Nat}  {u : Mem} (X : Fx p m c cX2_giveBack 2 s args (Cond.code yX2_giveBack cX2_giveBack 2 none) "OvenHouse$History" meth none E)  (z0 : Int32) (μ : Mem) (H : Heap) (locs : List Loc) (ls : Array Slot) (hf : fX2_giveBack_18 F   z0 μ = some u) (hW : Wo E μ H) (hS : va_S (AE E) s.heap H locs) (hl : lv_has ls 2 [(0, .ref (E.1 16)), (1, .ref (E.1 9))]) : W0 p l e rmX2_giveBack s m args below meth c H locs (QcN E u) E (F0 m 18 ls [.int z0, .ref (E.1 16)]) := by
  unfold fX2_giveBack_18 at hf
  refine e_put X hW hS (C := RX2) (T := TX2) (N := 3) (j := 1) (tyF := tyX2) rfl (by decide) inX2 tyX2_ok nmX2 (by decide) (by decide) rfl rfl mw_1_98 rfl rfl rfl dX2_giveBack_18 hf (fun m1 H locs hf hW hS => ?_)
  refine lv_aload_n X.1.1 X.1.2.1 dX2_giveBack_21 rfl (lv_at hl 0 rfl) ?_
  refine lv_dup X.1.1 X.1.2.1 dX2_giveBack_22 rfl ?_
  refine e_geti X hW (C := RX2) (T := TX2) (N := 3) (j := 2) rfl (by decide) inX2 (by decide) (by decide) rfl rfl mw_1_99 dX2_giveBack_23 ?_
  refine lv_iconst (v := 1) X.1.1 X.1.2.1 dX2_giveBack_26 (by decide) ?_
  refine lv_isub X.1.1 X.1.2.1 dX2_giveBack_27 ?_
  refine e_put X hW hS (C := RX2) (T := TX2) (N := 3) (j := 2) (tyF := tyX2) rfl (by decide) inX2 tyX2_ok nmX2 (by decide) (by decide) rfl rfl mw_1_99 rfl rfl rfl dX2_giveBack_28 hf (fun m2 H locs hf hW hS => ?_)
  refine lv_aload_n X.1.1 X.1.2.1 dX2_giveBack_31 rfl (lv_at hl 1 rfl) ?_
  refine lv_aload_n X.1.1 X.1.2.1 dX2_giveBack_32 rfl (lv_at hl 0 rfl) ?_
  refine e_getr X hW (C := RX2) (T := TX2) (N := 3) (j := 0) rfl (by decide) inX2 (by decide) (by decide) rfl (t := 17) rfl rfl mw_1_97 dX2_giveBack_33 ?_
  refine lv_aload_n X.1.1 X.1.2.1 dX2_giveBack_36 rfl (lv_at hl 0 rfl) ?_
  refine e_geti X hW (C := RX2) (T := TX2) (N := 3) (j := 1) rfl (by decide) inX2 (by decide) (by decide) rfl rfl mw_1_98 dX2_giveBack_37 ?_
  refine e_rld (t0 := 2) (c9 := 12) X hW (by decide) (by decide) rfl rfl rfl dX2_giveBack_40 hf (fun t3 qt3 hf => ?_)
  replace qt3 := rowSlots qt3
  refine e_vv (rest := []) (As := [.ref (E.1 t3)]) X hl.1 hW hS (C := RX3) (T := TX3) (N := 7) rfl (by decide) (ctfX3_become X.2.2.2.2 F 9 t3 isLv_9 qt3 m2) (cwV (rm := rmX3_become) 1 X.1.2.2.2.2 (gd_V mw_2_116 mw_2_117 mw_2_118 mw_1_4 mw_2_119) rfl rfl rfl (by decide +kernel) ⟨Nat.le_of_ble_eq_true rfl, Nat.le_of_ble_eq_true rfl⟩) rfl rfl (Nat.le_of_ble_eq_true rfl) dX2_giveBack_41 ⟨Nat.zero_le _, Nat.zero_le _⟩ hf (fun m4 H locs hf hW hS => ?_)
  exact e_vret X hW hS hf dX2_giveBack_44
set_option maxRecDepth 100000 in
set_option maxHeartbeats 4000000 in
theorem ctfX2_giveBack {l : Launch} {E : Gv} (hD : Do E) (F : Nat)  (μ : Mem) : CtV l yX2_giveBack ((Cond.code yX2_giveBack cX2_giveBack 2 none) :: GG) rmX2_giveBack E [.ref (E.1 16), .ref (E.1 9)] μ (fX2_giveBack F μ) := by
  intro u hf
  refine of_entry (cc := cX2_giveBack) (maxL := 2) (ret := none) (by decide +kernel) rfl hD (Nat.le_of_ble_eq_true rfl) (fun p e s m args below meth c X H locs hW hS ls hl => ?_)
  have hl : lv_has ls 2 [(0, .ref (E.1 16)), (1, .ref (E.1 9))] := hl
  unfold fX2_giveBack at hf
  refine lv_aload_n X.1.1 X.1.2.1 dX2_giveBack_0 rfl (lv_at hl 0 rfl) ?_
  refine lv_aload_n X.1.1 X.1.2.1 dX2_giveBack_1 rfl (lv_at hl 0 rfl) ?_
  refine e_geti X hW (C := RX2) (T := TX2) (N := 3) (j := 1) rfl (by decide) inX2 (by decide) (by decide) rfl rfl mw_1_98 dX2_giveBack_2 ?_
  refine lv_if_le (tgt := 17) X.1.1 X.1.2.1 dX2_giveBack_5 (by decide) (fun c5 => ?_) (fun c5 => ?_)
  · rw [if_pos c5] at hf
    refine lv_iconst (v := 4) X.1.1 X.1.2.1 dX2_giveBack_17 (by decide) ?_
    exact wfX2_giveBack_18 X  4 μ H locs ls hf hW hS (lv_sub hl [0, 1] rfl)
  · rw [if_neg c5] at hf
    refine lv_aload_n X.1.1 X.1.2.1 dX2_giveBack_8 rfl (lv_at hl 0 rfl) ?_
    refine e_geti X hW (C := RX2) (T := TX2) (N := 3) (j := 1) rfl (by decide) inX2 (by decide) (by decide) rfl rfl mw_1_98 dX2_giveBack_9 ?_
    refine lv_iconst (v := 1) X.1.1 X.1.2.1 dX2_giveBack_12 (by decide) ?_
    refine lv_isub X.1.1 X.1.2.1 dX2_giveBack_13 ?_
    refine lv_goto (tgt := 18) X.1.1 X.1.2.1 dX2_giveBack_14 (by decide) ?_
    exact wfX2_giveBack_18 X  ((μ 16 1) - 1) μ H locs ls hf hW hS (lv_sub hl [0, 1] rfl)
-- OvenHouse$Loaves.has
def rmX3_has : Room := { frames := 0, cells := 0, slots := 0, locals := 0 }
set_option maxRecDepth 100000 in
set_option maxHeartbeats 4000000 in
theorem ctfX3_has {l : Launch} {E : Gv} (hD : Do E) (F : Nat) (x1 : Int32)  (μ : Mem) : CtI l yX3_has ((Cond.code yX3_has cX3_has 2 (some .boolean)) :: GG) rmX3_has E [.ref (E.1 9), .int x1] μ (fX3_has F x1 μ) := by
  intro r u hf
  refine of_entry (cc := cX3_has) (maxL := 2) (ret := (some .boolean)) (by decide +kernel) rfl hD (Nat.le_of_ble_eq_true rfl) (fun p e s m args below meth c X H locs hW hS ls hl => ?_)
  have hl : lv_has ls 2 [(0, .ref (E.1 9)), (1, .int x1)] := hl
  unfold fX3_has at hf
  refine lv_iload_n X.1.1 X.1.2.1 dX3_has_0 rfl (lv_at hl 1 rfl) ?_
  refine lv_if_lt (tgt := 16) X.1.1 X.1.2.1 dX3_has_1 (by decide) (fun c1 => ?_) (fun c1 => ?_)
  · rw [if_pos c1] at hf
    refine lv_iconst (v := 0) X.1.1 X.1.2.1 dX3_has_16 (by decide) ?_
    exact e_zret X hW hS hf dX3_has_17
  · rw [if_neg c1] at hf
    refine lv_iload_n X.1.1 X.1.2.1 dX3_has_4 rfl (lv_at hl 1 rfl) ?_
    refine lv_aload_n X.1.1 X.1.2.1 dX3_has_5 rfl (lv_at hl 0 rfl) ?_
    refine e_geti X hW (C := RX3) (T := TX3) (N := 7) (j := 6) rfl (by decide) inX3 (by decide) (by decide) rfl rfl mw_1_70 dX3_has_6 ?_
    refine lv_icmp_ge (tgt := 16) X.1.1 X.1.2.1 dX3_has_9 (by decide) (fun c9 => ?_) (fun c9 => ?_)
    · rw [if_pos c9] at hf
      refine lv_iconst (v := 0) X.1.1 X.1.2.1 dX3_has_16 (by decide) ?_
      exact e_zret X hW hS hf dX3_has_17
    · rw [if_neg c9] at hf
      refine lv_iconst (v := 1) X.1.1 X.1.2.1 dX3_has_12 (by decide) ?_
      refine lv_goto (tgt := 17) X.1.1 X.1.2.1 dX3_has_13 (by decide) ?_
      exact e_zret X hW hS hf dX3_has_17
-- OvenHouse$Loaves.add
def rmX3_add : Room := { frames := 0, cells := 0, slots := 0, locals := 0 }
set_option maxRecDepth 100000 in
set_option maxHeartbeats 4000000 in
theorem ctfX3_add {l : Launch} {E : Gv} (hD : Do E) (F : Nat) (x1 : Int32) (x2 : Int32)  (μ : Mem) : CtV l yX3_add ((Cond.code yX3_add cX3_add 3 none) :: GG) rmX3_add E [.ref (E.1 9), .int x1, .int x2] μ (fX3_add F x1 x2 μ) := by
  intro u hf
  refine of_entry (cc := cX3_add) (maxL := 3) (ret := none) (by decide +kernel) rfl hD (Nat.le_of_ble_eq_true rfl) (fun p e s m args below meth c X H locs hW hS ls hl => ?_)
  have hl : lv_has ls 3 [(0, .ref (E.1 9)), (1, .int x1), (2, .int x2)] := hl
  unfold fX3_add at hf
  refine lv_aload_n X.1.1 X.1.2.1 dX3_add_0 rfl (lv_at hl 0 rfl) ?_
  refine e_getr X hW (C := RX3) (T := TX3) (N := 7) (j := 0) rfl (by decide) inX3 (by decide) (by decide) rfl (t := 10) rfl rfl mw_1_57 dX3_add_1 ?_
  refine lv_aload_n X.1.1 X.1.2.1 dX3_add_4 rfl (lv_at hl 0 rfl) ?_
  refine e_geti X hW (C := RX3) (T := TX3) (N := 7) (j := 6) rfl (by decide) inX3 (by decide) (by decide) rfl rfl mw_1_70 dX3_add_5 ?_
  refine lv_iload_n X.1.1 X.1.2.1 dX3_add_8 rfl (lv_at hl 1 rfl) ?_
  refine e_ist X hW hS (by decide) rfl dX3_add_9 hf (fun m1 H locs hf hW hS => ?_)
  refine lv_aload_n X.1.1 X.1.2.1 dX3_add_10 rfl (lv_at hl 0 rfl) ?_
  refine e_getr X hW (C := RX3) (T := TX3) (N := 7) (j := 1) rfl (by decide) inX3 (by decide) (by decide) rfl (t := 11) rfl rfl mw_1_60 dX3_add_11 ?_
  refine lv_aload_n X.1.1 X.1.2.1 dX3_add_14 rfl (lv_at hl 0 rfl) ?_
  refine e_geti X hW (C := RX3) (T := TX3) (N := 7) (j := 6) rfl (by decide) inX3 (by decide) (by decide) rfl rfl mw_1_70 dX3_add_15 ?_
  refine lv_iload_n X.1.1 X.1.2.1 dX3_add_18 rfl (lv_at hl 2 rfl) ?_
  refine e_ist X hW hS (by decide) rfl dX3_add_19 hf (fun m2 H locs hf hW hS => ?_)
  refine lv_aload_n X.1.1 X.1.2.1 dX3_add_20 rfl (lv_at hl 0 rfl) ?_
  refine e_getr X hW (C := RX3) (T := TX3) (N := 7) (j := 2) rfl (by decide) inX3 (by decide) (by decide) rfl (t := 12) rfl rfl mw_1_63 dX3_add_21 ?_
  refine lv_aload_n X.1.1 X.1.2.1 dX3_add_24 rfl (lv_at hl 0 rfl) ?_
  refine e_geti X hW (C := RX3) (T := TX3) (N := 7) (j := 6) rfl (by decide) inX3 (by decide) (by decide) rfl rfl mw_1_70 dX3_add_25 ?_
  refine lv_iconst (v := 0) X.1.1 X.1.2.1 dX3_add_28 (by decide) ?_
  refine e_ist X hW hS (by decide) rfl dX3_add_29 hf (fun m3 H locs hf hW hS => ?_)
  refine lv_aload_n X.1.1 X.1.2.1 dX3_add_30 rfl (lv_at hl 0 rfl) ?_
  refine e_getr X hW (C := RX3) (T := TX3) (N := 7) (j := 3) rfl (by decide) inX3 (by decide) (by decide) rfl (t := 13) rfl rfl mw_1_65 dX3_add_31 ?_
  refine lv_aload_n X.1.1 X.1.2.1 dX3_add_34 rfl (lv_at hl 0 rfl) ?_
  refine e_geti X hW (C := RX3) (T := TX3) (N := 7) (j := 6) rfl (by decide) inX3 (by decide) (by decide) rfl rfl mw_1_70 dX3_add_35 ?_
  refine lv_iconst (v := 0) X.1.1 X.1.2.1 dX3_add_38 (by decide) ?_
  refine e_ist X hW hS (by decide) rfl dX3_add_39 hf (fun m4 H locs hf hW hS => ?_)
  refine lv_aload_n X.1.1 X.1.2.1 dX3_add_40 rfl (lv_at hl 0 rfl) ?_
  refine e_getr X hW (C := RX3) (T := TX3) (N := 7) (j := 4) rfl (by decide) inX3 (by decide) (by decide) rfl (t := 14) rfl rfl mw_1_67 dX3_add_41 ?_
  refine lv_aload_n X.1.1 X.1.2.1 dX3_add_44 rfl (lv_at hl 0 rfl) ?_
  refine e_geti X hW (C := RX3) (T := TX3) (N := 7) (j := 6) rfl (by decide) inX3 (by decide) (by decide) rfl rfl mw_1_70 dX3_add_45 ?_
  refine lv_aload_n X.1.1 X.1.2.1 dX3_add_48 rfl (lv_at hl 0 rfl) ?_
  refine e_geti X hW (C := RX3) (T := TX3) (N := 7) (j := 6) rfl (by decide) inX3 (by decide) (by decide) rfl rfl mw_1_70 dX3_add_49 ?_
  refine e_ist X hW hS (by decide) rfl dX3_add_52 hf (fun m5 H locs hf hW hS => ?_)
  refine lv_aload_n X.1.1 X.1.2.1 dX3_add_53 rfl (lv_at hl 0 rfl) ?_
  refine lv_dup X.1.1 X.1.2.1 dX3_add_54 rfl ?_
  refine e_geti X hW (C := RX3) (T := TX3) (N := 7) (j := 6) rfl (by decide) inX3 (by decide) (by decide) rfl rfl mw_1_70 dX3_add_55 ?_
  refine lv_iconst (v := 1) X.1.1 X.1.2.1 dX3_add_58 (by decide) ?_
  refine lv_iadd X.1.1 X.1.2.1 dX3_add_59 ?_
  refine e_put X hW hS (C := RX3) (T := TX3) (N := 7) (j := 6) (tyF := tyX3) rfl (by decide) inX3 tyX3_ok nmX3 (by decide) (by decide) rfl rfl mw_1_70 rfl rfl rfl dX3_add_60 hf (fun m6 H locs hf hW hS => ?_)
  exact e_vret X hW hS hf dX3_add_63
-- OvenHouse$Loaves.kindOf
def rmX3_kindOf : Room := { frames := 0, cells := 0, slots := 0, locals := 0 }
set_option maxRecDepth 100000 in
set_option maxHeartbeats 4000000 in
theorem ctfX3_kindOf {l : Launch} {E : Gv} (hD : Do E) (F : Nat) (x1 : Int32)  (μ : Mem) : CtI l yX3_kindOf ((Cond.code yX3_kindOf cX3_kindOf 2 (some .int)) :: GG) rmX3_kindOf E [.ref (E.1 9), .int x1] μ (fX3_kindOf F x1 μ) := by
  intro r u hf
  refine of_entry (cc := cX3_kindOf) (maxL := 2) (ret := (some .int)) (by decide +kernel) rfl hD (Nat.le_of_ble_eq_true rfl) (fun p e s m args below meth c X H locs hW hS ls hl => ?_)
  have hl : lv_has ls 2 [(0, .ref (E.1 9)), (1, .int x1)] := hl
  unfold fX3_kindOf at hf
  refine lv_aload_n X.1.1 X.1.2.1 dX3_kindOf_0 rfl (lv_at hl 0 rfl) ?_
  refine e_getr X hW (C := RX3) (T := TX3) (N := 7) (j := 0) rfl (by decide) inX3 (by decide) (by decide) rfl (t := 10) rfl rfl mw_1_57 dX3_kindOf_1 ?_
  refine lv_iload_n X.1.1 X.1.2.1 dX3_kindOf_4 rfl (lv_at hl 1 rfl) ?_
  refine e_ild X hW (by decide) rfl dX3_kindOf_5 hf (fun v1 hf => ?_)
  refine lv_if_ne (tgt := 11) X.1.1 X.1.2.1 dX3_kindOf_6 (by decide) (fun c6 => ?_) (fun c6 => ?_)
  · rw [if_neg c6] at hf
    refine lv_aload_n X.1.1 X.1.2.1 dX3_kindOf_11 rfl (lv_at hl 0 rfl) ?_
    refine e_getr X hW (C := RX3) (T := TX3) (N := 7) (j := 1) rfl (by decide) inX3 (by decide) (by decide) rfl (t := 11) rfl rfl mw_1_60 dX3_kindOf_12 ?_
    refine lv_iload_n X.1.1 X.1.2.1 dX3_kindOf_15 rfl (lv_at hl 1 rfl) ?_
    refine e_ild X hW (by decide) rfl dX3_kindOf_16 hf (fun v2 hf => ?_)
    refine lv_if_ne (tgt := 22) X.1.1 X.1.2.1 dX3_kindOf_17 (by decide) (fun c17 => ?_) (fun c17 => ?_)
    · rw [if_neg c17] at hf
      refine lv_aload_n X.1.1 X.1.2.1 dX3_kindOf_22 rfl (lv_at hl 0 rfl) ?_
      refine e_getr X hW (C := RX3) (T := TX3) (N := 7) (j := 0) rfl (by decide) inX3 (by decide) (by decide) rfl (t := 10) rfl rfl mw_1_57 dX3_kindOf_23 ?_
      refine lv_iload_n X.1.1 X.1.2.1 dX3_kindOf_26 rfl (lv_at hl 1 rfl) ?_
      refine e_ild X hW (by decide) rfl dX3_kindOf_27 hf (fun v3 hf => ?_)
      refine lv_aload_n X.1.1 X.1.2.1 dX3_kindOf_28 rfl (lv_at hl 0 rfl) ?_
      refine e_getr X hW (C := RX3) (T := TX3) (N := 7) (j := 1) rfl (by decide) inX3 (by decide) (by decide) rfl (t := 11) rfl rfl mw_1_60 dX3_kindOf_29 ?_
      refine lv_iload_n X.1.1 X.1.2.1 dX3_kindOf_32 rfl (lv_at hl 1 rfl) ?_
      refine e_ild X hW (by decide) rfl dX3_kindOf_33 hf (fun v4 hf => ?_)
      refine lv_icmp_gt (tgt := 41) X.1.1 X.1.2.1 dX3_kindOf_34 (by decide) (fun c34 => ?_) (fun c34 => ?_)
      · rw [if_pos c34] at hf
        refine lv_iconst (v := 2) X.1.1 X.1.2.1 dX3_kindOf_41 (by decide) ?_
        exact e_iret X hW hS hf dX3_kindOf_42
      · rw [if_neg c34] at hf
        refine lv_iconst (v := 1) X.1.1 X.1.2.1 dX3_kindOf_37 (by decide) ?_
        refine lv_goto (tgt := 42) X.1.1 X.1.2.1 dX3_kindOf_38 (by decide) ?_
        exact e_iret X hW hS hf dX3_kindOf_42
    · rw [if_pos c17] at hf
      refine lv_iconst (v := 4) X.1.1 X.1.2.1 dX3_kindOf_20 (by decide) ?_
      exact e_iret X hW hS hf dX3_kindOf_21
  · rw [if_pos c6] at hf
    refine lv_iconst (v := 3) X.1.1 X.1.2.1 dX3_kindOf_9 (by decide) ?_
    exact e_iret X hW hS hf dX3_kindOf_10
-- OvenHouse$Loaves.placeOf
def rmX3_placeOf : Room := { frames := 0, cells := 0, slots := 0, locals := 0 }
set_option maxRecDepth 100000 in
set_option maxHeartbeats 4000000 in
theorem wfX3_placeOf_2_b {p : Program} {l : Launch} {e : Env} {s : State} {m : MethodId} {args : Array Value} {below : List Frame} {meth : Method} {c : Code} {E : Gv} {F : Nat}  {r : Int32} {u : Mem} (X : Fx p m c cX3_placeOf 3 s args (Cond.code yX3_placeOf cX3_placeOf 3 (some .int)) "OvenHouse$Loaves" meth (some .int) E)  (rec2 : Int32 → Int32 → Mem → Option (Int32 × Mem)) (hrec2 : ∀ (y1 : Int32) (y2 : Int32) (μ : Mem) (H : Heap) (locs : List Loc) (ls : Array Slot), rec2 y1 y2 μ = some (r, u) → Wo E μ H → va_S (AE E) s.heap H locs → lv_has ls 3 [(0, .ref (E.1 9)), (1, .int y1), (2, .int y2)] → W0 p l e rmX3_placeOf s m args below meth c H locs (QcI E r u) E (F0 m 2 ls [])) (y1 : Int32) (y2 : Int32) (μ : Mem) (H : Heap) (locs : List Loc) (ls : Array Slot) (hf : fX3_placeOf_2_b F  rec2 y1 y2 μ = some (r, u)) (hW : Wo E μ H) (hS : va_S (AE E) s.heap H locs) (hl : lv_has ls 3 [(0, .ref (E.1 9)), (1, .int y1), (2, .int y2)]) : W0 p l e rmX3_placeOf s m args below meth c H locs (QcI E r u) E (F0 m 2 ls []) := by
  unfold fX3_placeOf_2_b at hf
  refine lv_iload_n X.1.1 X.1.2.1 dX3_placeOf_2 rfl (lv_at hl 2 rfl) ?_
  refine lv_aload_n X.1.1 X.1.2.1 dX3_placeOf_3 rfl (lv_at hl 0 rfl) ?_
  refine e_geti X hW (C := RX3) (T := TX3) (N := 7) (j := 6) rfl (by decide) inX3 (by decide) (by decide) rfl rfl mw_1_70 dX3_placeOf_4 ?_
  refine lv_icmp_ge (tgt := 28) X.1.1 X.1.2.1 dX3_placeOf_7 (by decide) (fun c7 => ?_) (fun c7 => ?_)
  · rw [if_pos c7] at hf
    refine lv_iconst (v := (-1)) X.1.1 X.1.2.1 dX3_placeOf_28 (by decide) ?_
    exact e_iret X hW hS hf dX3_placeOf_29
  · rw [if_neg c7] at hf
    refine lv_aload_n X.1.1 X.1.2.1 dX3_placeOf_10 rfl (lv_at hl 0 rfl) ?_
    refine e_getr X hW (C := RX3) (T := TX3) (N := 7) (j := 4) rfl (by decide) inX3 (by decide) (by decide) rfl (t := 14) rfl rfl mw_1_67 dX3_placeOf_11 ?_
    refine lv_iload_n X.1.1 X.1.2.1 dX3_placeOf_14 rfl (lv_at hl 2 rfl) ?_
    refine e_ild X hW (by decide) rfl dX3_placeOf_15 hf (fun v1 hf => ?_)
    refine lv_iload_n X.1.1 X.1.2.1 dX3_placeOf_16 rfl (lv_at hl 1 rfl) ?_
    refine lv_icmp_ne (tgt := 22) X.1.1 X.1.2.1 dX3_placeOf_17 (by decide) (fun c17 => ?_) (fun c17 => ?_)
    · rw [if_neg c17] at hf
      refine lv_iinc (v := (y2 + 1)) (lv' := [(2, .int (y2 + 1)), (0, .ref (E.1 9)), (1, .int y1)]) X.1.1 X.1.2.1 dX3_placeOf_22 hl (k := 2) rfl rfl (by decide) rfl (fun ls hl => ?_)
      refine lv_goto (tgt := 2) X.1.1 X.1.2.1 dX3_placeOf_25 (by decide) ?_
      exact hrec2 y1 (y2 + 1) μ H locs ls hf hW hS (lv_sub hl [1, 2, 0] rfl)
    · rw [if_pos c17] at hf
      refine lv_iload_n X.1.1 X.1.2.1 dX3_placeOf_20 rfl (lv_at hl 2 rfl) ?_
      exact e_iret X hW hS hf dX3_placeOf_21
theorem wfX3_placeOf_2 {p : Program} {l : Launch} {e : Env} {s : State} {m : MethodId} {args : Array Value} {below : List Frame} {meth : Method} {c : Code} {E : Gv} {F : Nat}  {r : Int32} {u : Mem} (X : Fx p m c cX3_placeOf 3 s args (Cond.code yX3_placeOf cX3_placeOf 3 (some .int)) "OvenHouse$Loaves" meth (some .int) E)  (n : Nat) : ∀ (y1 : Int32) (y2 : Int32) (μ : Mem) (H : Heap) (locs : List Loc) (ls : Array Slot) (_ : fX3_placeOf_2 F   n y1 y2 μ = some (r, u)) (_ : Wo E μ H) (_ : va_S (AE E) s.heap H locs) (_ : lv_has ls 3 [(0, .ref (E.1 9)), (1, .int y1), (2, .int y2)]), W0 p l e rmX3_placeOf s m args below meth c H locs (QcI E r u) E (F0 m 2 ls []) := by
  induction n with
  | zero => intro y1 y2 μ H locs ls hf hW hS hl; cases hf
  | succ n ih => intro y1 y2 μ H locs ls hf hW hS hl; exact wfX3_placeOf_2_b X  _ ih y1 y2 μ H locs ls hf hW hS hl
set_option maxRecDepth 100000 in
set_option maxHeartbeats 4000000 in
theorem ctfX3_placeOf {l : Launch} {E : Gv} (hD : Do E) (F : Nat) (x1 : Int32)  (μ : Mem) : CtI l yX3_placeOf ((Cond.code yX3_placeOf cX3_placeOf 3 (some .int)) :: GG) rmX3_placeOf E [.ref (E.1 9), .int x1] μ (fX3_placeOf F x1 μ) := by
  intro r u hf
  refine of_entry (cc := cX3_placeOf) (maxL := 3) (ret := (some .int)) (by decide +kernel) rfl hD (Nat.le_of_ble_eq_true rfl) (fun p e s m args below meth c X H locs hW hS ls hl => ?_)
  have hl : lv_has ls 3 [(0, .ref (E.1 9)), (1, .int x1)] := hl
  unfold fX3_placeOf at hf
  refine lv_iconst (v := 0) X.1.1 X.1.2.1 dX3_placeOf_0 (by decide) ?_
  refine lv_istore_n (lv' := [(2, .int 0), (0, .ref (E.1 9)), (1, .int x1)]) X.1.1 X.1.2.1 dX3_placeOf_1 rfl hl (by decide) rfl (fun ls hl => ?_)
  exact wfX3_placeOf_2 X  F x1 0 μ H locs ls hf hW hS (lv_sub hl [1, 2, 0] rfl)
-- OvenHouse$Loaves.sum
def rmX3_sum : Room := { frames := 0, cells := 0, slots := 0, locals := 0 }
set_option maxRecDepth 100000 in
set_option maxHeartbeats 4000000 in
theorem wfX3_sum_4_b {p : Program} {l : Launch} {e : Env} {s : State} {m : MethodId} {args : Array Value} {below : List Frame} {meth : Method} {c : Code} {E : Gv} {F : Nat} {k1 : Nat} {r : Int32} {u : Mem} (X : Fx p m c cX3_sum 4 s args (Cond.code yX3_sum cX3_sum 4 (some .int)) "OvenHouse$Loaves" meth (some .int) E) (h1 : k1 < NC ∧ kd k1 = 10) (rec4 : Int32 → Int32 → Mem → Option (Int32 × Mem)) (hrec4 : ∀ (y2 : Int32) (y3 : Int32) (μ : Mem) (H : Heap) (locs : List Loc) (ls : Array Slot), rec4 y2 y3 μ = some (r, u) → Wo E μ H → va_S (AE E) s.heap H locs → lv_has ls 4 [(0, .ref (E.1 9)), (1, .ref (E.1 k1)), (2, .int y2), (3, .int y3)] → W0 p l e rmX3_sum s m args below meth c H locs (QcI E r u) E (F0 m 4 ls [])) (y2 : Int32) (y3 : Int32) (μ : Mem) (H : Heap) (locs : List Loc) (ls : Array Slot) (hf : fX3_sum_4_b F k1 rec4 y2 y3 μ = some (r, u)) (hW : Wo E μ H) (hS : va_S (AE E) s.heap H locs) (hl : lv_has ls 4 [(0, .ref (E.1 9)), (1, .ref (E.1 k1)), (2, .int y2), (3, .int y3)]) : W0 p l e rmX3_sum s m args below meth c H locs (QcI E r u) E (F0 m 4 ls []) := by
  unfold fX3_sum_4_b at hf
  refine lv_iload_n X.1.1 X.1.2.1 dX3_sum_4 rfl (lv_at hl 3 rfl) ?_
  refine lv_aload_n X.1.1 X.1.2.1 dX3_sum_5 rfl (lv_at hl 0 rfl) ?_
  refine e_geti X hW (C := RX3) (T := TX3) (N := 7) (j := 6) rfl (by decide) inX3 (by decide) (by decide) rfl rfl mw_1_70 dX3_sum_6 ?_
  refine lv_icmp_ge (tgt := 24) X.1.1 X.1.2.1 dX3_sum_9 (by decide) (fun c9 => ?_) (fun c9 => ?_)
  · rw [if_pos c9] at hf
    refine lv_iload_n X.1.1 X.1.2.1 dX3_sum_24 rfl (lv_at hl 2 rfl) ?_
    exact e_iret X hW hS hf dX3_sum_25
  · rw [if_neg c9] at hf
    refine lv_iload_n X.1.1 X.1.2.1 dX3_sum_12 rfl (lv_at hl 2 rfl) ?_
    refine lv_aload_n X.1.1 X.1.2.1 dX3_sum_13 rfl (lv_at hl 1 rfl) ?_
    refine lv_iload_n X.1.1 X.1.2.1 dX3_sum_14 rfl (lv_at hl 3 rfl) ?_
    refine e_ild X hW h1.1 h1.2 dX3_sum_15 hf (fun v1 hf => ?_)
    refine lv_iadd X.1.1 X.1.2.1 dX3_sum_16 ?_
    refine lv_istore_n (lv' := [(2, .int (y2 + v1)), (0, .ref (E.1 9)), (1, .ref (E.1 k1)), (3, .int y3)]) X.1.1 X.1.2.1 dX3_sum_17 rfl hl (by decide) rfl (fun ls hl => ?_)
    refine lv_iinc (v := (y3 + 1)) (lv' := [(3, .int (y3 + 1)), (2, .int (y2 + v1)), (0, .ref (E.1 9)), (1, .ref (E.1 k1))]) X.1.1 X.1.2.1 dX3_sum_18 hl (k := 3) rfl rfl (by decide) rfl (fun ls hl => ?_)
    refine lv_goto (tgt := 4) X.1.1 X.1.2.1 dX3_sum_21 (by decide) ?_
    exact hrec4 (y2 + v1) (y3 + 1) μ H locs ls hf hW hS (lv_sub hl [2, 3, 1, 0] rfl)
theorem wfX3_sum_4 {p : Program} {l : Launch} {e : Env} {s : State} {m : MethodId} {args : Array Value} {below : List Frame} {meth : Method} {c : Code} {E : Gv} {F : Nat} {k1 : Nat} {r : Int32} {u : Mem} (X : Fx p m c cX3_sum 4 s args (Cond.code yX3_sum cX3_sum 4 (some .int)) "OvenHouse$Loaves" meth (some .int) E) (h1 : k1 < NC ∧ kd k1 = 10) (n : Nat) : ∀ (y2 : Int32) (y3 : Int32) (μ : Mem) (H : Heap) (locs : List Loc) (ls : Array Slot) (_ : fX3_sum_4 F k1  n y2 y3 μ = some (r, u)) (_ : Wo E μ H) (_ : va_S (AE E) s.heap H locs) (_ : lv_has ls 4 [(0, .ref (E.1 9)), (1, .ref (E.1 k1)), (2, .int y2), (3, .int y3)]), W0 p l e rmX3_sum s m args below meth c H locs (QcI E r u) E (F0 m 4 ls []) := by
  induction n with
  | zero => intro y2 y3 μ H locs ls hf hW hS hl; cases hf
  | succ n ih => intro y2 y3 μ H locs ls hf hW hS hl; exact wfX3_sum_4_b X h1 _ ih y2 y3 μ H locs ls hf hW hS hl
set_option maxRecDepth 100000 in
set_option maxHeartbeats 4000000 in
theorem ctfX3_sum {l : Launch} {E : Gv} (hD : Do E) (F : Nat) (k1 : Nat) (h1 : k1 < NC ∧ kd k1 = 10) (μ : Mem) : CtI l yX3_sum ((Cond.code yX3_sum cX3_sum 4 (some .int)) :: GG) rmX3_sum E [.ref (E.1 9), .ref (E.1 k1)] μ (fX3_sum F k1 μ) := by
  intro r u hf
  refine of_entry (cc := cX3_sum) (maxL := 4) (ret := (some .int)) (by decide +kernel) rfl hD (Nat.le_of_ble_eq_true rfl) (fun p e s m args below meth c X H locs hW hS ls hl => ?_)
  have hl : lv_has ls 4 [(0, .ref (E.1 9)), (1, .ref (E.1 k1))] := hl
  unfold fX3_sum at hf
  refine lv_iconst (v := 0) X.1.1 X.1.2.1 dX3_sum_0 (by decide) ?_
  refine lv_istore_n (lv' := [(2, .int 0), (0, .ref (E.1 9)), (1, .ref (E.1 k1))]) X.1.1 X.1.2.1 dX3_sum_1 rfl hl (by decide) rfl (fun ls hl => ?_)
  refine lv_iconst (v := 0) X.1.1 X.1.2.1 dX3_sum_2 (by decide) ?_
  refine lv_istore_n (lv' := [(3, .int 0), (2, .int 0), (0, .ref (E.1 9)), (1, .ref (E.1 k1))]) X.1.1 X.1.2.1 dX3_sum_3 rfl hl (by decide) rfl (fun ls hl => ?_)
  exact wfX3_sum_4 X h1 F 0 0 μ H locs ls hf hW hS (lv_sub hl [2, 3, 1, 0] rfl)
-- OvenHouse$Loaves.leastOf
def rmX3_leastOf : Room := { frames := 1, cells := 0, slots := 0, locals := 13 }
set_option maxRecDepth 100000 in
set_option maxHeartbeats 4000000 in
theorem wfX3_leastOf_5_b {p : Program} {l : Launch} {e : Env} {s : State} {m : MethodId} {args : Array Value} {below : List Frame} {meth : Method} {c : Code} {E : Gv} {F : Nat} {k1 : Nat} {r : Int32} {u : Mem} (X : Fx p m c cX3_leastOf 4 s args (Cond.code yX3_leastOf cX3_leastOf 4 (some .int)) "OvenHouse$Loaves" meth (some .int) E) (h1 : k1 < NC ∧ kd k1 = 10) (rec5 : Int32 → Int32 → Mem → Option (Int32 × Mem)) (hrec5 : ∀ (y2 : Int32) (y3 : Int32) (μ : Mem) (H : Heap) (locs : List Loc) (ls : Array Slot), rec5 y2 y3 μ = some (r, u) → Wo E μ H → va_S (AE E) s.heap H locs → lv_has ls 4 [(0, .ref (E.1 9)), (1, .ref (E.1 k1)), (2, .int y2), (3, .int y3)] → W0 p l e rmX3_leastOf s m args below meth c H locs (QcI E r u) E (F0 m 5 ls [])) (y2 : Int32) (y3 : Int32) (μ : Mem) (H : Heap) (locs : List Loc) (ls : Array Slot) (hf : fX3_leastOf_5_b F k1 rec5 y2 y3 μ = some (r, u)) (hW : Wo E μ H) (hS : va_S (AE E) s.heap H locs) (hl : lv_has ls 4 [(0, .ref (E.1 9)), (1, .ref (E.1 k1)), (2, .int y2), (3, .int y3)]) : W0 p l e rmX3_leastOf s m args below meth c H locs (QcI E r u) E (F0 m 5 ls []) := by
  unfold fX3_leastOf_5_b at hf
  refine lv_iload_n X.1.1 X.1.2.1 dX3_leastOf_5 rfl (lv_at hl 3 rfl) ?_
  refine lv_aload_n X.1.1 X.1.2.1 dX3_leastOf_6 rfl (lv_at hl 0 rfl) ?_
  refine e_geti X hW (C := RX3) (T := TX3) (N := 7) (j := 6) rfl (by decide) inX3 (by decide) (by decide) rfl rfl mw_1_70 dX3_leastOf_7 ?_
  refine lv_icmp_ge (tgt := 27) X.1.1 X.1.2.1 dX3_leastOf_10 (by decide) (fun c10 => ?_) (fun c10 => ?_)
  · rw [if_pos c10] at hf
    refine lv_iload_n X.1.1 X.1.2.1 dX3_leastOf_27 rfl (lv_at hl 2 rfl) ?_
    exact e_iret X hW hS hf dX3_leastOf_28
  · rw [if_neg c10] at hf
    refine lv_iload_n X.1.1 X.1.2.1 dX3_leastOf_13 rfl (lv_at hl 2 rfl) ?_
    refine lv_aload_n X.1.1 X.1.2.1 dX3_leastOf_14 rfl (lv_at hl 1 rfl) ?_
    refine lv_iload_n X.1.1 X.1.2.1 dX3_leastOf_15 rfl (lv_at hl 3 rfl) ?_
    refine e_ild X hW h1.1 h1.2 dX3_leastOf_16 hf (fun v1 hf => ?_)
    refine e_min X hl.1 mw_3_9 mw_2_122 mw_1_13 mw_2_123 ⟨Nat.le_of_ble_eq_true rfl, Nat.le_of_ble_eq_true rfl⟩ ⟨Nat.zero_le _, Nat.zero_le _⟩ dX3_leastOf_17 ?_
    refine lv_istore_n (lv' := [(2, .int (imin y2 v1)), (0, .ref (E.1 9)), (1, .ref (E.1 k1)), (3, .int y3)]) X.1.1 X.1.2.1 dX3_leastOf_20 rfl hl (by decide) rfl (fun ls hl => ?_)
    refine lv_iinc (v := (y3 + 1)) (lv' := [(3, .int (y3 + 1)), (2, .int (imin y2 v1)), (0, .ref (E.1 9)), (1, .ref (E.1 k1))]) X.1.1 X.1.2.1 dX3_leastOf_21 hl (k := 3) rfl rfl (by decide) rfl (fun ls hl => ?_)
    refine lv_goto (tgt := 5) X.1.1 X.1.2.1 dX3_leastOf_24 (by decide) ?_
    exact hrec5 (imin y2 v1) (y3 + 1) μ H locs ls hf hW hS (lv_sub hl [2, 3, 1, 0] rfl)
theorem wfX3_leastOf_5 {p : Program} {l : Launch} {e : Env} {s : State} {m : MethodId} {args : Array Value} {below : List Frame} {meth : Method} {c : Code} {E : Gv} {F : Nat} {k1 : Nat} {r : Int32} {u : Mem} (X : Fx p m c cX3_leastOf 4 s args (Cond.code yX3_leastOf cX3_leastOf 4 (some .int)) "OvenHouse$Loaves" meth (some .int) E) (h1 : k1 < NC ∧ kd k1 = 10) (n : Nat) : ∀ (y2 : Int32) (y3 : Int32) (μ : Mem) (H : Heap) (locs : List Loc) (ls : Array Slot) (_ : fX3_leastOf_5 F k1  n y2 y3 μ = some (r, u)) (_ : Wo E μ H) (_ : va_S (AE E) s.heap H locs) (_ : lv_has ls 4 [(0, .ref (E.1 9)), (1, .ref (E.1 k1)), (2, .int y2), (3, .int y3)]), W0 p l e rmX3_leastOf s m args below meth c H locs (QcI E r u) E (F0 m 5 ls []) := by
  induction n with
  | zero => intro y2 y3 μ H locs ls hf hW hS hl; cases hf
  | succ n ih => intro y2 y3 μ H locs ls hf hW hS hl; exact wfX3_leastOf_5_b X h1 _ ih y2 y3 μ H locs ls hf hW hS hl
set_option maxRecDepth 100000 in
set_option maxHeartbeats 4000000 in
theorem ctfX3_leastOf {l : Launch} {E : Gv} (hD : Do E) (F : Nat) (k1 : Nat) (h1 : k1 < NC ∧ kd k1 = 10) (μ : Mem) : CtI l yX3_leastOf ((Cond.code yX3_leastOf cX3_leastOf 4 (some .int)) :: GG) rmX3_leastOf E [.ref (E.1 9), .ref (E.1 k1)] μ (fX3_leastOf F k1 μ) := by
  intro r u hf
  refine of_entry (cc := cX3_leastOf) (maxL := 4) (ret := (some .int)) (by decide +kernel) rfl hD (Nat.le_of_ble_eq_true rfl) (fun p e s m args below meth c X H locs hW hS ls hl => ?_)
  have hl : lv_has ls 4 [(0, .ref (E.1 9)), (1, .ref (E.1 k1))] := hl
  unfold fX3_leastOf at hf
  refine lv_ldc X.1.1 X.1.2.1 X.1.2.2.2.1 (X.1.2.2.2.2 _ (List.mem_cons_of_mem _ mw_3_8)) dX3_leastOf_0 ?_
  refine lv_istore_n (lv' := [(2, .int 100000), (0, .ref (E.1 9)), (1, .ref (E.1 k1))]) X.1.1 X.1.2.1 dX3_leastOf_2 rfl hl (by decide) rfl (fun ls hl => ?_)
  refine lv_iconst (v := 0) X.1.1 X.1.2.1 dX3_leastOf_3 (by decide) ?_
  refine lv_istore_n (lv' := [(3, .int 0), (2, .int 100000), (0, .ref (E.1 9)), (1, .ref (E.1 k1))]) X.1.1 X.1.2.1 dX3_leastOf_4 rfl hl (by decide) rfl (fun ls hl => ?_)
  exact wfX3_leastOf_5 X h1 F 100000 0 μ H locs ls hf hW hS (lv_sub hl [2, 3, 1, 0] rfl)
-- OvenHouse$Loaves.isOrder
def rmX3_isOrder : Room := { frames := 0, cells := 0, slots := 0, locals := 0 }
set_option maxRecDepth 100000 in
set_option maxHeartbeats 4000000 in
theorem wfX3_isOrder_2_b {p : Program} {l : Launch} {e : Env} {s : State} {m : MethodId} {args : Array Value} {below : List Frame} {meth : Method} {c : Code} {E : Gv} {F : Nat} {k1 : Nat} {r : Int32} {u : Mem} (X : Fx p m c cX3_isOrder 3 s args (Cond.code yX3_isOrder cX3_isOrder 3 (some .boolean)) "OvenHouse$Loaves" meth (some .boolean) E) (h1 : k1 < NC ∧ kd k1 = 10) (rec2 : Int32 → Mem → Option (Int32 × Mem)) (hrec2 : ∀ (y2 : Int32) (μ : Mem) (H : Heap) (locs : List Loc) (ls : Array Slot), rec2 y2 μ = some (r, u) → Wo E μ H → va_S (AE E) s.heap H locs → lv_has ls 3 [(0, .ref (E.1 9)), (1, .ref (E.1 k1)), (2, .int y2)] → W0 p l e rmX3_isOrder s m args below meth c H locs (QcI E r u) E (F0 m 2 ls [])) (y2 : Int32) (μ : Mem) (H : Heap) (locs : List Loc) (ls : Array Slot) (hf : fX3_isOrder_2_b F k1 rec2 y2 μ = some (r, u)) (hW : Wo E μ H) (hS : va_S (AE E) s.heap H locs) (hl : lv_has ls 3 [(0, .ref (E.1 9)), (1, .ref (E.1 k1)), (2, .int y2)]) : W0 p l e rmX3_isOrder s m args below meth c H locs (QcI E r u) E (F0 m 2 ls []) := by
  unfold fX3_isOrder_2_b at hf
  refine lv_iload_n X.1.1 X.1.2.1 dX3_isOrder_2 rfl (lv_at hl 2 rfl) ?_
  refine lv_aload_n X.1.1 X.1.2.1 dX3_isOrder_3 rfl (lv_at hl 0 rfl) ?_
  refine e_geti X hW (C := RX3) (T := TX3) (N := 7) (j := 6) rfl (by decide) inX3 (by decide) (by decide) rfl rfl mw_1_70 dX3_isOrder_4 ?_
  refine lv_icmp_ge (tgt := 30) X.1.1 X.1.2.1 dX3_isOrder_7 (by decide) (fun c7 => ?_) (fun c7 => ?_)
  · rw [if_pos c7] at hf
    refine lv_iconst (v := 1) X.1.1 X.1.2.1 dX3_isOrder_30 (by decide) ?_
    exact e_zret X hW hS hf dX3_isOrder_31
  · rw [if_neg c7] at hf
    refine lv_aload_n X.1.1 X.1.2.1 dX3_isOrder_10 rfl (lv_at hl 1 rfl) ?_
    refine lv_iload_n X.1.1 X.1.2.1 dX3_isOrder_11 rfl (lv_at hl 2 rfl) ?_
    refine e_ild X hW h1.1 h1.2 dX3_isOrder_12 hf (fun v1 hf => ?_)
    refine lv_aload_n X.1.1 X.1.2.1 dX3_isOrder_13 rfl (lv_at hl 0 rfl) ?_
    refine e_getr X hW (C := RX3) (T := TX3) (N := 7) (j := 4) rfl (by decide) inX3 (by decide) (by decide) rfl (t := 14) rfl rfl mw_1_67 dX3_isOrder_14 ?_
    refine lv_iload_n X.1.1 X.1.2.1 dX3_isOrder_17 rfl (lv_at hl 2 rfl) ?_
    refine e_ild X hW (by decide) rfl dX3_isOrder_18 hf (fun v2 hf => ?_)
    refine lv_icmp_eq (tgt := 24) X.1.1 X.1.2.1 dX3_isOrder_19 (by decide) (fun c19 => ?_) (fun c19 => ?_)
    · rw [if_pos c19] at hf
      refine lv_iinc (v := (y2 + 1)) (lv' := [(2, .int (y2 + 1)), (0, .ref (E.1 9)), (1, .ref (E.1 k1))]) X.1.1 X.1.2.1 dX3_isOrder_24 hl (k := 2) rfl rfl (by decide) rfl (fun ls hl => ?_)
      refine lv_goto (tgt := 2) X.1.1 X.1.2.1 dX3_isOrder_27 (by decide) ?_
      exact hrec2 (y2 + 1) μ H locs ls hf hW hS (lv_sub hl [1, 2, 0] rfl)
    · rw [if_neg c19] at hf
      refine lv_iconst (v := 0) X.1.1 X.1.2.1 dX3_isOrder_22 (by decide) ?_
      exact e_zret X hW hS hf dX3_isOrder_23
theorem wfX3_isOrder_2 {p : Program} {l : Launch} {e : Env} {s : State} {m : MethodId} {args : Array Value} {below : List Frame} {meth : Method} {c : Code} {E : Gv} {F : Nat} {k1 : Nat} {r : Int32} {u : Mem} (X : Fx p m c cX3_isOrder 3 s args (Cond.code yX3_isOrder cX3_isOrder 3 (some .boolean)) "OvenHouse$Loaves" meth (some .boolean) E) (h1 : k1 < NC ∧ kd k1 = 10) (n : Nat) : ∀ (y2 : Int32) (μ : Mem) (H : Heap) (locs : List Loc) (ls : Array Slot) (_ : fX3_isOrder_2 F k1  n y2 μ = some (r, u)) (_ : Wo E μ H) (_ : va_S (AE E) s.heap H locs) (_ : lv_has ls 3 [(0, .ref (E.1 9)), (1, .ref (E.1 k1)), (2, .int y2)]), W0 p l e rmX3_isOrder s m args below meth c H locs (QcI E r u) E (F0 m 2 ls []) := by
  induction n with
  | zero => intro y2 μ H locs ls hf hW hS hl; cases hf
  | succ n ih => intro y2 μ H locs ls hf hW hS hl; exact wfX3_isOrder_2_b X h1 _ ih y2 μ H locs ls hf hW hS hl
set_option maxRecDepth 100000 in
set_option maxHeartbeats 4000000 in
theorem ctfX3_isOrder {l : Launch} {E : Gv} (hD : Do E) (F : Nat) (k1 : Nat) (h1 : k1 < NC ∧ kd k1 = 10) (μ : Mem) : CtI l yX3_isOrder ((Cond.code yX3_isOrder cX3_isOrder 3 (some .boolean)) :: GG) rmX3_isOrder E [.ref (E.1 9), .ref (E.1 k1)] μ (fX3_isOrder F k1 μ) := by
  intro r u hf
  refine of_entry (cc := cX3_isOrder) (maxL := 3) (ret := (some .boolean)) (by decide +kernel) rfl hD (Nat.le_of_ble_eq_true rfl) (fun p e s m args below meth c X H locs hW hS ls hl => ?_)
  have hl : lv_has ls 3 [(0, .ref (E.1 9)), (1, .ref (E.1 k1))] := hl
  unfold fX3_isOrder at hf
  refine lv_iconst (v := 0) X.1.1 X.1.2.1 dX3_isOrder_0 (by decide) ?_
  refine lv_istore_n (lv' := [(2, .int 0), (0, .ref (E.1 9)), (1, .ref (E.1 k1))]) X.1.1 X.1.2.1 dX3_isOrder_1 rfl hl (by decide) rfl (fun ls hl => ?_)
  exact wfX3_isOrder_2 X h1 F 0 μ H locs ls hf hW hS (lv_sub hl [1, 2, 0] rfl)
-- OvenHouse.rank
def rmX8_rank : Room := { frames := 0, cells := 0, slots := 0, locals := 0 }
set_option maxRecDepth 100000 in
set_option maxHeartbeats 4000000 in
theorem wfX8_rank_45 {p : Program} {l : Launch} {e : Env} {s : State} {m : MethodId} {args : Array Value} {below : List Frame} {meth : Method} {c : Code} {E : Gv} {F : Nat} {k0 : Nat} {k2 : Nat} {u : Mem} (X : Fx p m c cX8_rank 5 s args (Cond.code yX8_rank cX8_rank 5 none) "OvenHouse" meth none E) (h0 : k0 < NC ∧ kd k0 = 10) (h2 : k2 < NC ∧ kd k2 = 10) (rec2 : Int32 → Int32 → Mem → Option Mem) (hrec2 : ∀ (y1 : Int32) (y3 : Int32) (μ : Mem) (H : Heap) (locs : List Loc) (ls : Array Slot), rec2 y1 y3 μ = some u → Wo E μ H → va_S (AE E) s.heap H locs → lv_has ls 5 [(0, .ref (E.1 k0)), (1, .int y1), (2, .ref (E.1 k2)), (3, .int y3)] → W0 p l e rmX8_rank s m args below meth c H locs (QcN E u) E (F0 m 2 ls [])) (y1 : Int32) (y3 : Int32) (y4 : Int32) (μ : Mem) (H : Heap) (locs : List Loc) (ls : Array Slot) (hf : fX8_rank_45 F k0 k2 rec2 y1 y3 y4 μ = some u) (hW : Wo E μ H) (hS : va_S (AE E) s.heap H locs) (hl : lv_has ls 5 [(0, .ref (E.1 k0)), (1, .int y1), (2, .ref (E.1 k2)), (3, .int y3), (4, .int y4)]) : W0 p l e rmX8_rank s m args below meth c H locs (QcN E u) E (F0 m 45 ls []) := by
  unfold fX8_rank_45 at hf
  refine lv_aload_n X.1.1 X.1.2.1 dX8_rank_45 rfl (lv_at hl 2 rfl) ?_
  refine lv_iload X.1.1 X.1.2.1 dX8_rank_46 (lv_at hl 4 rfl) ?_
  refine lv_iload_n X.1.1 X.1.2.1 dX8_rank_48 rfl (lv_at hl 3 rfl) ?_
  refine e_ist X hW hS h2.1 h2.2 dX8_rank_49 hf (fun m6 H locs hf hW hS => ?_)
  refine lv_iinc (v := (y3 + 1)) (lv' := [(3, .int (y3 + 1)), (0, .ref (E.1 k0)), (1, .int y1), (2, .ref (E.1 k2)), (4, .int y4)]) X.1.1 X.1.2.1 dX8_rank_50 hl (k := 3) rfl rfl (by decide) rfl (fun ls hl => ?_)
  refine lv_goto (tgt := 2) X.1.1 X.1.2.1 dX8_rank_53 (by decide) ?_
  exact hrec2 y1 (y3 + 1) m6 H locs ls hf hW hS (lv_sub hl [1, 2, 3, 0] rfl)
set_option maxRecDepth 100000 in
set_option maxHeartbeats 4000000 in
theorem wfX8_rank_10_b {p : Program} {l : Launch} {e : Env} {s : State} {m : MethodId} {args : Array Value} {below : List Frame} {meth : Method} {c : Code} {E : Gv} {F : Nat} {k0 : Nat} {k2 : Nat} {u : Mem} (X : Fx p m c cX8_rank 5 s args (Cond.code yX8_rank cX8_rank 5 none) "OvenHouse" meth none E) (h0 : k0 < NC ∧ kd k0 = 10) (h2 : k2 < NC ∧ kd k2 = 10) (rec2 : Int32 → Int32 → Mem → Option Mem) (hrec2 : ∀ (y1 : Int32) (y3 : Int32) (μ : Mem) (H : Heap) (locs : List Loc) (ls : Array Slot), rec2 y1 y3 μ = some u → Wo E μ H → va_S (AE E) s.heap H locs → lv_has ls 5 [(0, .ref (E.1 k0)), (1, .int y1), (2, .ref (E.1 k2)), (3, .int y3)] → W0 p l e rmX8_rank s m args below meth c H locs (QcN E u) E (F0 m 2 ls [])) (rec10 : Int32 → Int32 → Int32 → Mem → Option Mem) (hrec10 : ∀ (y1 : Int32) (y3 : Int32) (y4 : Int32) (μ : Mem) (H : Heap) (locs : List Loc) (ls : Array Slot), rec10 y1 y3 y4 μ = some u → Wo E μ H → va_S (AE E) s.heap H locs → lv_has ls 5 [(0, .ref (E.1 k0)), (1, .int y1), (2, .ref (E.1 k2)), (3, .int y3), (4, .int y4)] → W0 p l e rmX8_rank s m args below meth c H locs (QcN E u) E (F0 m 10 ls [])) (y1 : Int32) (y3 : Int32) (y4 : Int32) (μ : Mem) (H : Heap) (locs : List Loc) (ls : Array Slot) (hf : fX8_rank_10_b F k0 k2 rec2 rec10 y1 y3 y4 μ = some u) (hW : Wo E μ H) (hS : va_S (AE E) s.heap H locs) (hl : lv_has ls 5 [(0, .ref (E.1 k0)), (1, .int y1), (2, .ref (E.1 k2)), (3, .int y3), (4, .int y4)]) : W0 p l e rmX8_rank s m args below meth c H locs (QcN E u) E (F0 m 10 ls []) := by
  unfold fX8_rank_10_b at hf
  refine lv_iload X.1.1 X.1.2.1 dX8_rank_10 (lv_at hl 4 rfl) ?_
  refine lv_if_le (tgt := 45) X.1.1 X.1.2.1 dX8_rank_12 (by decide) (fun c12 => ?_) (fun c12 => ?_)
  · rw [if_pos c12] at hf
    exact wfX8_rank_45 X h0 h2 rec2 hrec2 y1 y3 y4 μ H locs ls hf hW hS (lv_sub hl [0, 1, 2, 3, 4] rfl)
  · rw [if_neg c12] at hf
    refine lv_aload_n X.1.1 X.1.2.1 dX8_rank_15 rfl (lv_at hl 0 rfl) ?_
    refine lv_aload_n X.1.1 X.1.2.1 dX8_rank_16 rfl (lv_at hl 2 rfl) ?_
    refine lv_iload X.1.1 X.1.2.1 dX8_rank_17 (lv_at hl 4 rfl) ?_
    refine lv_iconst (v := 1) X.1.1 X.1.2.1 dX8_rank_19 (by decide) ?_
    refine lv_isub X.1.1 X.1.2.1 dX8_rank_20 ?_
    refine e_ild X hW h2.1 h2.2 dX8_rank_21 hf (fun v1 hf => ?_)
    refine e_ild X hW h0.1 h0.2 dX8_rank_22 hf (fun v2 hf => ?_)
    refine lv_aload_n X.1.1 X.1.2.1 dX8_rank_23 rfl (lv_at hl 0 rfl) ?_
    refine lv_iload_n X.1.1 X.1.2.1 dX8_rank_24 rfl (lv_at hl 3 rfl) ?_
    refine e_ild X hW h0.1 h0.2 dX8_rank_25 hf (fun v3 hf => ?_)
    refine lv_icmp_le (tgt := 45) X.1.1 X.1.2.1 dX8_rank_26 (by decide) (fun c26 => ?_) (fun c26 => ?_)
    · rw [if_pos c26] at hf
      exact wfX8_rank_45 X h0 h2 rec2 hrec2 y1 y3 y4 μ H locs ls hf hW hS (lv_sub hl [0, 1, 2, 3, 4] rfl)
    · rw [if_neg c26] at hf
      refine lv_aload_n X.1.1 X.1.2.1 dX8_rank_29 rfl (lv_at hl 2 rfl) ?_
      refine lv_iload X.1.1 X.1.2.1 dX8_rank_30 (lv_at hl 4 rfl) ?_
      refine lv_aload_n X.1.1 X.1.2.1 dX8_rank_32 rfl (lv_at hl 2 rfl) ?_
      refine lv_iload X.1.1 X.1.2.1 dX8_rank_33 (lv_at hl 4 rfl) ?_
      refine lv_iconst (v := 1) X.1.1 X.1.2.1 dX8_rank_35 (by decide) ?_
      refine lv_isub X.1.1 X.1.2.1 dX8_rank_36 ?_
      refine e_ild X hW h2.1 h2.2 dX8_rank_37 hf (fun v4 hf => ?_)
      refine e_ist X hW hS h2.1 h2.2 dX8_rank_38 hf (fun m5 H locs hf hW hS => ?_)
      refine lv_iinc (v := (y4 + (-1))) (lv' := [(4, .int (y4 + (-1))), (0, .ref (E.1 k0)), (1, .int y1), (2, .ref (E.1 k2)), (3, .int y3)]) X.1.1 X.1.2.1 dX8_rank_39 hl (k := 4) rfl rfl (by decide) rfl (fun ls hl => ?_)
      refine lv_goto (tgt := 10) X.1.1 X.1.2.1 dX8_rank_42 (by decide) ?_
      exact hrec10 y1 y3 (y4 + (-1)) m5 H locs ls hf hW hS (lv_sub hl [1, 2, 3, 4, 0] rfl)
theorem wfX8_rank_10 {p : Program} {l : Launch} {e : Env} {s : State} {m : MethodId} {args : Array Value} {below : List Frame} {meth : Method} {c : Code} {E : Gv} {F : Nat} {k0 : Nat} {k2 : Nat} {u : Mem} (X : Fx p m c cX8_rank 5 s args (Cond.code yX8_rank cX8_rank 5 none) "OvenHouse" meth none E) (h0 : k0 < NC ∧ kd k0 = 10) (h2 : k2 < NC ∧ kd k2 = 10) (rec2 : Int32 → Int32 → Mem → Option Mem) (hrec2 : ∀ (y1 : Int32) (y3 : Int32) (μ : Mem) (H : Heap) (locs : List Loc) (ls : Array Slot), rec2 y1 y3 μ = some u → Wo E μ H → va_S (AE E) s.heap H locs → lv_has ls 5 [(0, .ref (E.1 k0)), (1, .int y1), (2, .ref (E.1 k2)), (3, .int y3)] → W0 p l e rmX8_rank s m args below meth c H locs (QcN E u) E (F0 m 2 ls [])) (n : Nat) : ∀ (y1 : Int32) (y3 : Int32) (y4 : Int32) (μ : Mem) (H : Heap) (locs : List Loc) (ls : Array Slot) (_ : fX8_rank_10 F k0 k2 rec2 n y1 y3 y4 μ = some u) (_ : Wo E μ H) (_ : va_S (AE E) s.heap H locs) (_ : lv_has ls 5 [(0, .ref (E.1 k0)), (1, .int y1), (2, .ref (E.1 k2)), (3, .int y3), (4, .int y4)]), W0 p l e rmX8_rank s m args below meth c H locs (QcN E u) E (F0 m 10 ls []) := by
  induction n with
  | zero => intro y1 y3 y4 μ H locs ls hf hW hS hl; cases hf
  | succ n ih => intro y1 y3 y4 μ H locs ls hf hW hS hl; exact wfX8_rank_10_b X h0 h2 rec2 hrec2 _ ih y1 y3 y4 μ H locs ls hf hW hS hl
set_option maxRecDepth 100000 in
set_option maxHeartbeats 4000000 in
theorem wfX8_rank_2_b {p : Program} {l : Launch} {e : Env} {s : State} {m : MethodId} {args : Array Value} {below : List Frame} {meth : Method} {c : Code} {E : Gv} {F : Nat} {k0 : Nat} {k2 : Nat} {u : Mem} (X : Fx p m c cX8_rank 5 s args (Cond.code yX8_rank cX8_rank 5 none) "OvenHouse" meth none E) (h0 : k0 < NC ∧ kd k0 = 10) (h2 : k2 < NC ∧ kd k2 = 10) (rec2 : Int32 → Int32 → Mem → Option Mem) (hrec2 : ∀ (y1 : Int32) (y3 : Int32) (μ : Mem) (H : Heap) (locs : List Loc) (ls : Array Slot), rec2 y1 y3 μ = some u → Wo E μ H → va_S (AE E) s.heap H locs → lv_has ls 5 [(0, .ref (E.1 k0)), (1, .int y1), (2, .ref (E.1 k2)), (3, .int y3)] → W0 p l e rmX8_rank s m args below meth c H locs (QcN E u) E (F0 m 2 ls [])) (y1 : Int32) (y3 : Int32) (μ : Mem) (H : Heap) (locs : List Loc) (ls : Array Slot) (hf : fX8_rank_2_b F k0 k2 rec2 y1 y3 μ = some u) (hW : Wo E μ H) (hS : va_S (AE E) s.heap H locs) (hl : lv_has ls 5 [(0, .ref (E.1 k0)), (1, .int y1), (2, .ref (E.1 k2)), (3, .int y3)]) : W0 p l e rmX8_rank s m args below meth c H locs (QcN E u) E (F0 m 2 ls []) := by
  unfold fX8_rank_2_b at hf
  refine lv_iload_n X.1.1 X.1.2.1 dX8_rank_2 rfl (lv_at hl 3 rfl) ?_
  refine lv_iload_n X.1.1 X.1.2.1 dX8_rank_3 rfl (lv_at hl 1 rfl) ?_
  refine lv_icmp_ge (tgt := 56) X.1.1 X.1.2.1 dX8_rank_4 (by decide) (fun c4 => ?_) (fun c4 => ?_)
  · rw [if_pos c4] at hf
    exact e_vret X hW hS hf dX8_rank_56
  · rw [if_neg c4] at hf
    refine lv_iload_n X.1.1 X.1.2.1 dX8_rank_7 rfl (lv_at hl 3 rfl) ?_
    refine lv_istore (lv' := [(4, .int y3), (0, .ref (E.1 k0)), (1, .int y1), (2, .ref (E.1 k2)), (3, .int y3)]) X.1.1 X.1.2.1 dX8_rank_8 hl (by decide) rfl (fun ls hl => ?_)
    exact wfX8_rank_10 X h0 h2 rec2 hrec2 F y1 y3 y3 μ H locs ls hf hW hS (lv_sub hl [1, 2, 3, 4, 0] rfl)
theorem wfX8_rank_2 {p : Program} {l : Launch} {e : Env} {s : State} {m : MethodId} {args : Array Value} {below : List Frame} {meth : Method} {c : Code} {E : Gv} {F : Nat} {k0 : Nat} {k2 : Nat} {u : Mem} (X : Fx p m c cX8_rank 5 s args (Cond.code yX8_rank cX8_rank 5 none) "OvenHouse" meth none E) (h0 : k0 < NC ∧ kd k0 = 10) (h2 : k2 < NC ∧ kd k2 = 10) (n : Nat) : ∀ (y1 : Int32) (y3 : Int32) (μ : Mem) (H : Heap) (locs : List Loc) (ls : Array Slot) (_ : fX8_rank_2 F k0 k2  n y1 y3 μ = some u) (_ : Wo E μ H) (_ : va_S (AE E) s.heap H locs) (_ : lv_has ls 5 [(0, .ref (E.1 k0)), (1, .int y1), (2, .ref (E.1 k2)), (3, .int y3)]), W0 p l e rmX8_rank s m args below meth c H locs (QcN E u) E (F0 m 2 ls []) := by
  induction n with
  | zero => intro y1 y3 μ H locs ls hf hW hS hl; cases hf
  | succ n ih => intro y1 y3 μ H locs ls hf hW hS hl; exact wfX8_rank_2_b X h0 h2 _ ih y1 y3 μ H locs ls hf hW hS hl
set_option maxRecDepth 100000 in
set_option maxHeartbeats 4000000 in
theorem ctfX8_rank {l : Launch} {E : Gv} (hD : Do E) (F : Nat) (k0 : Nat) (x1 : Int32) (k2 : Nat) (h0 : k0 < NC ∧ kd k0 = 10) (h2 : k2 < NC ∧ kd k2 = 10) (μ : Mem) : CtV l yX8_rank ((Cond.code yX8_rank cX8_rank 5 none) :: GG) rmX8_rank E [.ref (E.1 k0), .int x1, .ref (E.1 k2)] μ (fX8_rank F k0 x1 k2 μ) := by
  intro u hf
  refine of_entry (cc := cX8_rank) (maxL := 5) (ret := none) (by decide +kernel) rfl hD (Nat.le_of_ble_eq_true rfl) (fun p e s m args below meth c X H locs hW hS ls hl => ?_)
  have hl : lv_has ls 5 [(0, .ref (E.1 k0)), (1, .int x1), (2, .ref (E.1 k2))] := hl
  unfold fX8_rank at hf
  refine lv_iconst (v := 0) X.1.1 X.1.2.1 dX8_rank_0 (by decide) ?_
  refine lv_istore_n (lv' := [(3, .int 0), (0, .ref (E.1 k0)), (1, .int x1), (2, .ref (E.1 k2))]) X.1.1 X.1.2.1 dX8_rank_1 rfl hl (by decide) rfl (fun ls hl => ?_)
  exact wfX8_rank_2 X h0 h2 F x1 0 μ H locs ls hf hW hS (lv_sub hl [1, 2, 3, 0] rfl)
-- OvenHouse$Loaves.byRule
def rmX3_byRule : Room := { frames := 1, cells := 0, slots := 0, locals := 24 }
set_option maxRecDepth 100000 in
set_option maxHeartbeats 4000000 in
theorem wfX3_byRule_2_b {p : Program} {l : Launch} {e : Env} {s : State} {m : MethodId} {args : Array Value} {below : List Frame} {meth : Method} {c : Code} {E : Gv} {F : Nat} {k1 : Nat} {u : Mem} (X : Fx p m c cX3_byRule 3 s args (Cond.code yX3_byRule cX3_byRule 3 none) "OvenHouse$Loaves" meth none E) (h1 : k1 < NC ∧ kd k1 = 10) (rec2 : Int32 → Mem → Option Mem) (hrec2 : ∀ (y2 : Int32) (μ : Mem) (H : Heap) (locs : List Loc) (ls : Array Slot), rec2 y2 μ = some u → Wo E μ H → va_S (AE E) s.heap H locs → lv_has ls 3 [(0, .ref (E.1 9)), (1, .ref (E.1 k1)), (2, .int y2)] → W0 p l e rmX3_byRule s m args below meth c H locs (QcN E u) E (F0 m 2 ls [])) (y2 : Int32) (μ : Mem) (H : Heap) (locs : List Loc) (ls : Array Slot) (hf : fX3_byRule_2_b F k1 rec2 y2 μ = some u) (hW : Wo E μ H) (hS : va_S (AE E) s.heap H locs) (hl : lv_has ls 3 [(0, .ref (E.1 9)), (1, .ref (E.1 k1)), (2, .int y2)]) : W0 p l e rmX3_byRule s m args below meth c H locs (QcN E u) E (F0 m 2 ls []) := by
  unfold fX3_byRule_2_b at hf
  refine lv_iload_n X.1.1 X.1.2.1 dX3_byRule_2 rfl (lv_at hl 2 rfl) ?_
  refine lv_aload_n X.1.1 X.1.2.1 dX3_byRule_3 rfl (lv_at hl 0 rfl) ?_
  refine e_geti X hW (C := RX3) (T := TX3) (N := 7) (j := 6) rfl (by decide) inX3 (by decide) (by decide) rfl rfl mw_1_70 dX3_byRule_4 ?_
  refine lv_icmp_ge (tgt := 55) X.1.1 X.1.2.1 dX3_byRule_7 (by decide) (fun c7 => ?_) (fun c7 => ?_)
  · rw [if_pos c7] at hf
    refine lv_aload_n X.1.1 X.1.2.1 dX3_byRule_55 rfl (lv_at hl 0 rfl) ?_
    refine e_getr X hW (C := RX3) (T := TX3) (N := 7) (j := 5) rfl (by decide) inX3 (by decide) (by decide) rfl (t := 15) rfl rfl mw_1_69 dX3_byRule_56 ?_
    refine lv_aload_n X.1.1 X.1.2.1 dX3_byRule_59 rfl (lv_at hl 0 rfl) ?_
    refine e_geti X hW (C := RX3) (T := TX3) (N := 7) (j := 6) rfl (by decide) inX3 (by decide) (by decide) rfl rfl mw_1_70 dX3_byRule_60 ?_
    refine lv_aload_n X.1.1 X.1.2.1 dX3_byRule_63 rfl (lv_at hl 1 rfl) ?_
    refine e_snv (rest := []) (As := [.ref (E.1 15), .int (μ 9 6), .ref (E.1 k1)]) X hl.1 hW hS (ctfX8_rank X.2.2.2.2 F 15 (μ 9 6) k1 ⟨(by decide), rfl⟩ ⟨h1.1, h1.2⟩ μ) ⟨va_cnB (rm := rmX8_rank) (own := "OvenHouse$Loaves") (host := "OvenHouse") (index := 48) 3 X.1.2.2.2.2 (gd_N mw_2_184) rfl rfl rfl (X.2.2.2.1.2 ("OvenHouse$Loaves", 48, yX8_rank, "OvenHouse") (by decide +kernel)) (X.1.2.2.2.2 _ (List.mem_cons_of_mem _ mw_1_1)) (by decide +kernel) ⟨Nat.le_of_ble_eq_true rfl, Nat.le_of_ble_eq_true rfl⟩, X.1.2.2.2.2 _ (List.mem_cons_of_mem _ mw_2_183), trivial⟩ rfl rfl (Nat.le_of_ble_eq_true rfl) dX3_byRule_64 ⟨Nat.zero_le _, Nat.zero_le _⟩ hf (fun m1 H locs hf hW hS => ?_)
    exact e_vret X hW hS hf dX3_byRule_67
  · rw [if_neg c7] at hf
    refine lv_aload_n X.1.1 X.1.2.1 dX3_byRule_10 rfl (lv_at hl 0 rfl) ?_
    refine e_getr X hW (C := RX3) (T := TX3) (N := 7) (j := 5) rfl (by decide) inX3 (by decide) (by decide) rfl (t := 15) rfl rfl mw_1_69 dX3_byRule_11 ?_
    refine lv_iload_n X.1.1 X.1.2.1 dX3_byRule_14 rfl (lv_at hl 2 rfl) ?_
    refine lv_aload_n X.1.1 X.1.2.1 dX3_byRule_15 rfl (lv_at hl 0 rfl) ?_
    refine e_getr X hW (C := RX3) (T := TX3) (N := 7) (j := 0) rfl (by decide) inX3 (by decide) (by decide) rfl (t := 10) rfl rfl mw_1_57 dX3_byRule_16 ?_
    refine lv_iload_n X.1.1 X.1.2.1 dX3_byRule_19 rfl (lv_at hl 2 rfl) ?_
    refine e_ild X hW (by decide) rfl dX3_byRule_20 hf (fun v2 hf => ?_)
    refine lv_aload_n X.1.1 X.1.2.1 dX3_byRule_21 rfl (lv_at hl 0 rfl) ?_
    refine e_getr X hW (C := RX3) (T := TX3) (N := 7) (j := 1) rfl (by decide) inX3 (by decide) (by decide) rfl (t := 11) rfl rfl mw_1_60 dX3_byRule_22 ?_
    refine lv_iload_n X.1.1 X.1.2.1 dX3_byRule_25 rfl (lv_at hl 2 rfl) ?_
    refine e_ild X hW (by decide) rfl dX3_byRule_26 hf (fun v3 hf => ?_)
    refine lv_icmp_gt (tgt := 39) X.1.1 X.1.2.1 dX3_byRule_27 (by decide) (fun c27 => ?_) (fun c27 => ?_)
    · rw [if_pos c27] at hf
      refine lv_ldc X.1.1 X.1.2.1 X.1.2.2.2.1 (X.1.2.2.2.2 _ (List.mem_cons_of_mem _ mw_2_181)) dX3_byRule_39 ?_
      refine lv_aload_n X.1.1 X.1.2.1 dX3_byRule_41 rfl (lv_at hl 0 rfl) ?_
      refine e_getr X hW (C := RX3) (T := TX3) (N := 7) (j := 1) rfl (by decide) inX3 (by decide) (by decide) rfl (t := 11) rfl rfl mw_1_60 dX3_byRule_42 ?_
      refine lv_iload_n X.1.1 X.1.2.1 dX3_byRule_45 rfl (lv_at hl 2 rfl) ?_
      refine e_ild X hW (by decide) rfl dX3_byRule_46 hf (fun v4 hf => ?_)
      refine lv_isub X.1.1 X.1.2.1 dX3_byRule_47 ?_
      refine e_ist X hW hS (by decide) rfl dX3_byRule_48 hf (fun m5 H locs hf hW hS => ?_)
      refine lv_iinc (v := (y2 + 1)) (lv' := [(2, .int (y2 + 1)), (0, .ref (E.1 9)), (1, .ref (E.1 k1))]) X.1.1 X.1.2.1 dX3_byRule_49 hl (k := 2) rfl rfl (by decide) rfl (fun ls hl => ?_)
      refine lv_goto (tgt := 2) X.1.1 X.1.2.1 dX3_byRule_52 (by decide) ?_
      exact hrec2 (y2 + 1) m5 H locs ls hf hW hS (lv_sub hl [1, 2, 0] rfl)
    · rw [if_neg c27] at hf
      refine lv_aload_n X.1.1 X.1.2.1 dX3_byRule_30 rfl (lv_at hl 0 rfl) ?_
      refine e_getr X hW (C := RX3) (T := TX3) (N := 7) (j := 0) rfl (by decide) inX3 (by decide) (by decide) rfl (t := 10) rfl rfl mw_1_57 dX3_byRule_31 ?_
      refine lv_iload_n X.1.1 X.1.2.1 dX3_byRule_34 rfl (lv_at hl 2 rfl) ?_
      refine e_ild X hW (by decide) rfl dX3_byRule_35 hf (fun v6 hf => ?_)
      refine lv_goto (tgt := 48) X.1.1 X.1.2.1 dX3_byRule_36 (by decide) ?_
      refine e_ist X hW hS (by decide) rfl dX3_byRule_48 hf (fun m7 H locs hf hW hS => ?_)
      refine lv_iinc (v := (y2 + 1)) (lv' := [(2, .int (y2 + 1)), (0, .ref (E.1 9)), (1, .ref (E.1 k1))]) X.1.1 X.1.2.1 dX3_byRule_49 hl (k := 2) rfl rfl (by decide) rfl (fun ls hl => ?_)
      refine lv_goto (tgt := 2) X.1.1 X.1.2.1 dX3_byRule_52 (by decide) ?_
      exact hrec2 (y2 + 1) m7 H locs ls hf hW hS (lv_sub hl [1, 2, 0] rfl)
theorem wfX3_byRule_2 {p : Program} {l : Launch} {e : Env} {s : State} {m : MethodId} {args : Array Value} {below : List Frame} {meth : Method} {c : Code} {E : Gv} {F : Nat} {k1 : Nat} {u : Mem} (X : Fx p m c cX3_byRule 3 s args (Cond.code yX3_byRule cX3_byRule 3 none) "OvenHouse$Loaves" meth none E) (h1 : k1 < NC ∧ kd k1 = 10) (n : Nat) : ∀ (y2 : Int32) (μ : Mem) (H : Heap) (locs : List Loc) (ls : Array Slot) (_ : fX3_byRule_2 F k1  n y2 μ = some u) (_ : Wo E μ H) (_ : va_S (AE E) s.heap H locs) (_ : lv_has ls 3 [(0, .ref (E.1 9)), (1, .ref (E.1 k1)), (2, .int y2)]), W0 p l e rmX3_byRule s m args below meth c H locs (QcN E u) E (F0 m 2 ls []) := by
  induction n with
  | zero => intro y2 μ H locs ls hf hW hS hl; cases hf
  | succ n ih => intro y2 μ H locs ls hf hW hS hl; exact wfX3_byRule_2_b X h1 _ ih y2 μ H locs ls hf hW hS hl
set_option maxRecDepth 100000 in
set_option maxHeartbeats 4000000 in
theorem ctfX3_byRule {l : Launch} {E : Gv} (hD : Do E) (F : Nat) (k1 : Nat) (h1 : k1 < NC ∧ kd k1 = 10) (μ : Mem) : CtV l yX3_byRule ((Cond.code yX3_byRule cX3_byRule 3 none) :: GG) rmX3_byRule E [.ref (E.1 9), .ref (E.1 k1)] μ (fX3_byRule F k1 μ) := by
  intro u hf
  refine of_entry (cc := cX3_byRule) (maxL := 3) (ret := none) (by decide +kernel) rfl hD (Nat.le_of_ble_eq_true rfl) (fun p e s m args below meth c X H locs hW hS ls hl => ?_)
  have hl : lv_has ls 3 [(0, .ref (E.1 9)), (1, .ref (E.1 k1))] := hl
  unfold fX3_byRule at hf
  refine lv_iconst (v := 0) X.1.1 X.1.2.1 dX3_byRule_0 (by decide) ?_
  refine lv_istore_n (lv' := [(2, .int 0), (0, .ref (E.1 9)), (1, .ref (E.1 k1))]) X.1.1 X.1.2.1 dX3_byRule_1 rfl hl (by decide) rfl (fun ls hl => ?_)
  exact wfX3_byRule_2 X h1 F 0 μ H locs ls hf hW hS (lv_sub hl [1, 2, 0] rfl)
-- OvenHouse.exchange
def rmX8_exchange : Room := { frames := 0, cells := 0, slots := 0, locals := 0 }
set_option maxRecDepth 100000 in
set_option maxHeartbeats 4000000 in
theorem ctfX8_exchange {l : Launch} {E : Gv} (hD : Do E) (F : Nat) (k0 : Nat) (x1 : Int32) (x2 : Int32) (h0 : k0 < NC ∧ kd k0 = 10) (μ : Mem) : CtV l yX8_exchange ((Cond.code yX8_exchange cX8_exchange 4 none) :: GG) rmX8_exchange E [.ref (E.1 k0), .int x1, .int x2] μ (fX8_exchange F k0 x1 x2 μ) := by
  intro u hf
  refine of_entry (cc := cX8_exchange) (maxL := 4) (ret := none) (by decide +kernel) rfl hD (Nat.le_of_ble_eq_true rfl) (fun p e s m args below meth c X H locs hW hS ls hl => ?_)
  have hl : lv_has ls 4 [(0, .ref (E.1 k0)), (1, .int x1), (2, .int x2)] := hl
  unfold fX8_exchange at hf
  refine lv_aload_n X.1.1 X.1.2.1 dX8_exchange_0 rfl (lv_at hl 0 rfl) ?_
  refine lv_iload_n X.1.1 X.1.2.1 dX8_exchange_1 rfl (lv_at hl 1 rfl) ?_
  refine e_ild X hW h0.1 h0.2 dX8_exchange_2 hf (fun v1 hf => ?_)
  refine lv_istore_n (lv' := [(3, .int v1), (0, .ref (E.1 k0)), (1, .int x1), (2, .int x2)]) X.1.1 X.1.2.1 dX8_exchange_3 rfl hl (by decide) rfl (fun ls hl => ?_)
  refine lv_aload_n X.1.1 X.1.2.1 dX8_exchange_4 rfl (lv_at hl 1 rfl) ?_
  refine lv_iload_n X.1.1 X.1.2.1 dX8_exchange_5 rfl (lv_at hl 2 rfl) ?_
  refine lv_aload_n X.1.1 X.1.2.1 dX8_exchange_6 rfl (lv_at hl 1 rfl) ?_
  refine lv_iload_n X.1.1 X.1.2.1 dX8_exchange_7 rfl (lv_at hl 3 rfl) ?_
  refine e_ild X hW h0.1 h0.2 dX8_exchange_8 hf (fun v2 hf => ?_)
  refine e_ist X hW hS h0.1 h0.2 dX8_exchange_9 hf (fun m3 H locs hf hW hS => ?_)
  refine lv_aload_n X.1.1 X.1.2.1 dX8_exchange_10 rfl (lv_at hl 1 rfl) ?_
  refine lv_iload_n X.1.1 X.1.2.1 dX8_exchange_11 rfl (lv_at hl 3 rfl) ?_
  refine lv_iload_n X.1.1 X.1.2.1 dX8_exchange_12 rfl (lv_at hl 0 rfl) ?_
  refine e_ist X hW hS h0.1 h0.2 dX8_exchange_13 hf (fun m4 H locs hf hW hS => ?_)
  exact e_vret X hW hS hf dX8_exchange_14
-- OvenHouse$Loaves.turnAbout
def rmX3_turnAbout : Room := { frames := 1, cells := 0, slots := 0, locals := 23 }
set_option maxRecDepth 100000 in
set_option maxHeartbeats 4000000 in
theorem wfX3_turnAbout_70_b {p : Program} {l : Launch} {e : Env} {s : State} {m : MethodId} {args : Array Value} {below : List Frame} {meth : Method} {c : Code} {E : Gv} {F : Nat}  {u : Mem} (X : Fx p m c cX3_turnAbout 4 s args (Cond.code yX3_turnAbout cX3_turnAbout 4 none) "OvenHouse$Loaves" meth none E)  (rec70 : Int32 → Mem → Option Mem) (hrec70 : ∀ (y1 : Int32) (μ : Mem) (H : Heap) (locs : List Loc) (ls : Array Slot), rec70 y1 μ = some u → Wo E μ H → va_S (AE E) s.heap H locs → lv_has ls 4 [(0, .ref (E.1 9)), (1, .int y1)] → W0 p l e rmX3_turnAbout s m args below meth c H locs (QcN E u) E (F0 m 70 ls [])) (y1 : Int32) (μ : Mem) (H : Heap) (locs : List Loc) (ls : Array Slot) (hf : fX3_turnAbout_70_b F  rec70 y1 μ = some u) (hW : Wo E μ H) (hS : va_S (AE E) s.heap H locs) (hl : lv_has ls 4 [(0, .ref (E.1 9)), (1, .int y1)]) : W0 p l e rmX3_turnAbout s m args below meth c H locs (QcN E u) E (F0 m 70 ls []) := by
  unfold fX3_turnAbout_70_b at hf
  refine lv_iload_n X.1.1 X.1.2.1 dX3_turnAbout_70 rfl (lv_at hl 1 rfl) ?_
  refine lv_aload_n X.1.1 X.1.2.1 dX3_turnAbout_71 rfl (lv_at hl 0 rfl) ?_
  refine e_geti X hW (C := RX3) (T := TX3) (N := 7) (j := 6) rfl (by decide) inX3 (by decide) (by decide) rfl rfl mw_1_70 dX3_turnAbout_72 ?_
  refine lv_iconst (v := 1) X.1.1 X.1.2.1 dX3_turnAbout_75 (by decide) ?_
  refine lv_isub X.1.1 X.1.2.1 dX3_turnAbout_76 ?_
  refine lv_iload_n X.1.1 X.1.2.1 dX3_turnAbout_77 rfl (lv_at hl 1 rfl) ?_
  refine lv_isub X.1.1 X.1.2.1 dX3_turnAbout_78 ?_
  refine lv_icmp_ge (tgt := 104) X.1.1 X.1.2.1 dX3_turnAbout_79 (by decide) (fun c79 => ?_) (fun c79 => ?_)
  · rw [if_pos c79] at hf
    exact e_vret X hW hS hf dX3_turnAbout_104
  · rw [if_neg c79] at hf
    refine lv_aload_n X.1.1 X.1.2.1 dX3_turnAbout_82 rfl (lv_at hl 0 rfl) ?_
    refine e_getr X hW (C := RX3) (T := TX3) (N := 7) (j := 4) rfl (by decide) inX3 (by decide) (by decide) rfl (t := 14) rfl rfl mw_1_67 dX3_turnAbout_83 ?_
    refine lv_iload_n X.1.1 X.1.2.1 dX3_turnAbout_86 rfl (lv_at hl 1 rfl) ?_
    refine lv_aload_n X.1.1 X.1.2.1 dX3_turnAbout_87 rfl (lv_at hl 0 rfl) ?_
    refine e_geti X hW (C := RX3) (T := TX3) (N := 7) (j := 6) rfl (by decide) inX3 (by decide) (by decide) rfl rfl mw_1_70 dX3_turnAbout_88 ?_
    refine lv_iconst (v := 1) X.1.1 X.1.2.1 dX3_turnAbout_91 (by decide) ?_
    refine lv_isub X.1.1 X.1.2.1 dX3_turnAbout_92 ?_
    refine lv_iload_n X.1.1 X.1.2.1 dX3_turnAbout_93 rfl (lv_at hl 1 rfl) ?_
    refine lv_isub X.1.1 X.1.2.1 dX3_turnAbout_94 ?_
    refine e_snv (rest := []) (As := [.ref (E.1 14), .int y1, .int (((μ 9 6) - 1) - y1)]) X hl.1 hW hS (ctfX8_exchange X.2.2.2.2 F 14 y1 (((μ 9 6) - 1) - y1) ⟨(by decide), rfl⟩ μ) ⟨va_cnB (rm := rmX8_exchange) (own := "OvenHouse$Loaves") (host := "OvenHouse") (index := 52) 3 X.1.2.2.2.2 (gd_N mw_2_172) rfl rfl rfl (X.2.2.2.1.2 ("OvenHouse$Loaves", 52, yX8_exchange, "OvenHouse") (by decide +kernel)) (X.1.2.2.2.2 _ (List.mem_cons_of_mem _ mw_1_1)) (by decide +kernel) ⟨Nat.le_of_ble_eq_true rfl, Nat.le_of_ble_eq_true rfl⟩, X.1.2.2.2.2 _ (List.mem_cons_of_mem _ mw_2_171), trivial⟩ rfl rfl (Nat.le_of_ble_eq_true rfl) dX3_turnAbout_95 ⟨Nat.zero_le _, Nat.zero_le _⟩ hf (fun m9 H locs hf hW hS => ?_)
    refine lv_iinc (v := (y1 + 1)) (lv' := [(1, .int (y1 + 1)), (0, .ref (E.1 9))]) X.1.1 X.1.2.1 dX3_turnAbout_98 hl (k := 1) rfl rfl (by decide) rfl (fun ls hl => ?_)
    refine lv_goto (tgt := 70) X.1.1 X.1.2.1 dX3_turnAbout_101 (by decide) ?_
    exact hrec70 (y1 + 1) m9 H locs ls hf hW hS (lv_sub hl [1, 0] rfl)
theorem wfX3_turnAbout_70 {p : Program} {l : Launch} {e : Env} {s : State} {m : MethodId} {args : Array Value} {below : List Frame} {meth : Method} {c : Code} {E : Gv} {F : Nat}  {u : Mem} (X : Fx p m c cX3_turnAbout 4 s args (Cond.code yX3_turnAbout cX3_turnAbout 4 none) "OvenHouse$Loaves" meth none E)  (n : Nat) : ∀ (y1 : Int32) (μ : Mem) (H : Heap) (locs : List Loc) (ls : Array Slot) (_ : fX3_turnAbout_70 F   n y1 μ = some u) (_ : Wo E μ H) (_ : va_S (AE E) s.heap H locs) (_ : lv_has ls 4 [(0, .ref (E.1 9)), (1, .int y1)]), W0 p l e rmX3_turnAbout s m args below meth c H locs (QcN E u) E (F0 m 70 ls []) := by
  induction n with
  | zero => intro y1 μ H locs ls hf hW hS hl; cases hf
  | succ n ih => intro y1 μ H locs ls hf hW hS hl; exact wfX3_turnAbout_70_b X  _ ih y1 μ H locs ls hf hW hS hl
set_option maxRecDepth 100000 in
set_option maxHeartbeats 4000000 in
theorem wfX3_turnAbout_2_b {p : Program} {l : Launch} {e : Env} {s : State} {m : MethodId} {args : Array Value} {below : List Frame} {meth : Method} {c : Code} {E : Gv} {F : Nat}  {u : Mem} (X : Fx p m c cX3_turnAbout 4 s args (Cond.code yX3_turnAbout cX3_turnAbout 4 none) "OvenHouse$Loaves" meth none E)  (rec2 : Int32 → Mem → Option Mem) (hrec2 : ∀ (y1 : Int32) (μ : Mem) (H : Heap) (locs : List Loc) (ls : Array Slot), rec2 y1 μ = some u → Wo E μ H → va_S (AE E) s.heap H locs → lv_has ls 4 [(0, .ref (E.1 9)), (1, .int y1)] → W0 p l e rmX3_turnAbout s m args below meth c H locs (QcN E u) E (F0 m 2 ls [])) (y1 : Int32) (μ : Mem) (H : Heap) (locs : List Loc) (ls : Array Slot) (hf : fX3_turnAbout_2_b F  rec2 y1 μ = some u) (hW : Wo E μ H) (hS : va_S (AE E) s.heap H locs) (hl : lv_has ls 4 [(0, .ref (E.1 9)), (1, .int y1)]) : W0 p l e rmX3_turnAbout s m args below meth c H locs (QcN E u) E (F0 m 2 ls []) := by
  unfold fX3_turnAbout_2_b at hf
  refine lv_iload_n X.1.1 X.1.2.1 dX3_turnAbout_2 rfl (lv_at hl 1 rfl) ?_
  refine lv_aload_n X.1.1 X.1.2.1 dX3_turnAbout_3 rfl (lv_at hl 0 rfl) ?_
  refine e_geti X hW (C := RX3) (T := TX3) (N := 7) (j := 6) rfl (by decide) inX3 (by decide) (by decide) rfl rfl mw_1_70 dX3_turnAbout_4 ?_
  refine lv_icmp_ge (tgt := 68) X.1.1 X.1.2.1 dX3_turnAbout_7 (by decide) (fun c7 => ?_) (fun c7 => ?_)
  · rw [if_pos c7] at hf
    refine lv_iconst (v := 0) X.1.1 X.1.2.1 dX3_turnAbout_68 (by decide) ?_
    refine lv_istore_n (lv' := [(1, .int 0), (0, .ref (E.1 9))]) X.1.1 X.1.2.1 dX3_turnAbout_69 rfl hl (by decide) rfl (fun ls hl => ?_)
    exact wfX3_turnAbout_70 X  F 0 μ H locs ls hf hW hS (lv_sub hl [1, 0] rfl)
  · rw [if_neg c7] at hf
    refine lv_aload_n X.1.1 X.1.2.1 dX3_turnAbout_10 rfl (lv_at hl 0 rfl) ?_
    refine e_getr X hW (C := RX3) (T := TX3) (N := 7) (j := 0) rfl (by decide) inX3 (by decide) (by decide) rfl (t := 10) rfl rfl mw_1_57 dX3_turnAbout_11 ?_
    refine lv_iload_n X.1.1 X.1.2.1 dX3_turnAbout_14 rfl (lv_at hl 1 rfl) ?_
    refine e_ild X hW (by decide) rfl dX3_turnAbout_15 hf (fun v1 hf => ?_)
    refine lv_istore_n (lv' := [(2, .int v1), (0, .ref (E.1 9)), (1, .int y1)]) X.1.1 X.1.2.1 dX3_turnAbout_16 rfl hl (by decide) rfl (fun ls hl => ?_)
    refine lv_aload_n X.1.1 X.1.2.1 dX3_turnAbout_17 rfl (lv_at hl 1 rfl) ?_
    refine e_getr X hW (C := RX3) (T := TX3) (N := 7) (j := 0) rfl (by decide) inX3 (by decide) (by decide) rfl (t := 10) rfl rfl mw_1_57 dX3_turnAbout_18 ?_
    refine lv_iload_n X.1.1 X.1.2.1 dX3_turnAbout_21 rfl (lv_at hl 2 rfl) ?_
    refine lv_aload_n X.1.1 X.1.2.1 dX3_turnAbout_22 rfl (lv_at hl 1 rfl) ?_
    refine e_getr X hW (C := RX3) (T := TX3) (N := 7) (j := 1) rfl (by decide) inX3 (by decide) (by decide) rfl (t := 11) rfl rfl mw_1_60 dX3_turnAbout_23 ?_
    refine lv_iload_n X.1.1 X.1.2.1 dX3_turnAbout_26 rfl (lv_at hl 2 rfl) ?_
    refine e_ild X hW (by decide) rfl dX3_turnAbout_27 hf (fun v2 hf => ?_)
    refine e_ist X hW hS (by decide) rfl dX3_turnAbout_28 hf (fun m3 H locs hf hW hS => ?_)
    refine lv_aload_n X.1.1 X.1.2.1 dX3_turnAbout_29 rfl (lv_at hl 1 rfl) ?_
    refine e_getr X hW (C := RX3) (T := TX3) (N := 7) (j := 1) rfl (by decide) inX3 (by decide) (by decide) rfl (t := 11) rfl rfl mw_1_60 dX3_turnAbout_30 ?_
    refine lv_iload_n X.1.1 X.1.2.1 dX3_turnAbout_33 rfl (lv_at hl 2 rfl) ?_
    refine lv_iload_n X.1.1 X.1.2.1 dX3_turnAbout_34 rfl (lv_at hl 0 rfl) ?_
    refine e_ist X hW hS (by decide) rfl dX3_turnAbout_35 hf (fun m4 H locs hf hW hS => ?_)
    refine lv_aload_n X.1.1 X.1.2.1 dX3_turnAbout_36 rfl (lv_at hl 1 rfl) ?_
    refine e_getr X hW (C := RX3) (T := TX3) (N := 7) (j := 2) rfl (by decide) inX3 (by decide) (by decide) rfl (t := 12) rfl rfl mw_1_63 dX3_turnAbout_37 ?_
    refine lv_iload_n X.1.1 X.1.2.1 dX3_turnAbout_40 rfl (lv_at hl 2 rfl) ?_
    refine e_ild X hW (by decide) rfl dX3_turnAbout_41 hf (fun v5 hf => ?_)
    refine lv_istore_n (lv' := [(3, .int v5), (2, .int v1), (0, .ref (E.1 9)), (1, .int y1)]) X.1.1 X.1.2.1 dX3_turnAbout_42 rfl hl (by decide) rfl (fun ls hl => ?_)
    refine lv_aload_n X.1.1 X.1.2.1 dX3_turnAbout_43 rfl (lv_at hl 2 rfl) ?_
    refine e_getr X hW (C := RX3) (T := TX3) (N := 7) (j := 2) rfl (by decide) inX3 (by decide) (by decide) rfl (t := 12) rfl rfl mw_1_63 dX3_turnAbout_44 ?_
    refine lv_iload_n X.1.1 X.1.2.1 dX3_turnAbout_47 rfl (lv_at hl 3 rfl) ?_
    refine lv_aload_n X.1.1 X.1.2.1 dX3_turnAbout_48 rfl (lv_at hl 2 rfl) ?_
    refine e_getr X hW (C := RX3) (T := TX3) (N := 7) (j := 3) rfl (by decide) inX3 (by decide) (by decide) rfl (t := 13) rfl rfl mw_1_65 dX3_turnAbout_49 ?_
    refine lv_iload_n X.1.1 X.1.2.1 dX3_turnAbout_52 rfl (lv_at hl 3 rfl) ?_
    refine e_ild X hW (by decide) rfl dX3_turnAbout_53 hf (fun v6 hf => ?_)
    refine e_ist X hW hS (by decide) rfl dX3_turnAbout_54 hf (fun m7 H locs hf hW hS => ?_)
    refine lv_aload_n X.1.1 X.1.2.1 dX3_turnAbout_55 rfl (lv_at hl 2 rfl) ?_
    refine e_getr X hW (C := RX3) (T := TX3) (N := 7) (j := 3) rfl (by decide) inX3 (by decide) (by decide) rfl (t := 13) rfl rfl mw_1_65 dX3_turnAbout_56 ?_
    refine lv_iload_n X.1.1 X.1.2.1 dX3_turnAbout_59 rfl (lv_at hl 3 rfl) ?_
    refine lv_iload_n X.1.1 X.1.2.1 dX3_turnAbout_60 rfl (lv_at hl 0 rfl) ?_
    refine e_ist X hW hS (by decide) rfl dX3_turnAbout_61 hf (fun m8 H locs hf hW hS => ?_)
    refine lv_iinc (v := (y1 + 1)) (lv' := [(1, .int (y1 + 1)), (3, .int v5), (2, .int v1), (0, .ref (E.1 9))]) X.1.1 X.1.2.1 dX3_turnAbout_62 hl (k := 3) rfl rfl (by decide) rfl (fun ls hl => ?_)
    refine lv_goto (tgt := 2) X.1.1 X.1.2.1 dX3_turnAbout_65 (by decide) ?_
    exact hrec2 (y1 + 1) m8 H locs ls hf hW hS (lv_sub hl [3, 0] rfl)
theorem wfX3_turnAbout_2 {p : Program} {l : Launch} {e : Env} {s : State} {m : MethodId} {args : Array Value} {below : List Frame} {meth : Method} {c : Code} {E : Gv} {F : Nat}  {u : Mem} (X : Fx p m c cX3_turnAbout 4 s args (Cond.code yX3_turnAbout cX3_turnAbout 4 none) "OvenHouse$Loaves" meth none E)  (n : Nat) : ∀ (y1 : Int32) (μ : Mem) (H : Heap) (locs : List Loc) (ls : Array Slot) (_ : fX3_turnAbout_2 F   n y1 μ = some u) (_ : Wo E μ H) (_ : va_S (AE E) s.heap H locs) (_ : lv_has ls 4 [(0, .ref (E.1 9)), (1, .int y1)]), W0 p l e rmX3_turnAbout s m args below meth c H locs (QcN E u) E (F0 m 2 ls []) := by
  induction n with
  | zero => intro y1 μ H locs ls hf hW hS hl; cases hf
  | succ n ih => intro y1 μ H locs ls hf hW hS hl; exact wfX3_turnAbout_2_b X  _ ih y1 μ H locs ls hf hW hS hl
set_option maxRecDepth 100000 in
set_option maxHeartbeats 4000000 in
theorem ctfX3_turnAbout {l : Launch} {E : Gv} (hD : Do E) (F : Nat)  (μ : Mem) : CtV l yX3_turnAbout ((Cond.code yX3_turnAbout cX3_turnAbout 4 none) :: GG) rmX3_turnAbout E [.ref (E.1 9)] μ (fX3_turnAbout F μ) := by
  intro u hf
  refine of_entry (cc := cX3_turnAbout) (maxL := 4) (ret := none) (by decide +kernel) rfl hD (Nat.le_of_ble_eq_true rfl) (fun p e s m args below meth c X H locs hW hS ls hl => ?_)
  have hl : lv_has ls 4 [(0, .ref (E.1 9))] := hl
  unfold fX3_turnAbout at hf
  refine lv_iconst (v := 0) X.1.1 X.1.2.1 dX3_turnAbout_0 (by decide) ?_
  refine lv_istore_n (lv' := [(1, .int 0), (0, .ref (E.1 9))]) X.1.1 X.1.2.1 dX3_turnAbout_1 rfl hl (by decide) rfl (fun ls hl => ?_)
  exact wfX3_turnAbout_2 X  F 0 μ H locs ls hf hW hS (lv_sub hl [1, 0] rfl)
-- OvenHouse$Prices.hasLossyStretch
def rmX4_hasLossyStretch : Room := { frames := 0, cells := 0, slots := 0, locals := 0 }
set_option maxRecDepth 100000 in
set_option maxHeartbeats 4000000 in
theorem wfX4_hasLossyStretch_2_b {p : Program} {l : Launch} {e : Env} {s : State} {m : MethodId} {args : Array Value} {below : List Frame} {meth : Method} {c : Code} {E : Gv} {F : Nat}  {r : Int32} {u : Mem} (X : Fx p m c cX4_hasLossyStretch 2 s args (Cond.code yX4_hasLossyStretch cX4_hasLossyStretch 2 (some .boolean)) "OvenHouse$Prices" meth (some .boolean) E)  (rec2 : Int32 → Mem → Option (Int32 × Mem)) (hrec2 : ∀ (y1 : Int32) (μ : Mem) (H : Heap) (locs : List Loc) (ls : Array Slot), rec2 y1 μ = some (r, u) → Wo E μ H → va_S (AE E) s.heap H locs → lv_has ls 2 [(0, .ref (E.1 73)), (1, .int y1)] → W0 p l e rmX4_hasLossyStretch s m args below meth c H locs (QcI E r u) E (F0 m 2 ls [])) (y1 : Int32) (μ : Mem) (H : Heap) (locs : List Loc) (ls : Array Slot) (hf : fX4_hasLossyStretch_2_b F  rec2 y1 μ = some (r, u)) (hW : Wo E μ H) (hS : va_S (AE E) s.heap H locs) (hl : lv_has ls 2 [(0, .ref (E.1 73)), (1, .int y1)]) : W0 p l e rmX4_hasLossyStretch s m args below meth c H locs (QcI E r u) E (F0 m 2 ls []) := by
  unfold fX4_hasLossyStretch_2_b at hf
  refine lv_iload_n X.1.1 X.1.2.1 dX4_hasLossyStretch_2 rfl (lv_at hl 1 rfl) ?_
  refine lv_bipush (v := 8) X.1.1 X.1.2.1 dX4_hasLossyStretch_3 (by decide) ?_
  refine lv_icmp_ge (tgt := 32) X.1.1 X.1.2.1 dX4_hasLossyStretch_5 (by decide) (fun c5 => ?_) (fun c5 => ?_)
  · rw [if_pos c5] at hf
    refine lv_iconst (v := 0) X.1.1 X.1.2.1 dX4_hasLossyStretch_32 (by decide) ?_
    exact e_zret X hW hS hf dX4_hasLossyStretch_33
  · rw [if_neg c5] at hf
    refine lv_aload_n X.1.1 X.1.2.1 dX4_hasLossyStretch_8 rfl (lv_at hl 0 rfl) ?_
    refine e_getr X hW (C := RX4) (T := TX4) (N := 2) (j := 0) rfl (by decide) inX4 (by decide) (by decide) rfl (t := 74) rfl rfl mw_2_2 dX4_hasLossyStretch_9 ?_
    refine lv_iload_n X.1.1 X.1.2.1 dX4_hasLossyStretch_12 rfl (lv_at hl 1 rfl) ?_
    refine e_ild X hW (by decide) rfl dX4_hasLossyStretch_13 hf (fun v1 hf => ?_)
    refine lv_aload_n X.1.1 X.1.2.1 dX4_hasLossyStretch_14 rfl (lv_at hl 0 rfl) ?_
    refine e_getr X hW (C := RX4) (T := TX4) (N := 2) (j := 1) rfl (by decide) inX4 (by decide) (by decide) rfl (t := 75) rfl rfl mw_2_4 dX4_hasLossyStretch_15 ?_
    refine lv_iload_n X.1.1 X.1.2.1 dX4_hasLossyStretch_18 rfl (lv_at hl 1 rfl) ?_
    refine e_ild X hW (by decide) rfl dX4_hasLossyStretch_19 hf (fun v2 hf => ?_)
    refine lv_iadd X.1.1 X.1.2.1 dX4_hasLossyStretch_20 ?_
    refine lv_if_ge (tgt := 26) X.1.1 X.1.2.1 dX4_hasLossyStretch_21 (by decide) (fun c21 => ?_) (fun c21 => ?_)
    · rw [if_pos c21] at hf
      refine lv_iinc (v := (y1 + 1)) (lv' := [(1, .int (y1 + 1)), (0, .ref (E.1 73))]) X.1.1 X.1.2.1 dX4_hasLossyStretch_26 hl (k := 1) rfl rfl (by decide) rfl (fun ls hl => ?_)
      refine lv_goto (tgt := 2) X.1.1 X.1.2.1 dX4_hasLossyStretch_29 (by decide) ?_
      exact hrec2 (y1 + 1) μ H locs ls hf hW hS (lv_sub hl [1, 0] rfl)
    · rw [if_neg c21] at hf
      refine lv_iconst (v := 1) X.1.1 X.1.2.1 dX4_hasLossyStretch_24 (by decide) ?_
      exact e_zret X hW hS hf dX4_hasLossyStretch_25
theorem wfX4_hasLossyStretch_2 {p : Program} {l : Launch} {e : Env} {s : State} {m : MethodId} {args : Array Value} {below : List Frame} {meth : Method} {c : Code} {E : Gv} {F : Nat}  {r : Int32} {u : Mem} (X : Fx p m c cX4_hasLossyStretch 2 s args (Cond.code yX4_hasLossyStretch cX4_hasLossyStretch 2 (some .boolean)) "OvenHouse$Prices" meth (some .boolean) E)  (n : Nat) : ∀ (y1 : Int32) (μ : Mem) (H : Heap) (locs : List Loc) (ls : Array Slot) (_ : fX4_hasLossyStretch_2 F   n y1 μ = some (r, u)) (_ : Wo E μ H) (_ : va_S (AE E) s.heap H locs) (_ : lv_has ls 2 [(0, .ref (E.1 73)), (1, .int y1)]), W0 p l e rmX4_hasLossyStretch s m args below meth c H locs (QcI E r u) E (F0 m 2 ls []) := by
  induction n with
  | zero => intro y1 μ H locs ls hf hW hS hl; cases hf
  | succ n ih => intro y1 μ H locs ls hf hW hS hl; exact wfX4_hasLossyStretch_2_b X  _ ih y1 μ H locs ls hf hW hS hl
set_option maxRecDepth 100000 in
set_option maxHeartbeats 4000000 in
theorem ctfX4_hasLossyStretch {l : Launch} {E : Gv} (hD : Do E) (F : Nat)  (μ : Mem) : CtI l yX4_hasLossyStretch ((Cond.code yX4_hasLossyStretch cX4_hasLossyStretch 2 (some .boolean)) :: GG) rmX4_hasLossyStretch E [.ref (E.1 73)] μ (fX4_hasLossyStretch F μ) := by
  intro r u hf
  refine of_entry (cc := cX4_hasLossyStretch) (maxL := 2) (ret := (some .boolean)) (by decide +kernel) rfl hD (Nat.le_of_ble_eq_true rfl) (fun p e s m args below meth c X H locs hW hS ls hl => ?_)
  have hl : lv_has ls 2 [(0, .ref (E.1 73))] := hl
  unfold fX4_hasLossyStretch at hf
  refine lv_iconst (v := 0) X.1.1 X.1.2.1 dX4_hasLossyStretch_0 (by decide) ?_
  refine lv_istore_n (lv' := [(1, .int 0), (0, .ref (E.1 73))]) X.1.1 X.1.2.1 dX4_hasLossyStretch_1 rfl hl (by decide) rfl (fun ls hl => ?_)
  exact wfX4_hasLossyStretch_2 X  F 0 μ H locs ls hf hW hS (lv_sub hl [1, 0] rfl)
-- OvenHouse$Prices.below
def rmX4_below : Room := { frames := 1, cells := 0, slots := 0, locals := 15 }
set_option maxRecDepth 100000 in
set_option maxHeartbeats 4000000 in
theorem wfX4_below_37 {p : Program} {l : Launch} {e : Env} {s : State} {m : MethodId} {args : Array Value} {below : List Frame} {meth : Method} {c : Code} {E : Gv} {F : Nat} {k0 : Nat} {r : Int32} {u : Mem} (X : Fx p m c cX4_below 6 s args (Cond.code yX4_below cX4_below 6 (some .int)) "OvenHouse$Prices" meth (some .int) E) (h0 : k0 < NC ∧ kd k0 = 10) (rec4 : Int32 → Int32 → Int32 → Mem → Option (Int32 × Mem)) (hrec4 : ∀ (y1 : Int32) (y2 : Int32) (y3 : Int32) (μ : Mem) (H : Heap) (locs : List Loc) (ls : Array Slot), rec4 y1 y2 y3 μ = some (r, u) → Wo E μ H → va_S (AE E) s.heap H locs → lv_has ls 6 [(0, .ref (E.1 k0)), (1, .int y1), (2, .int y2), (3, .int y3)] → W0 p l e rmX4_below s m args below meth c H locs (QcI E r u) E (F0 m 4 ls [])) (y1 : Int32) (y2 : Int32) (y3 : Int32) (y4 : Int32) (z0 : Int32) (μ : Mem) (H : Heap) (locs : List Loc) (ls : Array Slot) (hf : fX4_below_37 F k0 rec4 y1 y2 y3 y4 z0 μ = some (r, u)) (hW : Wo E μ H) (hS : va_S (AE E) s.heap H locs) (hl : lv_has ls 6 [(0, .ref (E.1 k0)), (1, .int y1), (2, .int y2), (3, .int y3), (4, .int y4)]) : W0 p l e rmX4_below s m args below meth c H locs (QcI E r u) E (F0 m 37 ls [.int z0]) := by
  unfold fX4_below_37 at hf
  refine lv_istore (lv' := [(5, .int z0), (0, .ref (E.1 k0)), (1, .int y1), (2, .int y2), (3, .int y3), (4, .int y4)]) X.1.1 X.1.2.1 dX4_below_37 hl (by decide) rfl (fun ls hl => ?_)
  refine lv_iload_n X.1.1 X.1.2.1 dX4_below_39 rfl (lv_at hl 3 rfl) ?_
  refine lv_aload_n X.1.1 X.1.2.1 dX4_below_40 rfl (lv_at hl 1 rfl) ?_
  refine lv_iload_n X.1.1 X.1.2.1 dX4_below_41 rfl (lv_at hl 4 rfl) ?_
  refine e_ild X hW h0.1 h0.2 dX4_below_42 hf (fun v1 hf => ?_)
  refine lv_iconst (v := 0) X.1.1 X.1.2.1 dX4_below_43 (by decide) ?_
  refine lv_iload X.1.1 X.1.2.1 dX4_below_44 (lv_at hl 0 rfl) ?_
  refine lv_iload X.1.1 X.1.2.1 dX4_below_46 (lv_at hl 5 rfl) ?_
  refine lv_isub X.1.1 X.1.2.1 dX4_below_48 ?_
  refine e_max X hl.1 mw_3_36 mw_2_198 mw_1_13 mw_2_199 ⟨Nat.le_of_ble_eq_true rfl, Nat.le_of_ble_eq_true rfl⟩ ⟨Nat.zero_le _, Nat.zero_le _⟩ dX4_below_49 ?_
  refine lv_imul X.1.1 X.1.2.1 dX4_below_52 ?_
  refine lv_iadd X.1.1 X.1.2.1 dX4_below_53 ?_
  refine lv_istore_n (lv' := [(2, .int (y2 + (v1 * (imax 0 (z0 - y4))))), (5, .int z0), (0, .ref (E.1 k0)), (1, .int y1), (3, .int y3), (4, .int y4)]) X.1.1 X.1.2.1 dX4_below_54 rfl hl (by decide) rfl (fun ls hl => ?_)
  refine lv_iinc (v := (y3 + 1)) (lv' := [(3, .int (y3 + 1)), (2, .int (y2 + (v1 * (imax 0 (z0 - y4))))), (5, .int z0), (0, .ref (E.1 k0)), (1, .int y1), (4, .int y4)]) X.1.1 X.1.2.1 dX4_below_55 hl (k := 4) rfl rfl (by decide) rfl (fun ls hl => ?_)
  refine lv_goto (tgt := 4) X.1.1 X.1.2.1 dX4_below_58 (by decide) ?_
  exact hrec4 y1 (y2 + (v1 * (imax 0 (z0 - y4)))) (y3 + 1) μ H locs ls hf hW hS (lv_sub hl [3, 4, 1, 0] rfl)
set_option maxRecDepth 100000 in
set_option maxHeartbeats 4000000 in
theorem wfX4_below_4_b {p : Program} {l : Launch} {e : Env} {s : State} {m : MethodId} {args : Array Value} {below : List Frame} {meth : Method} {c : Code} {E : Gv} {F : Nat} {k0 : Nat} {r : Int32} {u : Mem} (X : Fx p m c cX4_below 6 s args (Cond.code yX4_below cX4_below 6 (some .int)) "OvenHouse$Prices" meth (some .int) E) (h0 : k0 < NC ∧ kd k0 = 10) (rec4 : Int32 → Int32 → Int32 → Mem → Option (Int32 × Mem)) (hrec4 : ∀ (y1 : Int32) (y2 : Int32) (y3 : Int32) (μ : Mem) (H : Heap) (locs : List Loc) (ls : Array Slot), rec4 y1 y2 y3 μ = some (r, u) → Wo E μ H → va_S (AE E) s.heap H locs → lv_has ls 6 [(0, .ref (E.1 k0)), (1, .int y1), (2, .int y2), (3, .int y3)] → W0 p l e rmX4_below s m args below meth c H locs (QcI E r u) E (F0 m 4 ls [])) (y1 : Int32) (y2 : Int32) (y3 : Int32) (μ : Mem) (H : Heap) (locs : List Loc) (ls : Array Slot) (hf : fX4_below_4_b F k0 rec4 y1 y2 y3 μ = some (r, u)) (hW : Wo E μ H) (hS : va_S (AE E) s.heap H locs) (hl : lv_has ls 6 [(0, .ref (E.1 k0)), (1, .int y1), (2, .int y2), (3, .int y3)]) : W0 p l e rmX4_below s m args below meth c H locs (QcI E r u) E (F0 m 4 ls []) := by
  unfold fX4_below_4_b at hf
  refine lv_iload_n X.1.1 X.1.2.1 dX4_below_4 rfl (lv_at hl 3 rfl) ?_
  refine lv_bipush (v := 8) X.1.1 X.1.2.1 dX4_below_5 (by decide) ?_
  refine lv_icmp_ge (tgt := 61) X.1.1 X.1.2.1 dX4_below_7 (by decide) (fun c7 => ?_) (fun c7 => ?_)
  · rw [if_pos c7] at hf
    refine lv_iload_n X.1.1 X.1.2.1 dX4_below_61 rfl (lv_at hl 2 rfl) ?_
    exact e_iret X hW hS hf dX4_below_62
  · rw [if_neg c7] at hf
    refine lv_iload_n X.1.1 X.1.2.1 dX4_below_10 rfl (lv_at hl 3 rfl) ?_
    refine lv_bipush (v := 50) X.1.1 X.1.2.1 dX4_below_11 (by decide) ?_
    refine lv_imul X.1.1 X.1.2.1 dX4_below_13 ?_
    refine lv_istore (lv' := [(4, .int (y3 * 50)), (0, .ref (E.1 k0)), (1, .int y1), (2, .int y2), (3, .int y3)]) X.1.1 X.1.2.1 dX4_below_14 hl (by decide) rfl (fun ls hl => ?_)
    refine lv_iload_n X.1.1 X.1.2.1 dX4_below_16 rfl (lv_at hl 4 rfl) ?_
    refine lv_iconst (v := 1) X.1.1 X.1.2.1 dX4_below_17 (by decide) ?_
    refine lv_iadd X.1.1 X.1.2.1 dX4_below_18 ?_
    refine lv_bipush (v := 8) X.1.1 X.1.2.1 dX4_below_19 (by decide) ?_
    refine lv_icmp_ge (tgt := 36) X.1.1 X.1.2.1 dX4_below_21 (by decide) (fun c21 => ?_) (fun c21 => ?_)
    · rw [if_pos c21] at hf
      refine lv_iload_n X.1.1 X.1.2.1 dX4_below_36 rfl (lv_at hl 2 rfl) ?_
      exact wfX4_below_37 X h0 rec4 hrec4 y1 y2 y3 (y3 * 50) y1 μ H locs ls hf hW hS (lv_sub hl [1, 2, 3, 4, 0] rfl)
    · rw [if_neg c21] at hf
      refine lv_iload_n X.1.1 X.1.2.1 dX4_below_24 rfl (lv_at hl 2 rfl) ?_
      refine lv_iload X.1.1 X.1.2.1 dX4_below_25 (lv_at hl 0 rfl) ?_
      refine lv_bipush (v := 50) X.1.1 X.1.2.1 dX4_below_27 (by decide) ?_
      refine lv_iadd X.1.1 X.1.2.1 dX4_below_29 ?_
      refine e_min X hl.1 mw_3_35 mw_2_122 mw_1_13 mw_2_123 ⟨Nat.le_of_ble_eq_true rfl, Nat.le_of_ble_eq_true rfl⟩ ⟨Nat.zero_le _, Nat.zero_le _⟩ dX4_below_30 ?_
      refine lv_goto (tgt := 37) X.1.1 X.1.2.1 dX4_below_33 (by decide) ?_
      exact wfX4_below_37 X h0 rec4 hrec4 y1 y2 y3 (y3 * 50) (imin y1 ((y3 * 50) + 50)) μ H locs ls hf hW hS (lv_sub hl [1, 2, 3, 4, 0] rfl)
theorem wfX4_below_4 {p : Program} {l : Launch} {e : Env} {s : State} {m : MethodId} {args : Array Value} {below : List Frame} {meth : Method} {c : Code} {E : Gv} {F : Nat} {k0 : Nat} {r : Int32} {u : Mem} (X : Fx p m c cX4_below 6 s args (Cond.code yX4_below cX4_below 6 (some .int)) "OvenHouse$Prices" meth (some .int) E) (h0 : k0 < NC ∧ kd k0 = 10) (n : Nat) : ∀ (y1 : Int32) (y2 : Int32) (y3 : Int32) (μ : Mem) (H : Heap) (locs : List Loc) (ls : Array Slot) (_ : fX4_below_4 F k0  n y1 y2 y3 μ = some (r, u)) (_ : Wo E μ H) (_ : va_S (AE E) s.heap H locs) (_ : lv_has ls 6 [(0, .ref (E.1 k0)), (1, .int y1), (2, .int y2), (3, .int y3)]), W0 p l e rmX4_below s m args below meth c H locs (QcI E r u) E (F0 m 4 ls []) := by
  induction n with
  | zero => intro y1 y2 y3 μ H locs ls hf hW hS hl; cases hf
  | succ n ih => intro y1 y2 y3 μ H locs ls hf hW hS hl; exact wfX4_below_4_b X h0 _ ih y1 y2 y3 μ H locs ls hf hW hS hl
set_option maxRecDepth 100000 in
set_option maxHeartbeats 4000000 in
theorem ctfX4_below {l : Launch} {E : Gv} (hD : Do E) (F : Nat) (k0 : Nat) (x1 : Int32) (h0 : k0 < NC ∧ kd k0 = 10) (μ : Mem) : CtI l yX4_below ((Cond.code yX4_below cX4_below 6 (some .int)) :: GG) rmX4_below E [.ref (E.1 k0), .int x1] μ (fX4_below F k0 x1 μ) := by
  intro r u hf
  refine of_entry (cc := cX4_below) (maxL := 6) (ret := (some .int)) (by decide +kernel) rfl hD (Nat.le_of_ble_eq_true rfl) (fun p e s m args below meth c X H locs hW hS ls hl => ?_)
  have hl : lv_has ls 6 [(0, .ref (E.1 k0)), (1, .int x1)] := hl
  unfold fX4_below at hf
  refine lv_iconst (v := 0) X.1.1 X.1.2.1 dX4_below_0 (by decide) ?_
  refine lv_istore_n (lv' := [(2, .int 0), (0, .ref (E.1 k0)), (1, .int x1)]) X.1.1 X.1.2.1 dX4_below_1 rfl hl (by decide) rfl (fun ls hl => ?_)
  refine lv_iconst (v := 0) X.1.1 X.1.2.1 dX4_below_2 (by decide) ?_
  refine lv_istore_n (lv' := [(3, .int 0), (2, .int 0), (0, .ref (E.1 k0)), (1, .int x1)]) X.1.1 X.1.2.1 dX4_below_3 rfl hl (by decide) rfl (fun ls hl => ?_)
  exact wfX4_below_4 X h0 F x1 0 0 μ H locs ls hf hW hS (lv_sub hl [2, 3, 1, 0] rfl)
-- OvenHouse$Prices.going
def rmX4_going : Room := { frames := 2, cells := 0, slots := 0, locals := 40 }
set_option maxRecDepth 100000 in
set_option maxHeartbeats 4000000 in
theorem ctfX4_going {l : Launch} {E : Gv} (hD : Do E) (F : Nat) (k0 : Nat) (x1 : Int32) (x2 : Int32) (h0 : isPr k0) (μ : Mem) : CtI l yX4_going ((Cond.code yX4_going cX4_going 3 (some .int)) :: GG) rmX4_going E [.ref (E.1 k0), .int x1, .int x2] μ (fX4_going F k0 x1 x2 μ) := by
  intro r u hf
  refine of_entry (cc := cX4_going) (maxL := 3) (ret := (some .int)) (by decide +kernel) rfl hD (Nat.le_of_ble_eq_true rfl) (fun p e s m args below meth c X H locs hW hS ls hl => ?_)
  have hl : lv_has ls 3 [(0, .ref (E.1 k0)), (1, .int x1), (2, .int x2)] := hl
  unfold fX4_going at hf
  refine lv_iload_n X.1.1 X.1.2.1 dX4_going_0 rfl (lv_at hl 1 rfl) ?_
  refine lv_iload_n X.1.1 X.1.2.1 dX4_going_1 rfl (lv_at hl 2 rfl) ?_
  refine lv_icmp_ge (tgt := 25) X.1.1 X.1.2.1 dX4_going_2 (by decide) (fun c2 => ?_) (fun c2 => ?_)
  · rw [if_pos c2] at hf
    refine lv_aload_n X.1.1 X.1.2.1 dX4_going_25 rfl (lv_at hl 0 rfl) ?_
    refine e_getr X hW (C := RX4) (T := TX4) (N := 2) (j := 1) (by rw [h0.2.1]; rfl) h0.1 inX4 (by decide) (by rw [h0.2.1]; decide) (by rw [h0.2.1]; rfl) (t := (k0 + 1 + 1)) (h0.2.2 1 (by decide)).1 rfl mw_2_4 dX4_going_26 ?_
    refine lv_iload_n X.1.1 X.1.2.1 dX4_going_29 rfl (lv_at hl 1 rfl) ?_
    refine e_si (rest := []) (As := [.ref (E.1 (k0 + 1 + 1)), .int x1]) X hl.1 hW hS (ctfX4_below X.2.2.2.2 F (k0 + 1 + 1) x1 ⟨(h0.2.2 1 (by decide)).2.1, (h0.2.2 1 (by decide)).2.2.1⟩ μ) (cwS (rm := rmX4_below) 2 X.1.2.2.2.2 (gd_S mw_3_32 mw_3_33 mw_1_10 mw_3_34) rfl rfl rfl (by decide +kernel) ⟨Nat.le_of_ble_eq_true rfl, Nat.le_of_ble_eq_true rfl⟩) rfl rfl (Nat.le_of_ble_eq_true rfl) dX4_going_30 ⟨Nat.zero_le _, Nat.zero_le _⟩ hf (fun r2 m1 H locs hf hW hS => ?_)
    refine lv_aload_n X.1.1 X.1.2.1 dX4_going_33 rfl (lv_at hl 0 rfl) ?_
    refine e_getr X hW (C := RX4) (T := TX4) (N := 2) (j := 1) (by rw [h0.2.1]; rfl) h0.1 inX4 (by decide) (by rw [h0.2.1]; decide) (by rw [h0.2.1]; rfl) (t := (k0 + 1 + 1)) (h0.2.2 1 (by decide)).1 rfl mw_2_4 dX4_going_34 ?_
    refine lv_iload_n X.1.1 X.1.2.1 dX4_going_37 rfl (lv_at hl 2 rfl) ?_
    refine e_si (rest := [.int r2]) (As := [.ref (E.1 (k0 + 1 + 1)), .int x2]) X hl.1 hW hS (ctfX4_below X.2.2.2.2 F (k0 + 1 + 1) x2 ⟨(h0.2.2 1 (by decide)).2.1, (h0.2.2 1 (by decide)).2.2.1⟩ m1) (cwS (rm := rmX4_below) 2 X.1.2.2.2.2 (gd_S mw_3_32 mw_3_33 mw_1_10 mw_3_34) rfl rfl rfl (by decide +kernel) ⟨Nat.le_of_ble_eq_true rfl, Nat.le_of_ble_eq_true rfl⟩) rfl rfl (Nat.le_of_ble_eq_true rfl) dX4_going_38 ⟨Nat.zero_le _, Nat.zero_le _⟩ hf (fun r4 m3 H locs hf hW hS => ?_)
    refine lv_isub X.1.1 X.1.2.1 dX4_going_41 ?_
    exact e_iret X hW hS hf dX4_going_42
  · rw [if_neg c2] at hf
    refine lv_aload_n X.1.1 X.1.2.1 dX4_going_5 rfl (lv_at hl 0 rfl) ?_
    refine e_getr X hW (C := RX4) (T := TX4) (N := 2) (j := 0) (by rw [h0.2.1]; rfl) h0.1 inX4 (by decide) (by rw [h0.2.1]; decide) (by rw [h0.2.1]; rfl) (t := (k0 + 1 + 0)) (h0.2.2 0 (by decide)).1 rfl mw_2_2 dX4_going_6 ?_
    refine lv_iload_n X.1.1 X.1.2.1 dX4_going_9 rfl (lv_at hl 2 rfl) ?_
    refine e_si (rest := []) (As := [.ref (E.1 (k0 + 1 + 0)), .int x2]) X hl.1 hW hS (ctfX4_below X.2.2.2.2 F (k0 + 1 + 0) x2 ⟨(h0.2.2 0 (by decide)).2.1, (h0.2.2 0 (by decide)).2.2.1⟩ μ) (cwS (rm := rmX4_below) 2 X.1.2.2.2.2 (gd_S mw_3_32 mw_3_33 mw_1_10 mw_3_34) rfl rfl rfl (by decide +kernel) ⟨Nat.le_of_ble_eq_true rfl, Nat.le_of_ble_eq_true rfl⟩) rfl rfl (Nat.le_of_ble_eq_true rfl) dX4_going_10 ⟨Nat.zero_le _, Nat.zero_le _⟩ hf (fun r6 m5 H locs hf hW hS => ?_)
    refine lv_aload_n X.1.1 X.1.2.1 dX4_going_13 rfl (lv_at hl 0 rfl) ?_
    refine e_getr X hW (C := RX4) (T := TX4) (N := 2) (j := 0) (by rw [h0.2.1]; rfl) h0.1 inX4 (by decide) (by rw [h0.2.1]; decide) (by rw [h0.2.1]; rfl) (t := (k0 + 1 + 0)) (h0.2.2 0 (by decide)).1 rfl mw_2_2 dX4_going_14 ?_
    refine lv_iload_n X.1.1 X.1.2.1 dX4_going_17 rfl (lv_at hl 1 rfl) ?_
    refine e_si (rest := [.int r6]) (As := [.ref (E.1 (k0 + 1 + 0)), .int x1]) X hl.1 hW hS (ctfX4_below X.2.2.2.2 F (k0 + 1 + 0) x1 ⟨(h0.2.2 0 (by decide)).2.1, (h0.2.2 0 (by decide)).2.2.1⟩ m5) (cwS (rm := rmX4_below) 2 X.1.2.2.2.2 (gd_S mw_3_32 mw_3_33 mw_1_10 mw_3_34) rfl rfl rfl (by decide +kernel) ⟨Nat.le_of_ble_eq_true rfl, Nat.le_of_ble_eq_true rfl⟩) rfl rfl (Nat.le_of_ble_eq_true rfl) dX4_going_18 ⟨Nat.zero_le _, Nat.zero_le _⟩ hf (fun r8 m7 H locs hf hW hS => ?_)
    refine lv_isub X.1.1 X.1.2.1 dX4_going_21 ?_
    refine lv_goto (tgt := 42) X.1.1 X.1.2.1 dX4_going_22 (by decide) ?_
    exact e_iret X hW hS hf dX4_going_42
-- OvenHouse$Rings.costOfAll
def rmX5_costOfAll : Room := { frames := 3, cells := 0, slots := 0, locals := 62 }
set_option maxRecDepth 100000 in
set_option maxHeartbeats 4000000 in
theorem wfX5_costOfAll_4_b {p : Program} {l : Launch} {e : Env} {s : State} {m : MethodId} {args : Array Value} {below : List Frame} {meth : Method} {c : Code} {E : Gv} {F : Nat} {k1 : Nat} {r : Int32} {u : Mem} (X : Fx p m c cX5_costOfAll 4 s args (Cond.code yX5_costOfAll cX5_costOfAll 4 (some .int)) "OvenHouse$Rings" meth (some .int) E) (h1 : isPr k1) (rec4 : Int32 → Int32 → Mem → Option (Int32 × Mem)) (hrec4 : ∀ (y2 : Int32) (y3 : Int32) (μ : Mem) (H : Heap) (locs : List Loc) (ls : Array Slot), rec4 y2 y3 μ = some (r, u) → Wo E μ H → va_S (AE E) s.heap H locs → lv_has ls 4 [(0, .ref (E.1 61)), (1, .ref (E.1 k1)), (2, .int y2), (3, .int y3)] → W0 p l e rmX5_costOfAll s m args below meth c H locs (QcI E r u) E (F0 m 4 ls [])) (y2 : Int32) (y3 : Int32) (μ : Mem) (H : Heap) (locs : List Loc) (ls : Array Slot) (hf : fX5_costOfAll_4_b F k1 rec4 y2 y3 μ = some (r, u)) (hW : Wo E μ H) (hS : va_S (AE E) s.heap H locs) (hl : lv_has ls 4 [(0, .ref (E.1 61)), (1, .ref (E.1 k1)), (2, .int y2), (3, .int y3)]) : W0 p l e rmX5_costOfAll s m args below meth c H locs (QcI E r u) E (F0 m 4 ls []) := by
  unfold fX5_costOfAll_4_b at hf
  refine lv_iload_n X.1.1 X.1.2.1 dX5_costOfAll_4 rfl (lv_at hl 3 rfl) ?_
  refine lv_aload_n X.1.1 X.1.2.1 dX5_costOfAll_5 rfl (lv_at hl 0 rfl) ?_
  refine e_geti X hW (C := RX5) (T := TX5) (N := 15) (j := 9) rfl (by decide) inX5 (by decide) (by decide) rfl rfl mw_1_177 dX5_costOfAll_6 ?_
  refine lv_icmp_ge (tgt := 42) X.1.1 X.1.2.1 dX5_costOfAll_9 (by decide) (fun c9 => ?_) (fun c9 => ?_)
  · rw [if_pos c9] at hf
    refine lv_iload_n X.1.1 X.1.2.1 dX5_costOfAll_42 rfl (lv_at hl 2 rfl) ?_
    exact e_iret X hW hS hf dX5_costOfAll_43
  · rw [if_neg c9] at hf
    refine lv_iload_n X.1.1 X.1.2.1 dX5_costOfAll_12 rfl (lv_at hl 2 rfl) ?_
    refine lv_aload_n X.1.1 X.1.2.1 dX5_costOfAll_13 rfl (lv_at hl 1 rfl) ?_
    refine lv_aload_n X.1.1 X.1.2.1 dX5_costOfAll_14 rfl (lv_at hl 0 rfl) ?_
    refine e_getr X hW (C := RX5) (T := TX5) (N := 15) (j := 1) rfl (by decide) inX5 (by decide) (by decide) rfl (t := 63) rfl rfl mw_1_167 dX5_costOfAll_15 ?_
    refine lv_iload_n X.1.1 X.1.2.1 dX5_costOfAll_18 rfl (lv_at hl 3 rfl) ?_
    refine e_ild X hW (by decide) rfl dX5_costOfAll_19 hf (fun v1 hf => ?_)
    refine lv_aload_n X.1.1 X.1.2.1 dX5_costOfAll_20 rfl (lv_at hl 0 rfl) ?_
    refine e_getr X hW (C := RX5) (T := TX5) (N := 15) (j := 0) rfl (by decide) inX5 (by decide) (by decide) rfl (t := 62) rfl rfl mw_1_165 dX5_costOfAll_21 ?_
    refine lv_aload_n X.1.1 X.1.2.1 dX5_costOfAll_24 rfl (lv_at hl 0 rfl) ?_
    refine e_getr X hW (C := RX5) (T := TX5) (N := 15) (j := 4) rfl (by decide) inX5 (by decide) (by decide) rfl (t := 66) rfl rfl mw_1_171 dX5_costOfAll_25 ?_
    refine lv_iload_n X.1.1 X.1.2.1 dX5_costOfAll_28 rfl (lv_at hl 3 rfl) ?_
    refine e_ild X hW (by decide) rfl dX5_costOfAll_29 hf (fun v2 hf => ?_)
    refine e_ild X hW (by decide) rfl dX5_costOfAll_30 hf (fun v3 hf => ?_)
    refine e_vi (rest := [.int y2]) (As := [.int v1, .int v3]) X hl.1 hW hS (C := RX4) (T := TX4) (N := 2) (by rw [h1.2.1]; rfl) h1.1 (ctfX4_going X.2.2.2.2 F k1 v1 v3 h1 μ) (cwV (rm := rmX4_going) 2 X.1.2.2.2.2 (gd_V mw_3_28 mw_3_29 mw_3_30 mw_1_10 mw_3_31) rfl rfl rfl (by decide +kernel) ⟨Nat.le_of_ble_eq_true rfl, Nat.le_of_ble_eq_true rfl⟩) rfl rfl (Nat.le_of_ble_eq_true rfl) dX5_costOfAll_31 ⟨Nat.zero_le _, Nat.zero_le _⟩ hf (fun r5 m4 H locs hf hW hS => ?_)
    refine lv_iadd X.1.1 X.1.2.1 dX5_costOfAll_34 ?_
    refine lv_istore_n (lv' := [(2, .int (y2 + r5)), (0, .ref (E.1 61)), (1, .ref (E.1 k1)), (3, .int y3)]) X.1.1 X.1.2.1 dX5_costOfAll_35 rfl hl (by decide) rfl (fun ls hl => ?_)
    refine lv_iinc (v := (y3 + 1)) (lv' := [(3, .int (y3 + 1)), (2, .int (y2 + r5)), (0, .ref (E.1 61)), (1, .ref (E.1 k1))]) X.1.1 X.1.2.1 dX5_costOfAll_36 hl (k := 3) rfl rfl (by decide) rfl (fun ls hl => ?_)
    refine lv_goto (tgt := 4) X.1.1 X.1.2.1 dX5_costOfAll_39 (by decide) ?_
    exact hrec4 (y2 + r5) (y3 + 1) m4 H locs ls hf hW hS (lv_sub hl [2, 3, 1, 0] rfl)
theorem wfX5_costOfAll_4 {p : Program} {l : Launch} {e : Env} {s : State} {m : MethodId} {args : Array Value} {below : List Frame} {meth : Method} {c : Code} {E : Gv} {F : Nat} {k1 : Nat} {r : Int32} {u : Mem} (X : Fx p m c cX5_costOfAll 4 s args (Cond.code yX5_costOfAll cX5_costOfAll 4 (some .int)) "OvenHouse$Rings" meth (some .int) E) (h1 : isPr k1) (n : Nat) : ∀ (y2 : Int32) (y3 : Int32) (μ : Mem) (H : Heap) (locs : List Loc) (ls : Array Slot) (_ : fX5_costOfAll_4 F k1  n y2 y3 μ = some (r, u)) (_ : Wo E μ H) (_ : va_S (AE E) s.heap H locs) (_ : lv_has ls 4 [(0, .ref (E.1 61)), (1, .ref (E.1 k1)), (2, .int y2), (3, .int y3)]), W0 p l e rmX5_costOfAll s m args below meth c H locs (QcI E r u) E (F0 m 4 ls []) := by
  induction n with
  | zero => intro y2 y3 μ H locs ls hf hW hS hl; cases hf
  | succ n ih => intro y2 y3 μ H locs ls hf hW hS hl; exact wfX5_costOfAll_4_b X h1 _ ih y2 y3 μ H locs ls hf hW hS hl
set_option maxRecDepth 100000 in
set_option maxHeartbeats 4000000 in
theorem ctfX5_costOfAll {l : Launch} {E : Gv} (hD : Do E) (F : Nat) (k1 : Nat) (h1 : isPr k1) (μ : Mem) : CtI l yX5_costOfAll ((Cond.code yX5_costOfAll cX5_costOfAll 4 (some .int)) :: GG) rmX5_costOfAll E [.ref (E.1 61), .ref (E.1 k1)] μ (fX5_costOfAll F k1 μ) := by
  intro r u hf
  refine of_entry (cc := cX5_costOfAll) (maxL := 4) (ret := (some .int)) (by decide +kernel) rfl hD (Nat.le_of_ble_eq_true rfl) (fun p e s m args below meth c X H locs hW hS ls hl => ?_)
  have hl : lv_has ls 4 [(0, .ref (E.1 61)), (1, .ref (E.1 k1))] := hl
  unfold fX5_costOfAll at hf
  refine lv_iconst (v := 0) X.1.1 X.1.2.1 dX5_costOfAll_0 (by decide) ?_
  refine lv_istore_n (lv' := [(2, .int 0), (0, .ref (E.1 61)), (1, .ref (E.1 k1))]) X.1.1 X.1.2.1 dX5_costOfAll_1 rfl hl (by decide) rfl (fun ls hl => ?_)
  refine lv_iconst (v := 0) X.1.1 X.1.2.1 dX5_costOfAll_2 (by decide) ?_
  refine lv_istore_n (lv' := [(3, .int 0), (2, .int 0), (0, .ref (E.1 61)), (1, .ref (E.1 k1))]) X.1.1 X.1.2.1 dX5_costOfAll_3 rfl hl (by decide) rfl (fun ls hl => ?_)
  exact wfX5_costOfAll_4 X h1 F 0 0 μ H locs ls hf hW hS (lv_sub hl [2, 3, 1, 0] rfl)
-- java/util/Arrays.fill
def rmJ7_fill_53178 : Room := { frames := 0, cells := 0, slots := 0, locals := 0 }
set_option maxRecDepth 100000 in
set_option maxHeartbeats 4000000 in
theorem wfJ7_fill_53178_5_b {p : Program} {l : Launch} {e : Env} {s : State} {m : MethodId} {args : Array Value} {below : List Frame} {meth : Method} {c : Code} {E : Gv} {F : Nat} {k0 : Nat} {u : Mem} (X : Fx p m c cJ7_fill_53178 4 s args (Cond.code yJ7_fill_53178 cJ7_fill_53178 4 none) "java/util/Arrays" meth none E) (h0 : k0 < NC ∧ kd k0 = 10) (rec5 : Int32 → Int32 → Int32 → Mem → Option Mem) (hrec5 : ∀ (y1 : Int32) (y2 : Int32) (y3 : Int32) (μ : Mem) (H : Heap) (locs : List Loc) (ls : Array Slot), rec5 y1 y2 y3 μ = some u → Wo E μ H → va_S (AE E) s.heap H locs → lv_has ls 4 [(0, .ref (E.1 k0)), (1, .int y1), (2, .int y2), (3, .int y3)] → W0 p l e rmJ7_fill_53178 s m args below meth c H locs (QcN E u) E (F0 m 5 ls [])) (y1 : Int32) (y2 : Int32) (y3 : Int32) (μ : Mem) (H : Heap) (locs : List Loc) (ls : Array Slot) (hf : fJ7_fill_53178_5_b F k0 rec5 y1 y2 y3 μ = some u) (hW : Wo E μ H) (hS : va_S (AE E) s.heap H locs) (hl : lv_has ls 4 [(0, .ref (E.1 k0)), (1, .int y1), (2, .int y2), (3, .int y3)]) : W0 p l e rmJ7_fill_53178 s m args below meth c H locs (QcN E u) E (F0 m 5 ls []) := by
  unfold fJ7_fill_53178_5_b at hf
  refine lv_iload_n X.1.1 X.1.2.1 dJ7_fill_53178_5 rfl (lv_at hl 2 rfl) ?_
  refine lv_iload_n X.1.1 X.1.2.1 dJ7_fill_53178_6 rfl (lv_at hl 3 rfl) ?_
  refine lv_icmp_ge (tgt := 20) X.1.1 X.1.2.1 dJ7_fill_53178_7 (by decide) (fun c7 => ?_) (fun c7 => ?_)
  · rw [if_pos c7] at hf
    exact e_vret X hW hS hf dJ7_fill_53178_20
  · rw [if_neg c7] at hf
    refine lv_aload_n X.1.1 X.1.2.1 dJ7_fill_53178_10 rfl (lv_at hl 0 rfl) ?_
    refine lv_iload_n X.1.1 X.1.2.1 dJ7_fill_53178_11 rfl (lv_at hl 2 rfl) ?_
    refine lv_iload_n X.1.1 X.1.2.1 dJ7_fill_53178_12 rfl (lv_at hl 1 rfl) ?_
    refine e_ist X hW hS h0.1 h0.2 dJ7_fill_53178_13 hf (fun m1 H locs hf hW hS => ?_)
    refine lv_iinc (v := (y2 + 1)) (lv' := [(2, .int (y2 + 1)), (0, .ref (E.1 k0)), (1, .int y1), (3, .int y3)]) X.1.1 X.1.2.1 dJ7_fill_53178_14 hl (k := 2) rfl rfl (by decide) rfl (fun ls hl => ?_)
    refine lv_goto (tgt := 5) X.1.1 X.1.2.1 dJ7_fill_53178_17 (by decide) ?_
    exact hrec5 y1 (y2 + 1) y3 m1 H locs ls hf hW hS (lv_sub hl [1, 2, 0, 3] rfl)
theorem wfJ7_fill_53178_5 {p : Program} {l : Launch} {e : Env} {s : State} {m : MethodId} {args : Array Value} {below : List Frame} {meth : Method} {c : Code} {E : Gv} {F : Nat} {k0 : Nat} {u : Mem} (X : Fx p m c cJ7_fill_53178 4 s args (Cond.code yJ7_fill_53178 cJ7_fill_53178 4 none) "java/util/Arrays" meth none E) (h0 : k0 < NC ∧ kd k0 = 10) (n : Nat) : ∀ (y1 : Int32) (y2 : Int32) (y3 : Int32) (μ : Mem) (H : Heap) (locs : List Loc) (ls : Array Slot) (_ : fJ7_fill_53178_5 F k0  n y1 y2 y3 μ = some u) (_ : Wo E μ H) (_ : va_S (AE E) s.heap H locs) (_ : lv_has ls 4 [(0, .ref (E.1 k0)), (1, .int y1), (2, .int y2), (3, .int y3)]), W0 p l e rmJ7_fill_53178 s m args below meth c H locs (QcN E u) E (F0 m 5 ls []) := by
  induction n with
  | zero => intro y1 y2 y3 μ H locs ls hf hW hS hl; cases hf
  | succ n ih => intro y1 y2 y3 μ H locs ls hf hW hS hl; exact wfJ7_fill_53178_5_b X h0 _ ih y1 y2 y3 μ H locs ls hf hW hS hl
set_option maxRecDepth 100000 in
set_option maxHeartbeats 4000000 in
theorem ctfJ7_fill_53178 {l : Launch} {E : Gv} (hD : Do E) (F : Nat) (k0 : Nat) (x1 : Int32) (h0 : k0 < NC ∧ kd k0 = 10) (μ : Mem) : CtV l yJ7_fill_53178 ((Cond.code yJ7_fill_53178 cJ7_fill_53178 4 none) :: GG) rmJ7_fill_53178 E [.ref (E.1 k0), .int x1] μ (fJ7_fill_53178 F k0 x1 μ) := by
  intro u hf
  refine of_entry (cc := cJ7_fill_53178) (maxL := 4) (ret := none) (by decide +kernel) rfl hD (Nat.le_of_ble_eq_true rfl) (fun p e s m args below meth c X H locs hW hS ls hl => ?_)
  have hl : lv_has ls 4 [(0, .ref (E.1 k0)), (1, .int x1)] := hl
  unfold fJ7_fill_53178 at hf
  refine lv_iconst (v := 0) X.1.1 X.1.2.1 dJ7_fill_53178_0 (by decide) ?_
  refine lv_istore_n (lv' := [(2, .int 0), (0, .ref (E.1 k0)), (1, .int x1)]) X.1.1 X.1.2.1 dJ7_fill_53178_1 rfl hl (by decide) rfl (fun ls hl => ?_)
  refine lv_aload_n X.1.1 X.1.2.1 dJ7_fill_53178_2 rfl (lv_at hl 1 rfl) ?_
  refine e_alen X hW h0.1 h0.2 dJ7_fill_53178_3 ?_
  refine lv_istore_n (lv' := [(3, .int (Int32.ofNat (ln k0))), (2, .int 0), (0, .ref (E.1 k0)), (1, .int x1)]) X.1.1 X.1.2.1 dJ7_fill_53178_4 rfl hl (by decide) rfl (fun ls hl => ?_)
  exact wfJ7_fill_53178_5 X h0 F x1 0 (Int32.ofNat (ln k0)) μ H locs ls hf hW hS (lv_sub hl [2, 3, 1, 0] rfl)
