-- OvenHouseModel.take
def rmX9_take : Room := { frames := 2, cells := 0, slots := 0, locals := 45 }
set_option maxRecDepth 100000 in
set_option maxHeartbeats 4000000 in
theorem wfX9_take_166_b {p : Program} {l : Launch} {e : Env} {s : State} {m : MethodId} {args : Array Value} {below : List Frame} {meth : Method} {c : Code} {E : Gv} {F : Nat}  {r : Int32} {u : Mem} (X : Fx p m c cX9_take 5 s args (Cond.code yX9_take cX9_take 5 (some .int)) "OvenHouseModel" meth (some .int) E)  (rec166 : Int32 → Int32 → Int32 → Int32 → Mem → Option (Int32 × Mem)) (hrec166 : ∀ (y1 : Int32) (y2 : Int32) (y3 : Int32) (y4 : Int32) (μ : Mem) (H : Heap) (locs : List Loc) (ls : Array Slot), rec166 y1 y2 y3 y4 μ = some (r, u) → Wo E μ H → va_S (AE E) s.heap H locs → lv_has ls 5 [(0, .ref (E.1 89)), (1, .int y1), (2, .int y2), (3, .int y3), (4, .int y4)] → W0 p l e rmX9_take s m args below meth c H locs (QcI E r u) E (F0 m 166 ls [])) (y1 : Int32) (y2 : Int32) (y3 : Int32) (y4 : Int32) (μ : Mem) (H : Heap) (locs : List Loc) (ls : Array Slot) (hf : fX9_take_166_b F  rec166 y1 y2 y3 y4 μ = some (r, u)) (hW : Wo E μ H) (hS : va_S (AE E) s.heap H locs) (hl : lv_has ls 5 [(0, .ref (E.1 89)), (1, .int y1), (2, .int y2), (3, .int y3), (4, .int y4)]) : W0 p l e rmX9_take s m args below meth c H locs (QcI E r u) E (F0 m 166 ls []) := by
  unfold fX9_take_166_b at hf
  refine lv_iload X.1.1 X.1.2.1 dX9_take_166 (lv_at hl 4 rfl) ?_
  refine lv_iload_n X.1.1 X.1.2.1 dX9_take_168 rfl (lv_at hl 3 rfl) ?_
  refine lv_icmp_ge (tgt := 206) X.1.1 X.1.2.1 dX9_take_169 (by decide) (fun c169 => ?_) (fun c169 => ?_)
  · rw [if_pos c169] at hf
    refine lv_aload_n X.1.1 X.1.2.1 dX9_take_206 rfl (lv_at hl 0 rfl) ?_
    refine e_getr X hW (C := RX9) (T := TX9) (N := 35) (j := 5) rfl (by decide) inX9 (by decide) (by decide) rfl (t := 94) rfl rfl mw_3_174 dX9_take_207 ?_
    refine lv_iconst (v := 0) X.1.1 X.1.2.1 dX9_take_210 (by decide) ?_
    refine e_ild X hW (by decide) rfl dX9_take_211 hf (fun v27 hf => ?_)
    exact e_iret X hW hS hf dX9_take_212
  · rw [if_neg c169] at hf
    refine lv_aload_n X.1.1 X.1.2.1 dX9_take_172 rfl (lv_at hl 0 rfl) ?_
    refine lv_aload_n X.1.1 X.1.2.1 dX9_take_173 rfl (lv_at hl 0 rfl) ?_
    refine e_getr X hW (C := RX9) (T := TX9) (N := 35) (j := 3) rfl (by decide) inX9 (by decide) (by decide) rfl (t := 92) rfl rfl mw_3_172 dX9_take_174 ?_
    refine lv_bipush (v := 40) X.1.1 X.1.2.1 dX9_take_177 (by decide) ?_
    refine lv_iload_n X.1.1 X.1.2.1 dX9_take_179 rfl (lv_at hl 1 rfl) ?_
    refine lv_imul X.1.1 X.1.2.1 dX9_take_180 ?_
    refine lv_iload X.1.1 X.1.2.1 dX9_take_181 (lv_at hl 4 rfl) ?_
    refine lv_iadd X.1.1 X.1.2.1 dX9_take_183 ?_
    refine e_ild X hW (by decide) rfl dX9_take_184 hf (fun v28 hf => ?_)
    refine lv_aload_n X.1.1 X.1.2.1 dX9_take_185 rfl (lv_at hl 0 rfl) ?_
    refine e_getr X hW (C := RX9) (T := TX9) (N := 35) (j := 3) rfl (by decide) inX9 (by decide) (by decide) rfl (t := 92) rfl rfl mw_3_172 dX9_take_186 ?_
    refine lv_bipush (v := 40) X.1.1 X.1.2.1 dX9_take_189 (by decide) ?_
    refine lv_iload_n X.1.1 X.1.2.1 dX9_take_191 rfl (lv_at hl 2 rfl) ?_
    refine lv_imul X.1.1 X.1.2.1 dX9_take_192 ?_
    refine lv_iload X.1.1 X.1.2.1 dX9_take_193 (lv_at hl 4 rfl) ?_
    refine lv_iadd X.1.1 X.1.2.1 dX9_take_195 ?_
    refine e_ild X hW (by decide) rfl dX9_take_196 hf (fun v29 hf => ?_)
    refine e_vv (rest := []) (As := [.int v28, .int v29]) X hl.1 hW hS (C := RX9) (T := TX9) (N := 35) rfl (by decide) (ctfX9_come X.2.2.2.2 F v28 v29 μ) (cwV (rm := rmX9_come) 2 X.1.2.2.2.2 (gd_V mw_4_90 mw_4_92 mw_0_19 mw_1_11 mw_4_93) rfl rfl rfl (by decide +kernel) ⟨Nat.le_of_ble_eq_true rfl, Nat.le_of_ble_eq_true rfl⟩) rfl rfl (Nat.le_of_ble_eq_true rfl) dX9_take_197 ⟨Nat.zero_le _, Nat.zero_le _⟩ hf (fun m30 H locs hf hW hS => ?_)
    refine lv_iinc (v := (y4 + 1)) (lv' := [(4, .int (y4 + 1)), (0, .ref (E.1 89)), (1, .int y1), (2, .int y2), (3, .int y3)]) X.1.1 X.1.2.1 dX9_take_200 hl (k := 4) rfl rfl (by decide) rfl (fun ls hl => ?_)
    refine lv_goto (tgt := 166) X.1.1 X.1.2.1 dX9_take_203 (by decide) ?_
    exact hrec166 y1 y2 y3 (y4 + 1) m30 H locs ls hf hW hS (lv_sub hl [1, 2, 3, 4, 0] rfl)
theorem wfX9_take_166 {p : Program} {l : Launch} {e : Env} {s : State} {m : MethodId} {args : Array Value} {below : List Frame} {meth : Method} {c : Code} {E : Gv} {F : Nat}  {r : Int32} {u : Mem} (X : Fx p m c cX9_take 5 s args (Cond.code yX9_take cX9_take 5 (some .int)) "OvenHouseModel" meth (some .int) E)  (n : Nat) : ∀ (y1 : Int32) (y2 : Int32) (y3 : Int32) (y4 : Int32) (μ : Mem) (H : Heap) (locs : List Loc) (ls : Array Slot) (_ : fX9_take_166 F   n y1 y2 y3 y4 μ = some (r, u)) (_ : Wo E μ H) (_ : va_S (AE E) s.heap H locs) (_ : lv_has ls 5 [(0, .ref (E.1 89)), (1, .int y1), (2, .int y2), (3, .int y3), (4, .int y4)]), W0 p l e rmX9_take s m args below meth c H locs (QcI E r u) E (F0 m 166 ls []) := by
  induction n with
  | zero => intro y1 y2 y3 y4 μ H locs ls hf hW hS hl; cases hf
  | succ n ih => intro y1 y2 y3 y4 μ H locs ls hf hW hS hl; exact wfX9_take_166_b X  _ ih y1 y2 y3 y4 μ H locs ls hf hW hS hl
set_option maxRecDepth 100000 in
set_option maxHeartbeats 4000000 in
theorem wfX9_take_98_b {p : Program} {l : Launch} {e : Env} {s : State} {m : MethodId} {args : Array Value} {below : List Frame} {meth : Method} {c : Code} {E : Gv} {F : Nat}  {r : Int32} {u : Mem} (X : Fx p m c cX9_take 5 s args (Cond.code yX9_take cX9_take 5 (some .int)) "OvenHouseModel" meth (some .int) E)  (rec98 : Int32 → Int32 → Int32 → Int32 → Mem → Option (Int32 × Mem)) (hrec98 : ∀ (y1 : Int32) (y2 : Int32) (y3 : Int32) (y4 : Int32) (μ : Mem) (H : Heap) (locs : List Loc) (ls : Array Slot), rec98 y1 y2 y3 y4 μ = some (r, u) → Wo E μ H → va_S (AE E) s.heap H locs → lv_has ls 5 [(0, .ref (E.1 89)), (1, .int y1), (2, .int y2), (3, .int y3), (4, .int y4)] → W0 p l e rmX9_take s m args below meth c H locs (QcI E r u) E (F0 m 98 ls [])) (y1 : Int32) (y2 : Int32) (y3 : Int32) (y4 : Int32) (μ : Mem) (H : Heap) (locs : List Loc) (ls : Array Slot) (hf : fX9_take_98_b F  rec98 y1 y2 y3 y4 μ = some (r, u)) (hW : Wo E μ H) (hS : va_S (AE E) s.heap H locs) (hl : lv_has ls 5 [(0, .ref (E.1 89)), (1, .int y1), (2, .int y2), (3, .int y3), (4, .int y4)]) : W0 p l e rmX9_take s m args below meth c H locs (QcI E r u) E (F0 m 98 ls []) := by
  unfold fX9_take_98_b at hf
  refine lv_iload X.1.1 X.1.2.1 dX9_take_98 (lv_at hl 4 rfl) ?_
  refine lv_iload_n X.1.1 X.1.2.1 dX9_take_100 rfl (lv_at hl 3 rfl) ?_
  refine lv_icmp_ge (tgt := 159) X.1.1 X.1.2.1 dX9_take_101 (by decide) (fun c101 => ?_) (fun c101 => ?_)
  · rw [if_pos c101] at hf
    refine lv_aload_n X.1.1 X.1.2.1 dX9_take_159 rfl (lv_at hl 0 rfl) ?_
    refine e_vv (rest := []) (As := []) X hl.1 hW hS (C := RX9) (T := TX9) (N := 35) rfl (by decide) (ctfX9_keep X.2.2.2.2 F μ) (cwV (rm := rmX9_keep) 0 X.1.2.2.2.2 (gd_V mw_4_86 mw_4_88 mw_0_18 mw_1_11 mw_4_89) rfl rfl rfl (by decide +kernel) ⟨Nat.le_of_ble_eq_true rfl, Nat.le_of_ble_eq_true rfl⟩) rfl rfl (Nat.le_of_ble_eq_true rfl) dX9_take_160 ⟨Nat.zero_le _, Nat.zero_le _⟩ hf (fun m20 H locs hf hW hS => ?_)
    refine lv_iconst (v := 0) X.1.1 X.1.2.1 dX9_take_163 (by decide) ?_
    refine lv_istore (lv' := [(4, .int 0), (0, .ref (E.1 89)), (1, .int y1), (2, .int y2), (3, .int y3)]) X.1.1 X.1.2.1 dX9_take_164 hl (by decide) rfl (fun ls hl => ?_)
    exact wfX9_take_166 X  F y1 y2 y3 0 m20 H locs ls hf hW hS (lv_sub hl [1, 2, 3, 4, 0] rfl)
  · rw [if_neg c101] at hf
    refine lv_aload_n X.1.1 X.1.2.1 dX9_take_104 rfl (lv_at hl 0 rfl) ?_
    refine e_getr X hW (C := RX9) (T := TX9) (N := 35) (j := 3) rfl (by decide) inX9 (by decide) (by decide) rfl (t := 92) rfl rfl mw_3_172 dX9_take_105 ?_
    refine lv_bipush (v := 40) X.1.1 X.1.2.1 dX9_take_108 (by decide) ?_
    refine lv_iload_n X.1.1 X.1.2.1 dX9_take_110 rfl (lv_at hl 1 rfl) ?_
    refine lv_imul X.1.1 X.1.2.1 dX9_take_111 ?_
    refine lv_iload X.1.1 X.1.2.1 dX9_take_112 (lv_at hl 4 rfl) ?_
    refine lv_iadd X.1.1 X.1.2.1 dX9_take_114 ?_
    refine e_ild X hW (by decide) rfl dX9_take_115 hf (fun v21 hf => ?_)
    refine lv_i2l X.1.1 X.1.2.1 dX9_take_116 rfl ?_
    refine lv_lconst (v := 0) X.1.1 X.1.2.1 dX9_take_117 (by decide) ?_
    refine lv_ldc2 X.1.1 X.1.2.1 X.1.2.2.2.1 (X.1.2.2.2.2 _ (List.mem_cons_of_mem _ mw_4_85)) dX9_take_118 ?_
    refine e_si (rest := []) (As := [.long v21.toInt64, .long 0, .long 100000]) X hl.1 hW hS (ctfX9_in X.2.2.2.2 F v21.toInt64 0 100000 μ) (cwS (rm := rmX9_in) 3 X.1.2.2.2.2 (gd_S mw_4_43 mw_4_44 mw_1_11 mw_4_45) rfl rfl rfl (by decide +kernel) ⟨Nat.le_of_ble_eq_true rfl, Nat.le_of_ble_eq_true rfl⟩) rfl rfl (Nat.le_of_ble_eq_true rfl) dX9_take_121 ⟨Nat.zero_le _, Nat.zero_le _⟩ hf (fun r23 m22 H locs hf hW hS => ?_)
    refine lv_if_eq (tgt := 150) X.1.1 X.1.2.1 dX9_take_124 (by decide) (fun c124 => ?_) (fun c124 => ?_)
    · rw [if_pos c124] at hf
      refine lv_bipush (v := (-2)) X.1.1 X.1.2.1 dX9_take_150 (by decide) ?_
      exact e_iret X hW hS hf dX9_take_152
    · rw [if_neg c124] at hf
      refine lv_aload_n X.1.1 X.1.2.1 dX9_take_127 rfl (lv_at hl 0 rfl) ?_
      refine e_getr X hW (C := RX9) (T := TX9) (N := 35) (j := 3) rfl (by decide) inX9 (by decide) (by decide) rfl (t := 92) rfl rfl mw_3_172 dX9_take_128 ?_
      refine lv_bipush (v := 40) X.1.1 X.1.2.1 dX9_take_131 (by decide) ?_
      refine lv_iload_n X.1.1 X.1.2.1 dX9_take_133 rfl (lv_at hl 2 rfl) ?_
      refine lv_imul X.1.1 X.1.2.1 dX9_take_134 ?_
      refine lv_iload X.1.1 X.1.2.1 dX9_take_135 (lv_at hl 4 rfl) ?_
      refine lv_iadd X.1.1 X.1.2.1 dX9_take_137 ?_
      refine e_ild X hW (by decide) rfl dX9_take_138 hf (fun v24 hf => ?_)
      refine lv_i2l X.1.1 X.1.2.1 dX9_take_139 rfl ?_
      refine lv_lconst (v := 0) X.1.1 X.1.2.1 dX9_take_140 (by decide) ?_
      refine lv_ldc2 X.1.1 X.1.2.1 X.1.2.2.2.1 (X.1.2.2.2.2 _ (List.mem_cons_of_mem _ mw_4_85)) dX9_take_141 ?_
      refine e_si (rest := []) (As := [.long v24.toInt64, .long 0, .long 100000]) X hl.1 hW hS (ctfX9_in X.2.2.2.2 F v24.toInt64 0 100000 m22) (cwS (rm := rmX9_in) 3 X.1.2.2.2.2 (gd_S mw_4_43 mw_4_44 mw_1_11 mw_4_45) rfl rfl rfl (by decide +kernel) ⟨Nat.le_of_ble_eq_true rfl, Nat.le_of_ble_eq_true rfl⟩) rfl rfl (Nat.le_of_ble_eq_true rfl) dX9_take_144 ⟨Nat.zero_le _, Nat.zero_le _⟩ hf (fun r26 m25 H locs hf hW hS => ?_)
      refine lv_if_ne (tgt := 153) X.1.1 X.1.2.1 dX9_take_147 (by decide) (fun c147 => ?_) (fun c147 => ?_)
      · rw [if_neg c147] at hf
        refine lv_iinc (v := (y4 + 1)) (lv' := [(4, .int (y4 + 1)), (0, .ref (E.1 89)), (1, .int y1), (2, .int y2), (3, .int y3)]) X.1.1 X.1.2.1 dX9_take_153 hl (k := 4) rfl rfl (by decide) rfl (fun ls hl => ?_)
        refine lv_goto (tgt := 98) X.1.1 X.1.2.1 dX9_take_156 (by decide) ?_
        exact hrec98 y1 y2 y3 (y4 + 1) m25 H locs ls hf hW hS (lv_sub hl [1, 2, 3, 4, 0] rfl)
      · rw [if_pos c147] at hf
        refine lv_bipush (v := (-2)) X.1.1 X.1.2.1 dX9_take_150 (by decide) ?_
        exact e_iret X hW hS hf dX9_take_152
theorem wfX9_take_98 {p : Program} {l : Launch} {e : Env} {s : State} {m : MethodId} {args : Array Value} {below : List Frame} {meth : Method} {c : Code} {E : Gv} {F : Nat}  {r : Int32} {u : Mem} (X : Fx p m c cX9_take 5 s args (Cond.code yX9_take cX9_take 5 (some .int)) "OvenHouseModel" meth (some .int) E)  (n : Nat) : ∀ (y1 : Int32) (y2 : Int32) (y3 : Int32) (y4 : Int32) (μ : Mem) (H : Heap) (locs : List Loc) (ls : Array Slot) (_ : fX9_take_98 F   n y1 y2 y3 y4 μ = some (r, u)) (_ : Wo E μ H) (_ : va_S (AE E) s.heap H locs) (_ : lv_has ls 5 [(0, .ref (E.1 89)), (1, .int y1), (2, .int y2), (3, .int y3), (4, .int y4)]), W0 p l e rmX9_take s m args below meth c H locs (QcI E r u) E (F0 m 98 ls []) := by
  induction n with
  | zero => intro y1 y2 y3 y4 μ H locs ls hf hW hS hl; cases hf
  | succ n ih => intro y1 y2 y3 y4 μ H locs ls hf hW hS hl; exact wfX9_take_98_b X  _ ih y1 y2 y3 y4 μ H locs ls hf hW hS hl
set_option maxRecDepth 100000 in
set_option maxHeartbeats 4000000 in
theorem ctfX9_take {l : Launch} {E : Gv} (hD : Do E) (F : Nat) (x1 : Int32) (x2 : Int32) (x3 : Int32)  (μ : Mem) : CtI l yX9_take ((Cond.code yX9_take cX9_take 5 (some .int)) :: GG) rmX9_take E [.ref (E.1 89), .int x1, .int x2, .int x3] μ (fX9_take F x1 x2 x3 μ) := by
  intro r u hf
  refine of_entry (cc := cX9_take) (maxL := 5) (ret := (some .int)) (by decide +kernel) rfl hD (Nat.le_of_ble_eq_true rfl) (fun p e s m args below meth c X H locs hW hS ls hl => ?_)
  have hl : lv_has ls 5 [(0, .ref (E.1 89)), (1, .int x1), (2, .int x2), (3, .int x3)] := hl
  unfold fX9_take at hf
  refine lv_iload_n X.1.1 X.1.2.1 dX9_take_0 rfl (lv_at hl 1 rfl) ?_
  refine e_si (rest := []) (As := [.int x1]) X hl.1 hW hS (ctfX9_isSheet X.2.2.2.2 F x1 μ) (cwS (rm := rmX9_isSheet) 1 X.1.2.2.2.2 (gd_S mw_4_39 mw_4_40 mw_1_11 mw_4_41) rfl rfl rfl (by decide +kernel) ⟨Nat.le_of_ble_eq_true rfl, Nat.le_of_ble_eq_true rfl⟩) rfl rfl (Nat.le_of_ble_eq_true rfl) dX9_take_1 ⟨Nat.zero_le _, Nat.zero_le _⟩ hf (fun r2 m1 H locs hf hW hS => ?_)
  refine lv_if_eq (tgt := 26) X.1.1 X.1.2.1 dX9_take_4 (by decide) (fun c4 => ?_) (fun c4 => ?_)
  · rw [if_pos c4] at hf
    refine lv_bipush (v := (-2)) X.1.1 X.1.2.1 dX9_take_26 (by decide) ?_
    exact e_iret X hW hS hf dX9_take_28
  · rw [if_neg c4] at hf
    refine lv_iload_n X.1.1 X.1.2.1 dX9_take_7 rfl (lv_at hl 2 rfl) ?_
    refine e_si (rest := []) (As := [.int x2]) X hl.1 hW hS (ctfX9_isSheet X.2.2.2.2 F x2 m1) (cwS (rm := rmX9_isSheet) 1 X.1.2.2.2.2 (gd_S mw_4_39 mw_4_40 mw_1_11 mw_4_41) rfl rfl rfl (by decide +kernel) ⟨Nat.le_of_ble_eq_true rfl, Nat.le_of_ble_eq_true rfl⟩) rfl rfl (Nat.le_of_ble_eq_true rfl) dX9_take_8 ⟨Nat.zero_le _, Nat.zero_le _⟩ hf (fun r4 m3 H locs hf hW hS => ?_)
    refine lv_if_eq (tgt := 26) X.1.1 X.1.2.1 dX9_take_11 (by decide) (fun c11 => ?_) (fun c11 => ?_)
    · rw [if_pos c11] at hf
      refine lv_bipush (v := (-2)) X.1.1 X.1.2.1 dX9_take_26 (by decide) ?_
      exact e_iret X hW hS hf dX9_take_28
    · rw [if_neg c11] at hf
      refine lv_iload_n X.1.1 X.1.2.1 dX9_take_14 rfl (lv_at hl 3 rfl) ?_
      refine lv_i2l X.1.1 X.1.2.1 dX9_take_15 rfl ?_
      refine lv_lconst (v := 1) X.1.1 X.1.2.1 dX9_take_16 (by decide) ?_
      refine lv_ldc2 X.1.1 X.1.2.1 X.1.2.2.2.1 (X.1.2.2.2.2 _ (List.mem_cons_of_mem _ mw_4_84)) dX9_take_17 ?_
      refine e_si (rest := []) (As := [.long x3.toInt64, .long 1, .long 40]) X hl.1 hW hS (ctfX9_in X.2.2.2.2 F x3.toInt64 1 40 m3) (cwS (rm := rmX9_in) 3 X.1.2.2.2.2 (gd_S mw_4_43 mw_4_44 mw_1_11 mw_4_45) rfl rfl rfl (by decide +kernel) ⟨Nat.le_of_ble_eq_true rfl, Nat.le_of_ble_eq_true rfl⟩) rfl rfl (Nat.le_of_ble_eq_true rfl) dX9_take_20 ⟨Nat.zero_le _, Nat.zero_le _⟩ hf (fun r6 m5 H locs hf hW hS => ?_)
      refine lv_if_ne (tgt := 29) X.1.1 X.1.2.1 dX9_take_23 (by decide) (fun c23 => ?_) (fun c23 => ?_)
      · rw [if_neg c23] at hf
        refine lv_aload_n X.1.1 X.1.2.1 dX9_take_29 rfl (lv_at hl 0 rfl) ?_
        refine e_getr X hW (C := RX9) (T := TX9) (N := 35) (j := 5) rfl (by decide) inX9 (by decide) (by decide) rfl (t := 94) rfl rfl mw_3_174 dX9_take_30 ?_
        refine lv_iconst (v := 0) X.1.1 X.1.2.1 dX9_take_33 (by decide) ?_
        refine e_ild X hW (by decide) rfl dX9_take_34 hf (fun v7 hf => ?_)
        refine lv_iload_n X.1.1 X.1.2.1 dX9_take_35 rfl (lv_at hl 3 rfl) ?_
        refine lv_iadd X.1.1 X.1.2.1 dX9_take_36 ?_
        refine lv_bipush (v := 40) X.1.1 X.1.2.1 dX9_take_37 (by decide) ?_
        refine lv_icmp_le (tgt := 45) X.1.1 X.1.2.1 dX9_take_39 (by decide) (fun c39 => ?_) (fun c39 => ?_)
        · rw [if_pos c39] at hf
          refine lv_aload_n X.1.1 X.1.2.1 dX9_take_45 rfl (lv_at hl 0 rfl) ?_
          refine e_getr X hW (C := RX9) (T := TX9) (N := 35) (j := 1) rfl (by decide) inX9 (by decide) (by decide) rfl (t := 90) rfl rfl mw_3_170 dX9_take_46 ?_
          refine lv_iload_n X.1.1 X.1.2.1 dX9_take_49 rfl (lv_at hl 1 rfl) ?_
          refine e_ild X hW (by decide) rfl dX9_take_50 hf (fun v8 hf => ?_)
          refine lv_if_lt (tgt := 63) X.1.1 X.1.2.1 dX9_take_51 (by decide) (fun c51 => ?_) (fun c51 => ?_)
          · rw [if_pos c51] at hf
            refine lv_aload_n X.1.1 X.1.2.1 dX9_take_63 rfl (lv_at hl 0 rfl) ?_
            refine lv_iconst (v := 1) X.1.1 X.1.2.1 dX9_take_64 (by decide) ?_
            refine e_vi (rest := []) (As := [.int 1]) X hl.1 hW hS (C := RX9) (T := TX9) (N := 35) rfl (by decide) (ctfX9_met X.2.2.2.2 F 1 m5) (cwV (rm := rmX9_met) 1 X.1.2.2.2.2 (gd_V mw_4_47 mw_4_49 mw_0_15 mw_1_11 mw_4_50) rfl rfl rfl (by decide +kernel) ⟨Nat.le_of_ble_eq_true rfl, Nat.le_of_ble_eq_true rfl⟩) rfl rfl (Nat.le_of_ble_eq_true rfl) dX9_take_65 ⟨Nat.zero_le _, Nat.zero_le _⟩ hf (fun r10 m9 H locs hf hW hS => ?_)
            exact e_iret X hW hS hf dX9_take_68
          · rw [if_neg c51] at hf
            refine lv_aload_n X.1.1 X.1.2.1 dX9_take_54 rfl (lv_at hl 0 rfl) ?_
            refine e_getr X hW (C := RX9) (T := TX9) (N := 35) (j := 1) rfl (by decide) inX9 (by decide) (by decide) rfl (t := 90) rfl rfl mw_3_170 dX9_take_55 ?_
            refine lv_iload_n X.1.1 X.1.2.1 dX9_take_58 rfl (lv_at hl 2 rfl) ?_
            refine e_ild X hW (by decide) rfl dX9_take_59 hf (fun v11 hf => ?_)
            refine lv_if_ge (tgt := 69) X.1.1 X.1.2.1 dX9_take_60 (by decide) (fun c60 => ?_) (fun c60 => ?_)
            · rw [if_pos c60] at hf
              refine lv_aload_n X.1.1 X.1.2.1 dX9_take_69 rfl (lv_at hl 0 rfl) ?_
              refine e_getr X hW (C := RX9) (T := TX9) (N := 35) (j := 2) rfl (by decide) inX9 (by decide) (by decide) rfl (t := 91) rfl rfl mw_3_171 dX9_take_70 ?_
              refine lv_iload_n X.1.1 X.1.2.1 dX9_take_73 rfl (lv_at hl 1 rfl) ?_
              refine e_ild X hW (by decide) rfl dX9_take_74 hf (fun v12 hf => ?_)
              refine lv_iload_n X.1.1 X.1.2.1 dX9_take_75 rfl (lv_at hl 3 rfl) ?_
              refine lv_icmp_lt (tgt := 89) X.1.1 X.1.2.1 dX9_take_76 (by decide) (fun c76 => ?_) (fun c76 => ?_)
              · rw [if_pos c76] at hf
                refine lv_aload_n X.1.1 X.1.2.1 dX9_take_89 rfl (lv_at hl 0 rfl) ?_
                refine lv_iconst (v := 2) X.1.1 X.1.2.1 dX9_take_90 (by decide) ?_
                refine e_vi (rest := []) (As := [.int 2]) X hl.1 hW hS (C := RX9) (T := TX9) (N := 35) rfl (by decide) (ctfX9_met X.2.2.2.2 F 2 m5) (cwV (rm := rmX9_met) 1 X.1.2.2.2.2 (gd_V mw_4_47 mw_4_49 mw_0_15 mw_1_11 mw_4_50) rfl rfl rfl (by decide +kernel) ⟨Nat.le_of_ble_eq_true rfl, Nat.le_of_ble_eq_true rfl⟩) rfl rfl (Nat.le_of_ble_eq_true rfl) dX9_take_91 ⟨Nat.zero_le _, Nat.zero_le _⟩ hf (fun r14 m13 H locs hf hW hS => ?_)
                exact e_iret X hW hS hf dX9_take_94
              · rw [if_neg c76] at hf
                refine lv_aload_n X.1.1 X.1.2.1 dX9_take_79 rfl (lv_at hl 0 rfl) ?_
                refine e_getr X hW (C := RX9) (T := TX9) (N := 35) (j := 2) rfl (by decide) inX9 (by decide) (by decide) rfl (t := 91) rfl rfl mw_3_171 dX9_take_80 ?_
                refine lv_iload_n X.1.1 X.1.2.1 dX9_take_83 rfl (lv_at hl 2 rfl) ?_
                refine e_ild X hW (by decide) rfl dX9_take_84 hf (fun v15 hf => ?_)
                refine lv_iload_n X.1.1 X.1.2.1 dX9_take_85 rfl (lv_at hl 3 rfl) ?_
                refine lv_icmp_ge (tgt := 95) X.1.1 X.1.2.1 dX9_take_86 (by decide) (fun c86 => ?_) (fun c86 => ?_)
                · rw [if_pos c86] at hf
                  refine lv_iconst (v := 0) X.1.1 X.1.2.1 dX9_take_95 (by decide) ?_
                  refine lv_istore (lv' := [(4, .int 0), (0, .ref (E.1 89)), (1, .int x1), (2, .int x2), (3, .int x3)]) X.1.1 X.1.2.1 dX9_take_96 hl (by decide) rfl (fun ls hl => ?_)
                  exact wfX9_take_98 X  F x1 x2 x3 0 m5 H locs ls hf hW hS (lv_sub hl [1, 2, 3, 4, 0] rfl)
                · rw [if_neg c86] at hf
                  refine lv_aload_n X.1.1 X.1.2.1 dX9_take_89 rfl (lv_at hl 0 rfl) ?_
                  refine lv_iconst (v := 2) X.1.1 X.1.2.1 dX9_take_90 (by decide) ?_
                  refine e_vi (rest := []) (As := [.int 2]) X hl.1 hW hS (C := RX9) (T := TX9) (N := 35) rfl (by decide) (ctfX9_met X.2.2.2.2 F 2 m5) (cwV (rm := rmX9_met) 1 X.1.2.2.2.2 (gd_V mw_4_47 mw_4_49 mw_0_15 mw_1_11 mw_4_50) rfl rfl rfl (by decide +kernel) ⟨Nat.le_of_ble_eq_true rfl, Nat.le_of_ble_eq_true rfl⟩) rfl rfl (Nat.le_of_ble_eq_true rfl) dX9_take_91 ⟨Nat.zero_le _, Nat.zero_le _⟩ hf (fun r17 m16 H locs hf hW hS => ?_)
                  exact e_iret X hW hS hf dX9_take_94
            · rw [if_neg c60] at hf
              refine lv_aload_n X.1.1 X.1.2.1 dX9_take_63 rfl (lv_at hl 0 rfl) ?_
              refine lv_iconst (v := 1) X.1.1 X.1.2.1 dX9_take_64 (by decide) ?_
              refine e_vi (rest := []) (As := [.int 1]) X hl.1 hW hS (C := RX9) (T := TX9) (N := 35) rfl (by decide) (ctfX9_met X.2.2.2.2 F 1 m5) (cwV (rm := rmX9_met) 1 X.1.2.2.2.2 (gd_V mw_4_47 mw_4_49 mw_0_15 mw_1_11 mw_4_50) rfl rfl rfl (by decide +kernel) ⟨Nat.le_of_ble_eq_true rfl, Nat.le_of_ble_eq_true rfl⟩) rfl rfl (Nat.le_of_ble_eq_true rfl) dX9_take_65 ⟨Nat.zero_le _, Nat.zero_le _⟩ hf (fun r19 m18 H locs hf hW hS => ?_)
              exact e_iret X hW hS hf dX9_take_68
        · rw [if_neg c39] at hf
          refine lv_bipush (v := (-3)) X.1.1 X.1.2.1 dX9_take_42 (by decide) ?_
          exact e_iret X hW hS hf dX9_take_44
      · rw [if_pos c23] at hf
        refine lv_bipush (v := (-2)) X.1.1 X.1.2.1 dX9_take_26 (by decide) ?_
        exact e_iret X hW hS hf dX9_take_28
-- OvenHouseModel.loaf
def rmX9_loaf : Room := { frames := 2, cells := 0, slots := 0, locals := 44 }
set_option maxRecDepth 100000 in
set_option maxHeartbeats 4000000 in
theorem ctfX9_loaf {l : Launch} {E : Gv} (hD : Do E) (F : Nat) (x1 : Int32) (x2 : Int32)  (μ : Mem) : CtI l yX9_loaf ((Cond.code yX9_loaf cX9_loaf 3 (some .int)) :: GG) rmX9_loaf E [.ref (E.1 89), .int x1, .int x2] μ (fX9_loaf F x1 x2 μ) := by
  intro r u hf
  refine of_entry (cc := cX9_loaf) (maxL := 3) (ret := (some .int)) (by decide +kernel) rfl hD (Nat.le_of_ble_eq_true rfl) (fun p e s m args below meth c X H locs hW hS ls hl => ?_)
  have hl : lv_has ls 3 [(0, .ref (E.1 89)), (1, .int x1), (2, .int x2)] := hl
  unfold fX9_loaf at hf
  refine lv_iload_n X.1.1 X.1.2.1 dX9_loaf_0 rfl (lv_at hl 1 rfl) ?_
  refine lv_i2l X.1.1 X.1.2.1 dX9_loaf_1 rfl ?_
  refine lv_lconst (v := 0) X.1.1 X.1.2.1 dX9_loaf_2 (by decide) ?_
  refine lv_ldc2 X.1.1 X.1.2.1 X.1.2.2.2.1 (X.1.2.2.2.2 _ (List.mem_cons_of_mem _ mw_4_85)) dX9_loaf_3 ?_
  refine e_si (rest := []) (As := [.long x1.toInt64, .long 0, .long 100000]) X hl.1 hW hS (ctfX9_in X.2.2.2.2 F x1.toInt64 0 100000 μ) (cwS (rm := rmX9_in) 3 X.1.2.2.2.2 (gd_S mw_4_43 mw_4_44 mw_1_11 mw_4_45) rfl rfl rfl (by decide +kernel) ⟨Nat.le_of_ble_eq_true rfl, Nat.le_of_ble_eq_true rfl⟩) rfl rfl (Nat.le_of_ble_eq_true rfl) dX9_loaf_6 ⟨Nat.zero_le _, Nat.zero_le _⟩ hf (fun r2 m1 H locs hf hW hS => ?_)
  refine lv_if_eq (tgt := 24) X.1.1 X.1.2.1 dX9_loaf_9 (by decide) (fun c9 => ?_) (fun c9 => ?_)
  · rw [if_pos c9] at hf
    refine lv_bipush (v := (-2)) X.1.1 X.1.2.1 dX9_loaf_24 (by decide) ?_
    exact e_iret X hW hS hf dX9_loaf_26
  · rw [if_neg c9] at hf
    refine lv_iload_n X.1.1 X.1.2.1 dX9_loaf_12 rfl (lv_at hl 2 rfl) ?_
    refine lv_i2l X.1.1 X.1.2.1 dX9_loaf_13 rfl ?_
    refine lv_lconst (v := 0) X.1.1 X.1.2.1 dX9_loaf_14 (by decide) ?_
    refine lv_ldc2 X.1.1 X.1.2.1 X.1.2.2.2.1 (X.1.2.2.2.2 _ (List.mem_cons_of_mem _ mw_4_85)) dX9_loaf_15 ?_
    refine e_si (rest := []) (As := [.long x2.toInt64, .long 0, .long 100000]) X hl.1 hW hS (ctfX9_in X.2.2.2.2 F x2.toInt64 0 100000 m1) (cwS (rm := rmX9_in) 3 X.1.2.2.2.2 (gd_S mw_4_43 mw_4_44 mw_1_11 mw_4_45) rfl rfl rfl (by decide +kernel) ⟨Nat.le_of_ble_eq_true rfl, Nat.le_of_ble_eq_true rfl⟩) rfl rfl (Nat.le_of_ble_eq_true rfl) dX9_loaf_18 ⟨Nat.zero_le _, Nat.zero_le _⟩ hf (fun r4 m3 H locs hf hW hS => ?_)
    refine lv_if_ne (tgt := 27) X.1.1 X.1.2.1 dX9_loaf_21 (by decide) (fun c21 => ?_) (fun c21 => ?_)
    · rw [if_neg c21] at hf
      refine lv_aload_n X.1.1 X.1.2.1 dX9_loaf_27 rfl (lv_at hl 0 rfl) ?_
      refine e_getr X hW (C := RX9) (T := TX9) (N := 35) (j := 5) rfl (by decide) inX9 (by decide) (by decide) rfl (t := 94) rfl rfl mw_3_174 dX9_loaf_28 ?_
      refine lv_iconst (v := 0) X.1.1 X.1.2.1 dX9_loaf_31 (by decide) ?_
      refine e_ild X hW (by decide) rfl dX9_loaf_32 hf (fun v5 hf => ?_)
      refine lv_bipush (v := 40) X.1.1 X.1.2.1 dX9_loaf_33 (by decide) ?_
      refine lv_icmp_ne (tgt := 41) X.1.1 X.1.2.1 dX9_loaf_35 (by decide) (fun c35 => ?_) (fun c35 => ?_)
      · rw [if_neg c35] at hf
        refine lv_aload_n X.1.1 X.1.2.1 dX9_loaf_41 rfl (lv_at hl 0 rfl) ?_
        refine e_vv (rest := []) (As := []) X hl.1 hW hS (C := RX9) (T := TX9) (N := 35) rfl (by decide) (ctfX9_keep X.2.2.2.2 F m3) (cwV (rm := rmX9_keep) 0 X.1.2.2.2.2 (gd_V mw_4_86 mw_4_88 mw_0_18 mw_1_11 mw_4_89) rfl rfl rfl (by decide +kernel) ⟨Nat.le_of_ble_eq_true rfl, Nat.le_of_ble_eq_true rfl⟩) rfl rfl (Nat.le_of_ble_eq_true rfl) dX9_loaf_42 ⟨Nat.zero_le _, Nat.zero_le _⟩ hf (fun m6 H locs hf hW hS => ?_)
        refine lv_aload_n X.1.1 X.1.2.1 dX9_loaf_45 rfl (lv_at hl 0 rfl) ?_
        refine lv_iload_n X.1.1 X.1.2.1 dX9_loaf_46 rfl (lv_at hl 1 rfl) ?_
        refine lv_iload_n X.1.1 X.1.2.1 dX9_loaf_47 rfl (lv_at hl 2 rfl) ?_
        refine e_vv (rest := []) (As := [.int x1, .int x2]) X hl.1 hW hS (C := RX9) (T := TX9) (N := 35) rfl (by decide) (ctfX9_come X.2.2.2.2 F x1 x2 m6) (cwV (rm := rmX9_come) 2 X.1.2.2.2.2 (gd_V mw_4_90 mw_4_92 mw_0_19 mw_1_11 mw_4_93) rfl rfl rfl (by decide +kernel) ⟨Nat.le_of_ble_eq_true rfl, Nat.le_of_ble_eq_true rfl⟩) rfl rfl (Nat.le_of_ble_eq_true rfl) dX9_loaf_48 ⟨Nat.zero_le _, Nat.zero_le _⟩ hf (fun m7 H locs hf hW hS => ?_)
        refine lv_aload_n X.1.1 X.1.2.1 dX9_loaf_51 rfl (lv_at hl 0 rfl) ?_
        refine e_getr X hW (C := RX9) (T := TX9) (N := 35) (j := 5) rfl (by decide) inX9 (by decide) (by decide) rfl (t := 94) rfl rfl mw_3_174 dX9_loaf_52 ?_
        refine lv_iconst (v := 0) X.1.1 X.1.2.1 dX9_loaf_55 (by decide) ?_
        refine e_ild X hW (by decide) rfl dX9_loaf_56 hf (fun v8 hf => ?_)
        refine lv_iconst (v := 1) X.1.1 X.1.2.1 dX9_loaf_57 (by decide) ?_
        refine lv_isub X.1.1 X.1.2.1 dX9_loaf_58 ?_
        exact e_iret X hW hS hf dX9_loaf_59
      · rw [if_pos c35] at hf
        refine lv_bipush (v := (-3)) X.1.1 X.1.2.1 dX9_loaf_38 (by decide) ?_
        exact e_iret X hW hS hf dX9_loaf_40
    · rw [if_pos c21] at hf
      refine lv_bipush (v := (-2)) X.1.1 X.1.2.1 dX9_loaf_24 (by decide) ?_
      exact e_iret X hW hS hf dX9_loaf_26
-- OvenHouseModel.isLoaf
def rmX9_isLoaf : Room := { frames := 1, cells := 0, slots := 0, locals := 25 }
set_option maxRecDepth 100000 in
set_option maxHeartbeats 4000000 in
theorem ctfX9_isLoaf {l : Launch} {E : Gv} (hD : Do E) (F : Nat) (x1 : Int32)  (μ : Mem) : CtI l yX9_isLoaf ((Cond.code yX9_isLoaf cX9_isLoaf 2 (some .boolean)) :: GG) rmX9_isLoaf E [.ref (E.1 89), .int x1] μ (fX9_isLoaf F x1 μ) := by
  intro r u hf
  refine of_entry (cc := cX9_isLoaf) (maxL := 2) (ret := (some .boolean)) (by decide +kernel) rfl hD (Nat.le_of_ble_eq_true rfl) (fun p e s m args below meth c X H locs hW hS ls hl => ?_)
  have hl : lv_has ls 2 [(0, .ref (E.1 89)), (1, .int x1)] := hl
  unfold fX9_isLoaf at hf
  refine lv_iload_n X.1.1 X.1.2.1 dX9_isLoaf_0 rfl (lv_at hl 1 rfl) ?_
  refine lv_i2l X.1.1 X.1.2.1 dX9_isLoaf_1 rfl ?_
  refine lv_lconst (v := 0) X.1.1 X.1.2.1 dX9_isLoaf_2 (by decide) ?_
  refine lv_aload_n X.1.1 X.1.2.1 dX9_isLoaf_3 rfl (lv_at hl 0 rfl) ?_
  refine e_getr X hW (C := RX9) (T := TX9) (N := 35) (j := 5) rfl (by decide) inX9 (by decide) (by decide) rfl (t := 94) rfl rfl mw_3_174 dX9_isLoaf_4 ?_
  refine lv_iconst (v := 0) X.1.1 X.1.2.1 dX9_isLoaf_7 (by decide) ?_
  refine e_ild X hW (by decide) rfl dX9_isLoaf_8 hf (fun v1 hf => ?_)
  refine lv_iconst (v := 1) X.1.1 X.1.2.1 dX9_isLoaf_9 (by decide) ?_
  refine lv_isub X.1.1 X.1.2.1 dX9_isLoaf_10 ?_
  refine lv_i2l X.1.1 X.1.2.1 dX9_isLoaf_11 rfl ?_
  refine e_si (rest := []) (As := [.long x1.toInt64, .long 0, .long ((v1 - 1).toInt64)]) X hl.1 hW hS (ctfX9_in X.2.2.2.2 F x1.toInt64 0 ((v1 - 1).toInt64) μ) (cwS (rm := rmX9_in) 3 X.1.2.2.2.2 (gd_S mw_4_43 mw_4_44 mw_1_11 mw_4_45) rfl rfl rfl (by decide +kernel) ⟨Nat.le_of_ble_eq_true rfl, Nat.le_of_ble_eq_true rfl⟩) rfl rfl (Nat.le_of_ble_eq_true rfl) dX9_isLoaf_12 ⟨Nat.zero_le _, Nat.zero_le _⟩ hf (fun r3 m2 H locs hf hW hS => ?_)
  exact e_zret X hW hS hf dX9_isLoaf_15
-- OvenHouseModel.kindOf
def rmX9_kindOf : Room := { frames := 0, cells := 0, slots := 0, locals := 0 }
set_option maxRecDepth 100000 in
set_option maxHeartbeats 4000000 in
theorem ctfX9_kindOf {l : Launch} {E : Gv} (hD : Do E) (F : Nat) (x1 : Int32)  (μ : Mem) : CtI l yX9_kindOf ((Cond.code yX9_kindOf cX9_kindOf 2 (some .int)) :: GG) rmX9_kindOf E [.ref (E.1 89), .int x1] μ (fX9_kindOf F x1 μ) := by
  intro r u hf
  refine of_entry (cc := cX9_kindOf) (maxL := 2) (ret := (some .int)) (by decide +kernel) rfl hD (Nat.le_of_ble_eq_true rfl) (fun p e s m args below meth c X H locs hW hS ls hl => ?_)
  have hl : lv_has ls 2 [(0, .ref (E.1 89)), (1, .int x1)] := hl
  unfold fX9_kindOf at hf
  refine lv_aload_n X.1.1 X.1.2.1 dX9_kindOf_0 rfl (lv_at hl 0 rfl) ?_
  refine e_getr X hW (C := RX9) (T := TX9) (N := 35) (j := 6) rfl (by decide) inX9 (by decide) (by decide) rfl (t := 95) rfl rfl mw_3_175 dX9_kindOf_1 ?_
  refine lv_iload_n X.1.1 X.1.2.1 dX9_kindOf_4 rfl (lv_at hl 1 rfl) ?_
  refine e_ild X hW (by decide) rfl dX9_kindOf_5 hf (fun v1 hf => ?_)
  refine lv_if_ne (tgt := 13) X.1.1 X.1.2.1 dX9_kindOf_6 (by decide) (fun c6 => ?_) (fun c6 => ?_)
  · rw [if_neg c6] at hf
    refine lv_aload_n X.1.1 X.1.2.1 dX9_kindOf_13 rfl (lv_at hl 0 rfl) ?_
    refine e_getr X hW (C := RX9) (T := TX9) (N := 35) (j := 7) rfl (by decide) inX9 (by decide) (by decide) rfl (t := 96) rfl rfl mw_3_176 dX9_kindOf_14 ?_
    refine lv_iload_n X.1.1 X.1.2.1 dX9_kindOf_17 rfl (lv_at hl 1 rfl) ?_
    refine e_ild X hW (by decide) rfl dX9_kindOf_18 hf (fun v2 hf => ?_)
    refine lv_if_ne (tgt := 26) X.1.1 X.1.2.1 dX9_kindOf_19 (by decide) (fun c19 => ?_) (fun c19 => ?_)
    · rw [if_neg c19] at hf
      refine lv_aload_n X.1.1 X.1.2.1 dX9_kindOf_26 rfl (lv_at hl 0 rfl) ?_
      refine e_getr X hW (C := RX9) (T := TX9) (N := 35) (j := 6) rfl (by decide) inX9 (by decide) (by decide) rfl (t := 95) rfl rfl mw_3_175 dX9_kindOf_27 ?_
      refine lv_iload_n X.1.1 X.1.2.1 dX9_kindOf_30 rfl (lv_at hl 1 rfl) ?_
      refine e_ild X hW (by decide) rfl dX9_kindOf_31 hf (fun v3 hf => ?_)
      refine lv_aload_n X.1.1 X.1.2.1 dX9_kindOf_32 rfl (lv_at hl 0 rfl) ?_
      refine e_getr X hW (C := RX9) (T := TX9) (N := 35) (j := 7) rfl (by decide) inX9 (by decide) (by decide) rfl (t := 96) rfl rfl mw_3_176 dX9_kindOf_33 ?_
      refine lv_iload_n X.1.1 X.1.2.1 dX9_kindOf_36 rfl (lv_at hl 1 rfl) ?_
      refine e_ild X hW (by decide) rfl dX9_kindOf_37 hf (fun v4 hf => ?_)
      refine lv_icmp_gt (tgt := 45) X.1.1 X.1.2.1 dX9_kindOf_38 (by decide) (fun c38 => ?_) (fun c38 => ?_)
      · rw [if_pos c38] at hf
        refine lv_iconst (v := 2) X.1.1 X.1.2.1 dX9_kindOf_45 (by decide) ?_
        exact e_iret X hW hS hf dX9_kindOf_46
      · rw [if_neg c38] at hf
        refine lv_iconst (v := 1) X.1.1 X.1.2.1 dX9_kindOf_41 (by decide) ?_
        refine lv_goto (tgt := 46) X.1.1 X.1.2.1 dX9_kindOf_42 (by decide) ?_
        exact e_iret X hW hS hf dX9_kindOf_46
    · rw [if_pos c19] at hf
      refine lv_iconst (v := 4) X.1.1 X.1.2.1 dX9_kindOf_22 (by decide) ?_
      refine lv_goto (tgt := 46) X.1.1 X.1.2.1 dX9_kindOf_23 (by decide) ?_
      exact e_iret X hW hS hf dX9_kindOf_46
  · rw [if_pos c6] at hf
    refine lv_iconst (v := 3) X.1.1 X.1.2.1 dX9_kindOf_9 (by decide) ?_
    refine lv_goto (tgt := 46) X.1.1 X.1.2.1 dX9_kindOf_10 (by decide) ?_
    exact e_iret X hW hS hf dX9_kindOf_46
-- OvenHouseModel.placeOf
def rmX9_placeOf : Room := { frames := 0, cells := 0, slots := 0, locals := 0 }
set_option maxRecDepth 100000 in
set_option maxHeartbeats 4000000 in
theorem wfX9_placeOf_2_b {p : Program} {l : Launch} {e : Env} {s : State} {m : MethodId} {args : Array Value} {below : List Frame} {meth : Method} {c : Code} {E : Gv} {F : Nat}  {r : Int32} {u : Mem} (X : Fx p m c cX9_placeOf 3 s args (Cond.code yX9_placeOf cX9_placeOf 3 (some .int)) "OvenHouseModel" meth (some .int) E)  (rec2 : Int32 → Int32 → Mem → Option (Int32 × Mem)) (hrec2 : ∀ (y1 : Int32) (y2 : Int32) (μ : Mem) (H : Heap) (locs : List Loc) (ls : Array Slot), rec2 y1 y2 μ = some (r, u) → Wo E μ H → va_S (AE E) s.heap H locs → lv_has ls 3 [(0, .ref (E.1 89)), (1, .int y1), (2, .int y2)] → W0 p l e rmX9_placeOf s m args below meth c H locs (QcI E r u) E (F0 m 2 ls [])) (y1 : Int32) (y2 : Int32) (μ : Mem) (H : Heap) (locs : List Loc) (ls : Array Slot) (hf : fX9_placeOf_2_b F  rec2 y1 y2 μ = some (r, u)) (hW : Wo E μ H) (hS : va_S (AE E) s.heap H locs) (hl : lv_has ls 3 [(0, .ref (E.1 89)), (1, .int y1), (2, .int y2)]) : W0 p l e rmX9_placeOf s m args below meth c H locs (QcI E r u) E (F0 m 2 ls []) := by
  unfold fX9_placeOf_2_b at hf
  refine lv_aload_n X.1.1 X.1.2.1 dX9_placeOf_2 rfl (lv_at hl 0 rfl) ?_
  refine e_getr X hW (C := RX9) (T := TX9) (N := 35) (j := 10) rfl (by decide) inX9 (by decide) (by decide) rfl (t := 99) rfl rfl mw_3_179 dX9_placeOf_3 ?_
  refine lv_iload_n X.1.1 X.1.2.1 dX9_placeOf_6 rfl (lv_at hl 2 rfl) ?_
  refine e_ild X hW (by decide) rfl dX9_placeOf_7 hf (fun v1 hf => ?_)
  refine lv_iload_n X.1.1 X.1.2.1 dX9_placeOf_8 rfl (lv_at hl 1 rfl) ?_
  refine lv_icmp_eq (tgt := 18) X.1.1 X.1.2.1 dX9_placeOf_9 (by decide) (fun c9 => ?_) (fun c9 => ?_)
  · rw [if_pos c9] at hf
    refine lv_iload_n X.1.1 X.1.2.1 dX9_placeOf_18 rfl (lv_at hl 2 rfl) ?_
    exact e_iret X hW hS hf dX9_placeOf_19
  · rw [if_neg c9] at hf
    refine lv_iinc (v := (y2 + 1)) (lv' := [(2, .int (y2 + 1)), (0, .ref (E.1 89)), (1, .int y1)]) X.1.1 X.1.2.1 dX9_placeOf_12 hl (k := 2) rfl rfl (by decide) rfl (fun ls hl => ?_)
    refine lv_goto (tgt := 2) X.1.1 X.1.2.1 dX9_placeOf_15 (by decide) ?_
    exact hrec2 y1 (y2 + 1) μ H locs ls hf hW hS (lv_sub hl [1, 2, 0] rfl)
theorem wfX9_placeOf_2 {p : Program} {l : Launch} {e : Env} {s : State} {m : MethodId} {args : Array Value} {below : List Frame} {meth : Method} {c : Code} {E : Gv} {F : Nat}  {r : Int32} {u : Mem} (X : Fx p m c cX9_placeOf 3 s args (Cond.code yX9_placeOf cX9_placeOf 3 (some .int)) "OvenHouseModel" meth (some .int) E)  (n : Nat) : ∀ (y1 : Int32) (y2 : Int32) (μ : Mem) (H : Heap) (locs : List Loc) (ls : Array Slot) (_ : fX9_placeOf_2 F   n y1 y2 μ = some (r, u)) (_ : Wo E μ H) (_ : va_S (AE E) s.heap H locs) (_ : lv_has ls 3 [(0, .ref (E.1 89)), (1, .int y1), (2, .int y2)]), W0 p l e rmX9_placeOf s m args below meth c H locs (QcI E r u) E (F0 m 2 ls []) := by
  induction n with
  | zero => intro y1 y2 μ H locs ls hf hW hS hl; cases hf
  | succ n ih => intro y1 y2 μ H locs ls hf hW hS hl; exact wfX9_placeOf_2_b X  _ ih y1 y2 μ H locs ls hf hW hS hl
set_option maxRecDepth 100000 in
set_option maxHeartbeats 4000000 in
theorem ctfX9_placeOf {l : Launch} {E : Gv} (hD : Do E) (F : Nat) (x1 : Int32)  (μ : Mem) : CtI l yX9_placeOf ((Cond.code yX9_placeOf cX9_placeOf 3 (some .int)) :: GG) rmX9_placeOf E [.ref (E.1 89), .int x1] μ (fX9_placeOf F x1 μ) := by
  intro r u hf
  refine of_entry (cc := cX9_placeOf) (maxL := 3) (ret := (some .int)) (by decide +kernel) rfl hD (Nat.le_of_ble_eq_true rfl) (fun p e s m args below meth c X H locs hW hS ls hl => ?_)
  have hl : lv_has ls 3 [(0, .ref (E.1 89)), (1, .int x1)] := hl
  unfold fX9_placeOf at hf
  refine lv_iconst (v := 0) X.1.1 X.1.2.1 dX9_placeOf_0 (by decide) ?_
  refine lv_istore_n (lv' := [(2, .int 0), (0, .ref (E.1 89)), (1, .int x1)]) X.1.1 X.1.2.1 dX9_placeOf_1 rfl hl (by decide) rfl (fun ls hl => ?_)
  exact wfX9_placeOf_2 X  F x1 0 μ H locs ls hf hW hS (lv_sub hl [1, 2, 0] rfl)
-- OvenHouseModel.of
def rmX9_of : Room := { frames := 2, cells := 0, slots := 0, locals := 46 }
set_option maxRecDepth 100000 in
set_option maxHeartbeats 4000000 in
theorem ctfX9_of {l : Launch} {E : Gv} (hD : Do E) (F : Nat) (x1 : Int32) (x2 : Int32)  (μ : Mem) : CtI l yX9_of ((Cond.code yX9_of cX9_of 3 (some .int)) :: GG) rmX9_of E [.ref (E.1 89), .int x1, .int x2] μ (fX9_of F x1 x2 μ) := by
  intro r u hf
  refine of_entry (cc := cX9_of) (maxL := 3) (ret := (some .int)) (by decide +kernel) rfl hD (Nat.le_of_ble_eq_true rfl) (fun p e s m args below meth c X H locs hW hS ls hl => ?_)
  have hl : lv_has ls 3 [(0, .ref (E.1 89)), (1, .int x1), (2, .int x2)] := hl
  unfold fX9_of at hf
  refine lv_aload_n X.1.1 X.1.2.1 dX9_of_0 rfl (lv_at hl 0 rfl) ?_
  refine lv_iload_n X.1.1 X.1.2.1 dX9_of_1 rfl (lv_at hl 1 rfl) ?_
  refine e_vi (rest := []) (As := [.int x1]) X hl.1 hW hS (C := RX9) (T := TX9) (N := 35) rfl (by decide) (ctfX9_isLoaf X.2.2.2.2 F x1 μ) (cwV (rm := rmX9_isLoaf) 1 X.1.2.2.2.2 (gd_V mw_4_102 mw_4_104 mw_0_20 mw_1_11 mw_4_105) rfl rfl rfl (by decide +kernel) ⟨Nat.le_of_ble_eq_true rfl, Nat.le_of_ble_eq_true rfl⟩) rfl rfl (Nat.le_of_ble_eq_true rfl) dX9_of_2 ⟨Nat.zero_le _, Nat.zero_le _⟩ hf (fun r2 m1 H locs hf hW hS => ?_)
  refine lv_if_ne (tgt := 11) X.1.1 X.1.2.1 dX9_of_5 (by decide) (fun c5 => ?_) (fun c5 => ?_)
  · rw [if_neg c5] at hf
    refine lv_iload_n X.1.1 X.1.2.1 dX9_of_11 rfl (lv_at hl 2 rfl) ?_
    by_cases c12_0 : x2 = 0
    · rw [if_pos c12_0] at hf
      refine lv_tableIn (off := 40) (tgt := 52) X.1.1 X.1.2.1 dX9_of_12 (by rw [c12_0]; decide) (by rw [c12_0]; decide) (by rw [c12_0]; rfl) (by decide) ?_
      refine lv_aload_n X.1.1 X.1.2.1 dX9_of_52 rfl (lv_at hl 0 rfl) ?_
      refine e_getr X hW (C := RX9) (T := TX9) (N := 35) (j := 6) rfl (by decide) inX9 (by decide) (by decide) rfl (t := 95) rfl rfl mw_3_175 dX9_of_53 ?_
      refine lv_iload_n X.1.1 X.1.2.1 dX9_of_56 rfl (lv_at hl 1 rfl) ?_
      refine e_ild X hW (by decide) rfl dX9_of_57 hf (fun v3 hf => ?_)
      exact e_iret X hW hS hf dX9_of_58
    · rw [if_neg c12_0] at hf
      by_cases c12_1 : x2 = 1
      · rw [if_pos c12_1] at hf
        refine lv_tableIn (off := 47) (tgt := 59) X.1.1 X.1.2.1 dX9_of_12 (by rw [c12_1]; decide) (by rw [c12_1]; decide) (by rw [c12_1]; rfl) (by decide) ?_
        refine lv_aload_n X.1.1 X.1.2.1 dX9_of_59 rfl (lv_at hl 0 rfl) ?_
        refine e_getr X hW (C := RX9) (T := TX9) (N := 35) (j := 7) rfl (by decide) inX9 (by decide) (by decide) rfl (t := 96) rfl rfl mw_3_176 dX9_of_60 ?_
        refine lv_iload_n X.1.1 X.1.2.1 dX9_of_63 rfl (lv_at hl 1 rfl) ?_
        refine e_ild X hW (by decide) rfl dX9_of_64 hf (fun v4 hf => ?_)
        exact e_iret X hW hS hf dX9_of_65
      · rw [if_neg c12_1] at hf
        by_cases c12_2 : x2 = 2
        · rw [if_pos c12_2] at hf
          refine lv_tableIn (off := 54) (tgt := 66) X.1.1 X.1.2.1 dX9_of_12 (by rw [c12_2]; decide) (by rw [c12_2]; decide) (by rw [c12_2]; rfl) (by decide) ?_
          refine lv_aload_n X.1.1 X.1.2.1 dX9_of_66 rfl (lv_at hl 0 rfl) ?_
          refine e_getr X hW (C := RX9) (T := TX9) (N := 35) (j := 8) rfl (by decide) inX9 (by decide) (by decide) rfl (t := 97) rfl rfl mw_3_177 dX9_of_67 ?_
          refine lv_iload_n X.1.1 X.1.2.1 dX9_of_70 rfl (lv_at hl 1 rfl) ?_
          refine e_ild X hW (by decide) rfl dX9_of_71 hf (fun v5 hf => ?_)
          exact e_iret X hW hS hf dX9_of_72
        · rw [if_neg c12_2] at hf
          by_cases c12_3 : x2 = 3
          · rw [if_pos c12_3] at hf
            refine lv_tableIn (off := 61) (tgt := 73) X.1.1 X.1.2.1 dX9_of_12 (by rw [c12_3]; decide) (by rw [c12_3]; decide) (by rw [c12_3]; rfl) (by decide) ?_
            refine lv_aload_n X.1.1 X.1.2.1 dX9_of_73 rfl (lv_at hl 0 rfl) ?_
            refine e_getr X hW (C := RX9) (T := TX9) (N := 35) (j := 9) rfl (by decide) inX9 (by decide) (by decide) rfl (t := 98) rfl rfl mw_3_178 dX9_of_74 ?_
            refine lv_iload_n X.1.1 X.1.2.1 dX9_of_77 rfl (lv_at hl 1 rfl) ?_
            refine e_ild X hW (by decide) rfl dX9_of_78 hf (fun v6 hf => ?_)
            exact e_iret X hW hS hf dX9_of_79
          · rw [if_neg c12_3] at hf
            by_cases c12_4 : x2 = 4
            · rw [if_pos c12_4] at hf
              refine lv_tableIn (off := 68) (tgt := 80) X.1.1 X.1.2.1 dX9_of_12 (by rw [c12_4]; decide) (by rw [c12_4]; decide) (by rw [c12_4]; rfl) (by decide) ?_
              refine lv_aload_n X.1.1 X.1.2.1 dX9_of_80 rfl (lv_at hl 0 rfl) ?_
              refine lv_iload_n X.1.1 X.1.2.1 dX9_of_81 rfl (lv_at hl 1 rfl) ?_
              refine e_vi (rest := []) (As := [.int x1]) X hl.1 hW hS (C := RX9) (T := TX9) (N := 35) rfl (by decide) (ctfX9_kindOf X.2.2.2.2 F x1 m1) (cwV (rm := rmX9_kindOf) 1 X.1.2.2.2.2 (gd_V mw_4_106 mw_4_108 mw_0_21 mw_1_11 mw_4_109) rfl rfl rfl (by decide +kernel) ⟨Nat.le_of_ble_eq_true rfl, Nat.le_of_ble_eq_true rfl⟩) rfl rfl (Nat.le_of_ble_eq_true rfl) dX9_of_82 ⟨Nat.zero_le _, Nat.zero_le _⟩ hf (fun r8 m7 H locs hf hW hS => ?_)
              exact e_iret X hW hS hf dX9_of_85
            · rw [if_neg c12_4] at hf
              by_cases c12_5 : x2 = 5
              · rw [if_pos c12_5] at hf
                refine lv_tableIn (off := 74) (tgt := 86) X.1.1 X.1.2.1 dX9_of_12 (by rw [c12_5]; decide) (by rw [c12_5]; decide) (by rw [c12_5]; rfl) (by decide) ?_
                refine lv_aload_n X.1.1 X.1.2.1 dX9_of_86 rfl (lv_at hl 0 rfl) ?_
                refine lv_iload_n X.1.1 X.1.2.1 dX9_of_87 rfl (lv_at hl 1 rfl) ?_
                refine e_vi (rest := []) (As := [.int x1]) X hl.1 hW hS (C := RX9) (T := TX9) (N := 35) rfl (by decide) (ctfX9_placeOf X.2.2.2.2 F x1 m1) (cwV (rm := rmX9_placeOf) 1 X.1.2.2.2.2 (gd_V mw_4_110 mw_4_112 mw_0_22 mw_1_11 mw_4_113) rfl rfl rfl (by decide +kernel) ⟨Nat.le_of_ble_eq_true rfl, Nat.le_of_ble_eq_true rfl⟩) rfl rfl (Nat.le_of_ble_eq_true rfl) dX9_of_88 ⟨Nat.zero_le _, Nat.zero_le _⟩ hf (fun r10 m9 H locs hf hW hS => ?_)
                exact e_iret X hW hS hf dX9_of_91
              · rw [if_neg c12_5] at hf
                refine lv_tableOut (tgt := 92) X.1.1 X.1.2.1 dX9_of_12 (by have e0 := lv_neT c12_0 (a := 0) rfl; have e1 := lv_neT c12_1 (a := 1) rfl; have e2 := lv_neT c12_2 (a := 2) rfl; have e3 := lv_neT c12_3 (a := 3) rfl; have e4 := lv_neT c12_4 (a := 4) rfl; have e5 := lv_neT c12_5 (a := 5) rfl; have e := e0; omega) (by decide) ?_
                refine lv_bipush (v := (-2)) X.1.1 X.1.2.1 dX9_of_92 (by decide) ?_
                exact e_iret X hW hS hf dX9_of_94
  · rw [if_pos c5] at hf
    refine lv_bipush (v := (-2)) X.1.1 X.1.2.1 dX9_of_8 (by decide) ?_
    exact e_iret X hW hS hf dX9_of_10
-- OvenHouseModel.heat
def rmX9_heat : Room := { frames := 2, cells := 0, slots := 0, locals := 46 }
set_option maxRecDepth 100000 in
set_option maxHeartbeats 4000000 in
theorem ctfX9_heat {l : Launch} {E : Gv} (hD : Do E) (F : Nat) (x1 : Int32) (x2 : Int32) (x3 : Int32)  (μ : Mem) : CtI l yX9_heat ((Cond.code yX9_heat cX9_heat 4 (some .int)) :: GG) rmX9_heat E [.ref (E.1 89), .int x1, .int x2, .int x3] μ (fX9_heat F x1 x2 x3 μ) := by
  intro r u hf
  refine of_entry (cc := cX9_heat) (maxL := 4) (ret := (some .int)) (by decide +kernel) rfl hD (Nat.le_of_ble_eq_true rfl) (fun p e s m args below meth c X H locs hW hS ls hl => ?_)
  have hl : lv_has ls 4 [(0, .ref (E.1 89)), (1, .int x1), (2, .int x2), (3, .int x3)] := hl
  unfold fX9_heat at hf
  refine lv_aload_n X.1.1 X.1.2.1 dX9_heat_0 rfl (lv_at hl 0 rfl) ?_
  refine lv_iload_n X.1.1 X.1.2.1 dX9_heat_1 rfl (lv_at hl 1 rfl) ?_
  refine e_vi (rest := []) (As := [.int x1]) X hl.1 hW hS (C := RX9) (T := TX9) (N := 35) rfl (by decide) (ctfX9_isLoaf X.2.2.2.2 F x1 μ) (cwV (rm := rmX9_isLoaf) 1 X.1.2.2.2.2 (gd_V mw_4_102 mw_4_104 mw_0_20 mw_1_11 mw_4_105) rfl rfl rfl (by decide +kernel) ⟨Nat.le_of_ble_eq_true rfl, Nat.le_of_ble_eq_true rfl⟩) rfl rfl (Nat.le_of_ble_eq_true rfl) dX9_heat_2 ⟨Nat.zero_le _, Nat.zero_le _⟩ hf (fun r2 m1 H locs hf hW hS => ?_)
  refine lv_if_eq (tgt := 32) X.1.1 X.1.2.1 dX9_heat_5 (by decide) (fun c5 => ?_) (fun c5 => ?_)
  · rw [if_pos c5] at hf
    refine lv_bipush (v := (-2)) X.1.1 X.1.2.1 dX9_heat_32 (by decide) ?_
    exact e_iret X hW hS hf dX9_heat_34
  · rw [if_neg c5] at hf
    refine lv_iload_n X.1.1 X.1.2.1 dX9_heat_8 rfl (lv_at hl 2 rfl) ?_
    refine lv_i2l X.1.1 X.1.2.1 dX9_heat_9 rfl ?_
    refine lv_lconst (v := 0) X.1.1 X.1.2.1 dX9_heat_10 (by decide) ?_
    refine lv_ldc2 X.1.1 X.1.2.1 X.1.2.2.2.1 (X.1.2.2.2.2 _ (List.mem_cons_of_mem _ mw_4_118)) dX9_heat_11 ?_
    refine e_si (rest := []) (As := [.long x2.toInt64, .long 0, .long 399]) X hl.1 hW hS (ctfX9_in X.2.2.2.2 F x2.toInt64 0 399 m1) (cwS (rm := rmX9_in) 3 X.1.2.2.2.2 (gd_S mw_4_43 mw_4_44 mw_1_11 mw_4_45) rfl rfl rfl (by decide +kernel) ⟨Nat.le_of_ble_eq_true rfl, Nat.le_of_ble_eq_true rfl⟩) rfl rfl (Nat.le_of_ble_eq_true rfl) dX9_heat_14 ⟨Nat.zero_le _, Nat.zero_le _⟩ hf (fun r4 m3 H locs hf hW hS => ?_)
    refine lv_if_eq (tgt := 32) X.1.1 X.1.2.1 dX9_heat_17 (by decide) (fun c17 => ?_) (fun c17 => ?_)
    · rw [if_pos c17] at hf
      refine lv_bipush (v := (-2)) X.1.1 X.1.2.1 dX9_heat_32 (by decide) ?_
      exact e_iret X hW hS hf dX9_heat_34
    · rw [if_neg c17] at hf
      refine lv_iload_n X.1.1 X.1.2.1 dX9_heat_20 rfl (lv_at hl 3 rfl) ?_
      refine lv_i2l X.1.1 X.1.2.1 dX9_heat_21 rfl ?_
      refine lv_lconst (v := 0) X.1.1 X.1.2.1 dX9_heat_22 (by decide) ?_
      refine lv_ldc2 X.1.1 X.1.2.1 X.1.2.2.2.1 (X.1.2.2.2.2 _ (List.mem_cons_of_mem _ mw_4_118)) dX9_heat_23 ?_
      refine e_si (rest := []) (As := [.long x3.toInt64, .long 0, .long 399]) X hl.1 hW hS (ctfX9_in X.2.2.2.2 F x3.toInt64 0 399 m3) (cwS (rm := rmX9_in) 3 X.1.2.2.2.2 (gd_S mw_4_43 mw_4_44 mw_1_11 mw_4_45) rfl rfl rfl (by decide +kernel) ⟨Nat.le_of_ble_eq_true rfl, Nat.le_of_ble_eq_true rfl⟩) rfl rfl (Nat.le_of_ble_eq_true rfl) dX9_heat_26 ⟨Nat.zero_le _, Nat.zero_le _⟩ hf (fun r6 m5 H locs hf hW hS => ?_)
      refine lv_if_ne (tgt := 35) X.1.1 X.1.2.1 dX9_heat_29 (by decide) (fun c29 => ?_) (fun c29 => ?_)
      · rw [if_neg c29] at hf
        refine lv_aload_n X.1.1 X.1.2.1 dX9_heat_35 rfl (lv_at hl 0 rfl) ?_
        refine e_vv (rest := []) (As := []) X hl.1 hW hS (C := RX9) (T := TX9) (N := 35) rfl (by decide) (ctfX9_keep X.2.2.2.2 F m5) (cwV (rm := rmX9_keep) 0 X.1.2.2.2.2 (gd_V mw_4_86 mw_4_88 mw_0_18 mw_1_11 mw_4_89) rfl rfl rfl (by decide +kernel) ⟨Nat.le_of_ble_eq_true rfl, Nat.le_of_ble_eq_true rfl⟩) rfl rfl (Nat.le_of_ble_eq_true rfl) dX9_heat_36 ⟨Nat.zero_le _, Nat.zero_le _⟩ hf (fun m7 H locs hf hW hS => ?_)
        refine lv_aload_n X.1.1 X.1.2.1 dX9_heat_39 rfl (lv_at hl 0 rfl) ?_
        refine e_getr X hW (C := RX9) (T := TX9) (N := 35) (j := 8) rfl (by decide) inX9 (by decide) (by decide) rfl (t := 97) rfl rfl mw_3_177 dX9_heat_40 ?_
        refine lv_iload_n X.1.1 X.1.2.1 dX9_heat_43 rfl (lv_at hl 1 rfl) ?_
        refine lv_iload_n X.1.1 X.1.2.1 dX9_heat_44 rfl (lv_at hl 2 rfl) ?_
        refine e_ist X hW hS (by decide) rfl dX9_heat_45 hf (fun m8 H locs hf hW hS => ?_)
        refine lv_aload_n X.1.1 X.1.2.1 dX9_heat_46 rfl (lv_at hl 0 rfl) ?_
        refine e_getr X hW (C := RX9) (T := TX9) (N := 35) (j := 9) rfl (by decide) inX9 (by decide) (by decide) rfl (t := 98) rfl rfl mw_3_178 dX9_heat_47 ?_
        refine lv_iload_n X.1.1 X.1.2.1 dX9_heat_50 rfl (lv_at hl 1 rfl) ?_
        refine lv_iload_n X.1.1 X.1.2.1 dX9_heat_51 rfl (lv_at hl 3 rfl) ?_
        refine e_ist X hW hS (by decide) rfl dX9_heat_52 hf (fun m9 H locs hf hW hS => ?_)
        refine lv_iconst (v := 1) X.1.1 X.1.2.1 dX9_heat_53 (by decide) ?_
        exact e_iret X hW hS hf dX9_heat_54
      · rw [if_pos c29] at hf
        refine lv_bipush (v := (-2)) X.1.1 X.1.2.1 dX9_heat_32 (by decide) ?_
        exact e_iret X hW hS hf dX9_heat_34
-- OvenHouseModel.price
def rmX9_price : Room := { frames := 1, cells := 0, slots := 0, locals := 25 }
set_option maxRecDepth 100000 in
set_option maxHeartbeats 4000000 in
theorem ctfX9_price {l : Launch} {E : Gv} (hD : Do E) (F : Nat) (x1 : Int32) (x2 : Int32) (x3 : Int32)  (μ : Mem) : CtI l yX9_price ((Cond.code yX9_price cX9_price 4 (some .int)) :: GG) rmX9_price E [.ref (E.1 89), .int x1, .int x2, .int x3] μ (fX9_price F x1 x2 x3 μ) := by
  intro r u hf
  refine of_entry (cc := cX9_price) (maxL := 4) (ret := (some .int)) (by decide +kernel) rfl hD (Nat.le_of_ble_eq_true rfl) (fun p e s m args below meth c X H locs hW hS ls hl => ?_)
  have hl : lv_has ls 4 [(0, .ref (E.1 89)), (1, .int x1), (2, .int x2), (3, .int x3)] := hl
  unfold fX9_price at hf
  refine lv_iload_n X.1.1 X.1.2.1 dX9_price_0 rfl (lv_at hl 1 rfl) ?_
  refine lv_i2l X.1.1 X.1.2.1 dX9_price_1 rfl ?_
  refine lv_lconst (v := 0) X.1.1 X.1.2.1 dX9_price_2 (by decide) ?_
  refine lv_ldc2 X.1.1 X.1.2.1 X.1.2.2.2.1 (X.1.2.2.2.2 _ (List.mem_cons_of_mem _ mw_4_123)) dX9_price_3 ?_
  refine e_si (rest := []) (As := [.long x1.toInt64, .long 0, .long 7]) X hl.1 hW hS (ctfX9_in X.2.2.2.2 F x1.toInt64 0 7 μ) (cwS (rm := rmX9_in) 3 X.1.2.2.2.2 (gd_S mw_4_43 mw_4_44 mw_1_11 mw_4_45) rfl rfl rfl (by decide +kernel) ⟨Nat.le_of_ble_eq_true rfl, Nat.le_of_ble_eq_true rfl⟩) rfl rfl (Nat.le_of_ble_eq_true rfl) dX9_price_6 ⟨Nat.zero_le _, Nat.zero_le _⟩ hf (fun r2 m1 H locs hf hW hS => ?_)
  refine lv_if_eq (tgt := 40) X.1.1 X.1.2.1 dX9_price_9 (by decide) (fun c9 => ?_) (fun c9 => ?_)
  · rw [if_pos c9] at hf
    refine lv_bipush (v := (-2)) X.1.1 X.1.2.1 dX9_price_40 (by decide) ?_
    exact e_iret X hW hS hf dX9_price_42
  · rw [if_neg c9] at hf
    refine lv_iload_n X.1.1 X.1.2.1 dX9_price_12 rfl (lv_at hl 2 rfl) ?_
    refine lv_i2l X.1.1 X.1.2.1 dX9_price_13 rfl ?_
    refine lv_ldc2 X.1.1 X.1.2.1 X.1.2.2.2.1 (X.1.2.2.2.2 _ (List.mem_cons_of_mem _ mw_4_124)) dX9_price_14 ?_
    refine lv_ldc2 X.1.1 X.1.2.1 X.1.2.2.2.1 (X.1.2.2.2.2 _ (List.mem_cons_of_mem _ mw_4_125)) dX9_price_17 ?_
    refine e_si (rest := []) (As := [.long x2.toInt64, .long (-100), .long 100]) X hl.1 hW hS (ctfX9_in X.2.2.2.2 F x2.toInt64 (-100) 100 m1) (cwS (rm := rmX9_in) 3 X.1.2.2.2.2 (gd_S mw_4_43 mw_4_44 mw_1_11 mw_4_45) rfl rfl rfl (by decide +kernel) ⟨Nat.le_of_ble_eq_true rfl, Nat.le_of_ble_eq_true rfl⟩) rfl rfl (Nat.le_of_ble_eq_true rfl) dX9_price_20 ⟨Nat.zero_le _, Nat.zero_le _⟩ hf (fun r4 m3 H locs hf hW hS => ?_)
    refine lv_if_eq (tgt := 40) X.1.1 X.1.2.1 dX9_price_23 (by decide) (fun c23 => ?_) (fun c23 => ?_)
    · rw [if_pos c23] at hf
      refine lv_bipush (v := (-2)) X.1.1 X.1.2.1 dX9_price_40 (by decide) ?_
      exact e_iret X hW hS hf dX9_price_42
    · rw [if_neg c23] at hf
      refine lv_iload_n X.1.1 X.1.2.1 dX9_price_26 rfl (lv_at hl 3 rfl) ?_
      refine lv_i2l X.1.1 X.1.2.1 dX9_price_27 rfl ?_
      refine lv_ldc2 X.1.1 X.1.2.1 X.1.2.2.2.1 (X.1.2.2.2.2 _ (List.mem_cons_of_mem _ mw_4_124)) dX9_price_28 ?_
      refine lv_ldc2 X.1.1 X.1.2.1 X.1.2.2.2.1 (X.1.2.2.2.2 _ (List.mem_cons_of_mem _ mw_4_125)) dX9_price_31 ?_
      refine e_si (rest := []) (As := [.long x3.toInt64, .long (-100), .long 100]) X hl.1 hW hS (ctfX9_in X.2.2.2.2 F x3.toInt64 (-100) 100 m3) (cwS (rm := rmX9_in) 3 X.1.2.2.2.2 (gd_S mw_4_43 mw_4_44 mw_1_11 mw_4_45) rfl rfl rfl (by decide +kernel) ⟨Nat.le_of_ble_eq_true rfl, Nat.le_of_ble_eq_true rfl⟩) rfl rfl (Nat.le_of_ble_eq_true rfl) dX9_price_34 ⟨Nat.zero_le _, Nat.zero_le _⟩ hf (fun r6 m5 H locs hf hW hS => ?_)
      refine lv_if_ne (tgt := 43) X.1.1 X.1.2.1 dX9_price_37 (by decide) (fun c37 => ?_) (fun c37 => ?_)
      · rw [if_neg c37] at hf
        refine lv_aload_n X.1.1 X.1.2.1 dX9_price_43 rfl (lv_at hl 0 rfl) ?_
        refine e_getr X hW (C := RX9) (T := TX9) (N := 35) (j := 16) rfl (by decide) inX9 (by decide) (by decide) rfl (t := 101) rfl rfl mw_3_185 dX9_price_44 ?_
        refine lv_iload_n X.1.1 X.1.2.1 dX9_price_47 rfl (lv_at hl 1 rfl) ?_
        refine lv_iload_n X.1.1 X.1.2.1 dX9_price_48 rfl (lv_at hl 2 rfl) ?_
        refine e_ist X hW hS (by decide) rfl dX9_price_49 hf (fun m7 H locs hf hW hS => ?_)
        refine lv_aload_n X.1.1 X.1.2.1 dX9_price_50 rfl (lv_at hl 0 rfl) ?_
        refine e_getr X hW (C := RX9) (T := TX9) (N := 35) (j := 17) rfl (by decide) inX9 (by decide) (by decide) rfl (t := 102) rfl rfl mw_3_186 dX9_price_51 ?_
        refine lv_iload_n X.1.1 X.1.2.1 dX9_price_54 rfl (lv_at hl 1 rfl) ?_
        refine lv_iload_n X.1.1 X.1.2.1 dX9_price_55 rfl (lv_at hl 3 rfl) ?_
        refine e_ist X hW hS (by decide) rfl dX9_price_56 hf (fun m8 H locs hf hW hS => ?_)
        refine lv_iconst (v := 1) X.1.1 X.1.2.1 dX9_price_57 (by decide) ?_
        exact e_iret X hW hS hf dX9_price_58
      · rw [if_pos c37] at hf
        refine lv_bipush (v := (-2)) X.1.1 X.1.2.1 dX9_price_40 (by decide) ?_
        exact e_iret X hW hS hf dX9_price_42
-- OvenHouseModel.at
def rmX9_at : Room := { frames := 2, cells := 0, slots := 0, locals := 46 }
set_option maxRecDepth 100000 in
set_option maxHeartbeats 4000000 in
theorem ctfX9_at {l : Launch} {E : Gv} (hD : Do E) (F : Nat) (x1 : Int32)  (μ : Mem) : CtI l yX9_at ((Cond.code yX9_at cX9_at 2 (some .int)) :: GG) rmX9_at E [.ref (E.1 89), .int x1] μ (fX9_at F x1 μ) := by
  intro r u hf
  refine of_entry (cc := cX9_at) (maxL := 2) (ret := (some .int)) (by decide +kernel) rfl hD (Nat.le_of_ble_eq_true rfl) (fun p e s m args below meth c X H locs hW hS ls hl => ?_)
  have hl : lv_has ls 2 [(0, .ref (E.1 89)), (1, .int x1)] := hl
  unfold fX9_at at hf
  refine lv_aload_n X.1.1 X.1.2.1 dX9_at_0 rfl (lv_at hl 0 rfl) ?_
  refine lv_iload_n X.1.1 X.1.2.1 dX9_at_1 rfl (lv_at hl 1 rfl) ?_
  refine e_vi (rest := []) (As := [.int x1]) X hl.1 hW hS (C := RX9) (T := TX9) (N := 35) rfl (by decide) (ctfX9_isLoaf X.2.2.2.2 F x1 μ) (cwV (rm := rmX9_isLoaf) 1 X.1.2.2.2.2 (gd_V mw_4_102 mw_4_104 mw_0_20 mw_1_11 mw_4_105) rfl rfl rfl (by decide +kernel) ⟨Nat.le_of_ble_eq_true rfl, Nat.le_of_ble_eq_true rfl⟩) rfl rfl (Nat.le_of_ble_eq_true rfl) dX9_at_2 ⟨Nat.zero_le _, Nat.zero_le _⟩ hf (fun r2 m1 H locs hf hW hS => ?_)
  refine lv_if_eq (tgt := 17) X.1.1 X.1.2.1 dX9_at_5 (by decide) (fun c5 => ?_) (fun c5 => ?_)
  · rw [if_pos c5] at hf
    refine lv_iconst (v := (-1)) X.1.1 X.1.2.1 dX9_at_17 (by decide) ?_
    exact e_iret X hW hS hf dX9_at_18
  · rw [if_neg c5] at hf
    refine lv_aload_n X.1.1 X.1.2.1 dX9_at_8 rfl (lv_at hl 0 rfl) ?_
    refine e_getr X hW (C := RX9) (T := TX9) (N := 35) (j := 10) rfl (by decide) inX9 (by decide) (by decide) rfl (t := 99) rfl rfl mw_3_179 dX9_at_9 ?_
    refine lv_iload_n X.1.1 X.1.2.1 dX9_at_12 rfl (lv_at hl 1 rfl) ?_
    refine e_ild X hW (by decide) rfl dX9_at_13 hf (fun v3 hf => ?_)
    refine lv_goto (tgt := 18) X.1.1 X.1.2.1 dX9_at_14 (by decide) ?_
    exact e_iret X hW hS hf dX9_at_18
-- OvenHouseModel.swap
def rmX9_swap : Room := { frames := 2, cells := 0, slots := 0, locals := 46 }
set_option maxRecDepth 100000 in
set_option maxHeartbeats 4000000 in
theorem ctfX9_swap {l : Launch} {E : Gv} (hD : Do E) (F : Nat) (x1 : Int32) (x2 : Int32)  (μ : Mem) : CtI l yX9_swap ((Cond.code yX9_swap cX9_swap 4 (some .int)) :: GG) rmX9_swap E [.ref (E.1 89), .int x1, .int x2] μ (fX9_swap F x1 x2 μ) := by
  intro r u hf
  refine of_entry (cc := cX9_swap) (maxL := 4) (ret := (some .int)) (by decide +kernel) rfl hD (Nat.le_of_ble_eq_true rfl) (fun p e s m args below meth c X H locs hW hS ls hl => ?_)
  have hl : lv_has ls 4 [(0, .ref (E.1 89)), (1, .int x1), (2, .int x2)] := hl
  unfold fX9_swap at hf
  refine lv_aload_n X.1.1 X.1.2.1 dX9_swap_0 rfl (lv_at hl 0 rfl) ?_
  refine lv_iload_n X.1.1 X.1.2.1 dX9_swap_1 rfl (lv_at hl 1 rfl) ?_
  refine e_vi (rest := []) (As := [.int x1]) X hl.1 hW hS (C := RX9) (T := TX9) (N := 35) rfl (by decide) (ctfX9_isLoaf X.2.2.2.2 F x1 μ) (cwV (rm := rmX9_isLoaf) 1 X.1.2.2.2.2 (gd_V mw_4_102 mw_4_104 mw_0_20 mw_1_11 mw_4_105) rfl rfl rfl (by decide +kernel) ⟨Nat.le_of_ble_eq_true rfl, Nat.le_of_ble_eq_true rfl⟩) rfl rfl (Nat.le_of_ble_eq_true rfl) dX9_swap_2 ⟨Nat.zero_le _, Nat.zero_le _⟩ hf (fun r2 m1 H locs hf hW hS => ?_)
  refine lv_if_eq (tgt := 16) X.1.1 X.1.2.1 dX9_swap_5 (by decide) (fun c5 => ?_) (fun c5 => ?_)
  · rw [if_pos c5] at hf
    refine lv_bipush (v := (-2)) X.1.1 X.1.2.1 dX9_swap_16 (by decide) ?_
    exact e_iret X hW hS hf dX9_swap_18
  · rw [if_neg c5] at hf
    refine lv_aload_n X.1.1 X.1.2.1 dX9_swap_8 rfl (lv_at hl 0 rfl) ?_
    refine lv_iload_n X.1.1 X.1.2.1 dX9_swap_9 rfl (lv_at hl 2 rfl) ?_
    refine e_vi (rest := []) (As := [.int x2]) X hl.1 hW hS (C := RX9) (T := TX9) (N := 35) rfl (by decide) (ctfX9_isLoaf X.2.2.2.2 F x2 m1) (cwV (rm := rmX9_isLoaf) 1 X.1.2.2.2.2 (gd_V mw_4_102 mw_4_104 mw_0_20 mw_1_11 mw_4_105) rfl rfl rfl (by decide +kernel) ⟨Nat.le_of_ble_eq_true rfl, Nat.le_of_ble_eq_true rfl⟩) rfl rfl (Nat.le_of_ble_eq_true rfl) dX9_swap_10 ⟨Nat.zero_le _, Nat.zero_le _⟩ hf (fun r4 m3 H locs hf hW hS => ?_)
    refine lv_if_ne (tgt := 19) X.1.1 X.1.2.1 dX9_swap_13 (by decide) (fun c13 => ?_) (fun c13 => ?_)
    · rw [if_neg c13] at hf
      refine lv_aload_n X.1.1 X.1.2.1 dX9_swap_19 rfl (lv_at hl 0 rfl) ?_
      refine e_vv (rest := []) (As := []) X hl.1 hW hS (C := RX9) (T := TX9) (N := 35) rfl (by decide) (ctfX9_keep X.2.2.2.2 F m3) (cwV (rm := rmX9_keep) 0 X.1.2.2.2.2 (gd_V mw_4_86 mw_4_88 mw_0_18 mw_1_11 mw_4_89) rfl rfl rfl (by decide +kernel) ⟨Nat.le_of_ble_eq_true rfl, Nat.le_of_ble_eq_true rfl⟩) rfl rfl (Nat.le_of_ble_eq_true rfl) dX9_swap_20 ⟨Nat.zero_le _, Nat.zero_le _⟩ hf (fun m5 H locs hf hW hS => ?_)
      refine lv_aload_n X.1.1 X.1.2.1 dX9_swap_23 rfl (lv_at hl 0 rfl) ?_
      refine e_getr X hW (C := RX9) (T := TX9) (N := 35) (j := 10) rfl (by decide) inX9 (by decide) (by decide) rfl (t := 99) rfl rfl mw_3_179 dX9_swap_24 ?_
      refine lv_iload_n X.1.1 X.1.2.1 dX9_swap_27 rfl (lv_at hl 1 rfl) ?_
      refine e_ild X hW (by decide) rfl dX9_swap_28 hf (fun v6 hf => ?_)
      refine lv_istore_n (lv' := [(3, .int v6), (0, .ref (E.1 89)), (1, .int x1), (2, .int x2)]) X.1.1 X.1.2.1 dX9_swap_29 rfl hl (by decide) rfl (fun ls hl => ?_)
      refine lv_aload_n X.1.1 X.1.2.1 dX9_swap_30 rfl (lv_at hl 1 rfl) ?_
      refine e_getr X hW (C := RX9) (T := TX9) (N := 35) (j := 10) rfl (by decide) inX9 (by decide) (by decide) rfl (t := 99) rfl rfl mw_3_179 dX9_swap_31 ?_
      refine lv_iload_n X.1.1 X.1.2.1 dX9_swap_34 rfl (lv_at hl 2 rfl) ?_
      refine lv_aload_n X.1.1 X.1.2.1 dX9_swap_35 rfl (lv_at hl 1 rfl) ?_
      refine e_getr X hW (C := RX9) (T := TX9) (N := 35) (j := 10) rfl (by decide) inX9 (by decide) (by decide) rfl (t := 99) rfl rfl mw_3_179 dX9_swap_36 ?_
      refine lv_iload_n X.1.1 X.1.2.1 dX9_swap_39 rfl (lv_at hl 3 rfl) ?_
      refine e_ild X hW (by decide) rfl dX9_swap_40 hf (fun v7 hf => ?_)
      refine e_ist X hW hS (by decide) rfl dX9_swap_41 hf (fun m8 H locs hf hW hS => ?_)
      refine lv_aload_n X.1.1 X.1.2.1 dX9_swap_42 rfl (lv_at hl 1 rfl) ?_
      refine e_getr X hW (C := RX9) (T := TX9) (N := 35) (j := 10) rfl (by decide) inX9 (by decide) (by decide) rfl (t := 99) rfl rfl mw_3_179 dX9_swap_43 ?_
      refine lv_iload_n X.1.1 X.1.2.1 dX9_swap_46 rfl (lv_at hl 3 rfl) ?_
      refine lv_iload_n X.1.1 X.1.2.1 dX9_swap_47 rfl (lv_at hl 0 rfl) ?_
      refine e_ist X hW hS (by decide) rfl dX9_swap_48 hf (fun m9 H locs hf hW hS => ?_)
      refine lv_iconst (v := 1) X.1.1 X.1.2.1 dX9_swap_49 (by decide) ?_
      exact e_iret X hW hS hf dX9_swap_50
    · rw [if_pos c13] at hf
      refine lv_bipush (v := (-2)) X.1.1 X.1.2.1 dX9_swap_16 (by decide) ?_
      exact e_iret X hW hS hf dX9_swap_18
-- OvenHouseModel.isAhead
def rmX9_isAhead : Room := { frames := 0, cells := 0, slots := 0, locals := 0 }
set_option maxRecDepth 100000 in
set_option maxHeartbeats 4000000 in
theorem wfX9_isAhead_80 {p : Program} {l : Launch} {e : Env} {s : State} {m : MethodId} {args : Array Value} {below : List Frame} {meth : Method} {c : Code} {E : Gv} {F : Nat}  {r : Int32} {u : Mem} (X : Fx p m c cX9_isAhead 5 s args (Cond.code yX9_isAhead cX9_isAhead 5 (some .boolean)) "OvenHouseModel" meth (some .boolean) E)  (y1 : Int32) (y2 : Int32) (z0 : Int32) (μ : Mem) (H : Heap) (locs : List Loc) (ls : Array Slot) (hf : fX9_isAhead_80 F   y1 y2 z0 μ = some (r, u)) (hW : Wo E μ H) (hS : va_S (AE E) s.heap H locs) (hl : lv_has ls 5 [(1, .int y1), (2, .int y2)]) : W0 p l e rmX9_isAhead s m args below meth c H locs (QcI E r u) E (F0 m 80 ls [.int z0]) := by
  unfold fX9_isAhead_80 at hf
  refine lv_istore (lv' := [(4, .int z0), (1, .int y1), (2, .int y2)]) X.1.1 X.1.2.1 dX9_isAhead_80 hl (by decide) rfl (fun ls hl => ?_)
  refine lv_iload X.1.1 X.1.2.1 dX9_isAhead_82 (lv_at hl 0 rfl) ?_
  refine lv_if_lt (tgt := 97) X.1.1 X.1.2.1 dX9_isAhead_84 (by decide) (fun c84 => ?_) (fun c84 => ?_)
  · rw [if_pos c84] at hf
    refine lv_iconst (v := 1) X.1.1 X.1.2.1 dX9_isAhead_97 (by decide) ?_
    refine lv_goto (tgt := 102) X.1.1 X.1.2.1 dX9_isAhead_98 (by decide) ?_
    exact e_zret X hW hS hf dX9_isAhead_102
  · rw [if_neg c84] at hf
    refine lv_iload X.1.1 X.1.2.1 dX9_isAhead_87 (lv_at hl 0 rfl) ?_
    refine lv_if_ne (tgt := 101) X.1.1 X.1.2.1 dX9_isAhead_89 (by decide) (fun c89 => ?_) (fun c89 => ?_)
    · rw [if_neg c89] at hf
      refine lv_iconst (v := 0) X.1.1 X.1.2.1 dX9_isAhead_101 (by decide) ?_
      exact e_zret X hW hS hf dX9_isAhead_102
    · rw [if_pos c89] at hf
      refine lv_iload_n X.1.1 X.1.2.1 dX9_isAhead_92 rfl (lv_at hl 1 rfl) ?_
      refine lv_iload_n X.1.1 X.1.2.1 dX9_isAhead_93 rfl (lv_at hl 2 rfl) ?_
      refine lv_icmp_ge (tgt := 101) X.1.1 X.1.2.1 dX9_isAhead_94 (by decide) (fun c94 => ?_) (fun c94 => ?_)
      · rw [if_pos c94] at hf
        refine lv_iconst (v := 0) X.1.1 X.1.2.1 dX9_isAhead_101 (by decide) ?_
        exact e_zret X hW hS hf dX9_isAhead_102
      · rw [if_neg c94] at hf
        refine lv_iconst (v := 1) X.1.1 X.1.2.1 dX9_isAhead_97 (by decide) ?_
        refine lv_goto (tgt := 102) X.1.1 X.1.2.1 dX9_isAhead_98 (by decide) ?_
        exact e_zret X hW hS hf dX9_isAhead_102
set_option maxRecDepth 100000 in
set_option maxHeartbeats 4000000 in
theorem wfX9_isAhead_42 {p : Program} {l : Launch} {e : Env} {s : State} {m : MethodId} {args : Array Value} {below : List Frame} {meth : Method} {c : Code} {E : Gv} {F : Nat}  {r : Int32} {u : Mem} (X : Fx p m c cX9_isAhead 5 s args (Cond.code yX9_isAhead cX9_isAhead 5 (some .boolean)) "OvenHouseModel" meth (some .boolean) E)  (y1 : Int32) (y2 : Int32) (y3 : Int32) (z0 : Int32) (z1 : Int32) (μ : Mem) (H : Heap) (locs : List Loc) (ls : Array Slot) (hf : fX9_isAhead_42 F   y1 y2 y3 z0 z1 μ = some (r, u)) (hW : Wo E μ H) (hS : va_S (AE E) s.heap H locs) (hl : lv_has ls 5 [(0, .ref (E.1 89)), (1, .int y1), (2, .int y2), (3, .int y3)]) : W0 p l e rmX9_isAhead s m args below meth c H locs (QcI E r u) E (F0 m 42 ls [.int z0, .int z1]) := by
  unfold fX9_isAhead_42 at hf
  refine lv_icmp_eq (tgt := 47) X.1.1 X.1.2.1 dX9_isAhead_42 (by decide) (fun c42 => ?_) (fun c42 => ?_)
  · rw [if_pos c42] at hf
    refine lv_iload_n X.1.1 X.1.2.1 dX9_isAhead_47 rfl (lv_at hl 3 rfl) ?_
    refine lv_if_eq (tgt := 67) X.1.1 X.1.2.1 dX9_isAhead_48 (by decide) (fun c48 => ?_) (fun c48 => ?_)
    · rw [if_pos c48] at hf
      refine lv_aload_n X.1.1 X.1.2.1 dX9_isAhead_67 rfl (lv_at hl 0 rfl) ?_
      refine e_getr X hW (C := RX9) (T := TX9) (N := 35) (j := 7) rfl (by decide) inX9 (by decide) (by decide) rfl (t := 96) rfl rfl mw_3_176 dX9_isAhead_68 ?_
      refine lv_iload_n X.1.1 X.1.2.1 dX9_isAhead_71 rfl (lv_at hl 2 rfl) ?_
      refine e_ild X hW (by decide) rfl dX9_isAhead_72 hf (fun v5 hf => ?_)
      refine lv_aload_n X.1.1 X.1.2.1 dX9_isAhead_73 rfl (lv_at hl 0 rfl) ?_
      refine e_getr X hW (C := RX9) (T := TX9) (N := 35) (j := 7) rfl (by decide) inX9 (by decide) (by decide) rfl (t := 96) rfl rfl mw_3_176 dX9_isAhead_74 ?_
      refine lv_iload_n X.1.1 X.1.2.1 dX9_isAhead_77 rfl (lv_at hl 1 rfl) ?_
      refine e_ild X hW (by decide) rfl dX9_isAhead_78 hf (fun v6 hf => ?_)
      refine lv_isub X.1.1 X.1.2.1 dX9_isAhead_79 ?_
      exact wfX9_isAhead_80 X  y1 y2 (v5 - v6) μ H locs ls hf hW hS (lv_sub hl [1, 2] rfl)
    · rw [if_neg c48] at hf
      refine lv_aload_n X.1.1 X.1.2.1 dX9_isAhead_51 rfl (lv_at hl 0 rfl) ?_
      refine e_getr X hW (C := RX9) (T := TX9) (N := 35) (j := 6) rfl (by decide) inX9 (by decide) (by decide) rfl (t := 95) rfl rfl mw_3_175 dX9_isAhead_52 ?_
      refine lv_iload_n X.1.1 X.1.2.1 dX9_isAhead_55 rfl (lv_at hl 1 rfl) ?_
      refine e_ild X hW (by decide) rfl dX9_isAhead_56 hf (fun v7 hf => ?_)
      refine lv_aload_n X.1.1 X.1.2.1 dX9_isAhead_57 rfl (lv_at hl 0 rfl) ?_
      refine e_getr X hW (C := RX9) (T := TX9) (N := 35) (j := 6) rfl (by decide) inX9 (by decide) (by decide) rfl (t := 95) rfl rfl mw_3_175 dX9_isAhead_58 ?_
      refine lv_iload_n X.1.1 X.1.2.1 dX9_isAhead_61 rfl (lv_at hl 2 rfl) ?_
      refine e_ild X hW (by decide) rfl dX9_isAhead_62 hf (fun v8 hf => ?_)
      refine lv_isub X.1.1 X.1.2.1 dX9_isAhead_63 ?_
      refine lv_goto (tgt := 80) X.1.1 X.1.2.1 dX9_isAhead_64 (by decide) ?_
      exact wfX9_isAhead_80 X  y1 y2 (v7 - v8) μ H locs ls hf hW hS (lv_sub hl [1, 2] rfl)
  · rw [if_neg c42] at hf
    refine lv_iload_n X.1.1 X.1.2.1 dX9_isAhead_45 rfl (lv_at hl 3 rfl) ?_
    exact e_zret X hW hS hf dX9_isAhead_46
set_option maxRecDepth 100000 in
set_option maxHeartbeats 4000000 in
theorem wfX9_isAhead_20 {p : Program} {l : Launch} {e : Env} {s : State} {m : MethodId} {args : Array Value} {below : List Frame} {meth : Method} {c : Code} {E : Gv} {F : Nat}  {r : Int32} {u : Mem} (X : Fx p m c cX9_isAhead 5 s args (Cond.code yX9_isAhead cX9_isAhead 5 (some .boolean)) "OvenHouseModel" meth (some .boolean) E)  (y1 : Int32) (y2 : Int32) (z0 : Int32) (μ : Mem) (H : Heap) (locs : List Loc) (ls : Array Slot) (hf : fX9_isAhead_20 F   y1 y2 z0 μ = some (r, u)) (hW : Wo E μ H) (hS : va_S (AE E) s.heap H locs) (hl : lv_has ls 5 [(0, .ref (E.1 89)), (1, .int y1), (2, .int y2)]) : W0 p l e rmX9_isAhead s m args below meth c H locs (QcI E r u) E (F0 m 20 ls [.int z0]) := by
  unfold fX9_isAhead_20 at hf
  refine lv_istore_n (lv' := [(3, .int z0), (0, .ref (E.1 89)), (1, .int y1), (2, .int y2)]) X.1.1 X.1.2.1 dX9_isAhead_20 rfl hl (by decide) rfl (fun ls hl => ?_)
  refine lv_iload_n X.1.1 X.1.2.1 dX9_isAhead_21 rfl (lv_at hl 0 rfl) ?_
  refine lv_aload_n X.1.1 X.1.2.1 dX9_isAhead_22 rfl (lv_at hl 1 rfl) ?_
  refine e_getr X hW (C := RX9) (T := TX9) (N := 35) (j := 6) rfl (by decide) inX9 (by decide) (by decide) rfl (t := 95) rfl rfl mw_3_175 dX9_isAhead_23 ?_
  refine lv_iload_n X.1.1 X.1.2.1 dX9_isAhead_26 rfl (lv_at hl 3 rfl) ?_
  refine e_ild X hW (by decide) rfl dX9_isAhead_27 hf (fun v3 hf => ?_)
  refine lv_aload_n X.1.1 X.1.2.1 dX9_isAhead_28 rfl (lv_at hl 1 rfl) ?_
  refine e_getr X hW (C := RX9) (T := TX9) (N := 35) (j := 7) rfl (by decide) inX9 (by decide) (by decide) rfl (t := 96) rfl rfl mw_3_176 dX9_isAhead_29 ?_
  refine lv_iload_n X.1.1 X.1.2.1 dX9_isAhead_32 rfl (lv_at hl 3 rfl) ?_
  refine e_ild X hW (by decide) rfl dX9_isAhead_33 hf (fun v4 hf => ?_)
  refine lv_icmp_gt (tgt := 41) X.1.1 X.1.2.1 dX9_isAhead_34 (by decide) (fun c34 => ?_) (fun c34 => ?_)
  · rw [if_pos c34] at hf
    refine lv_iconst (v := 0) X.1.1 X.1.2.1 dX9_isAhead_41 (by decide) ?_
    exact wfX9_isAhead_42 X  y1 y2 z0 0 z0 μ H locs ls hf hW hS (lv_sub hl [1, 2, 3, 0] rfl)
  · rw [if_neg c34] at hf
    refine lv_iconst (v := 1) X.1.1 X.1.2.1 dX9_isAhead_37 (by decide) ?_
    refine lv_goto (tgt := 42) X.1.1 X.1.2.1 dX9_isAhead_38 (by decide) ?_
    exact wfX9_isAhead_42 X  y1 y2 z0 1 z0 μ H locs ls hf hW hS (lv_sub hl [1, 2, 3, 0] rfl)
set_option maxRecDepth 100000 in
set_option maxHeartbeats 4000000 in
theorem ctfX9_isAhead {l : Launch} {E : Gv} (hD : Do E) (F : Nat) (x1 : Int32) (x2 : Int32)  (μ : Mem) : CtI l yX9_isAhead ((Cond.code yX9_isAhead cX9_isAhead 5 (some .boolean)) :: GG) rmX9_isAhead E [.ref (E.1 89), .int x1, .int x2] μ (fX9_isAhead F x1 x2 μ) := by
  intro r u hf
  refine of_entry (cc := cX9_isAhead) (maxL := 5) (ret := (some .boolean)) (by decide +kernel) rfl hD (Nat.le_of_ble_eq_true rfl) (fun p e s m args below meth c X H locs hW hS ls hl => ?_)
  have hl : lv_has ls 5 [(0, .ref (E.1 89)), (1, .int x1), (2, .int x2)] := hl
  unfold fX9_isAhead at hf
  refine lv_aload_n X.1.1 X.1.2.1 dX9_isAhead_0 rfl (lv_at hl 0 rfl) ?_
  refine e_getr X hW (C := RX9) (T := TX9) (N := 35) (j := 6) rfl (by decide) inX9 (by decide) (by decide) rfl (t := 95) rfl rfl mw_3_175 dX9_isAhead_1 ?_
  refine lv_iload_n X.1.1 X.1.2.1 dX9_isAhead_4 rfl (lv_at hl 1 rfl) ?_
  refine e_ild X hW (by decide) rfl dX9_isAhead_5 hf (fun v1 hf => ?_)
  refine lv_aload_n X.1.1 X.1.2.1 dX9_isAhead_6 rfl (lv_at hl 0 rfl) ?_
  refine e_getr X hW (C := RX9) (T := TX9) (N := 35) (j := 7) rfl (by decide) inX9 (by decide) (by decide) rfl (t := 96) rfl rfl mw_3_176 dX9_isAhead_7 ?_
  refine lv_iload_n X.1.1 X.1.2.1 dX9_isAhead_10 rfl (lv_at hl 1 rfl) ?_
  refine e_ild X hW (by decide) rfl dX9_isAhead_11 hf (fun v2 hf => ?_)
  refine lv_icmp_gt (tgt := 19) X.1.1 X.1.2.1 dX9_isAhead_12 (by decide) (fun c12 => ?_) (fun c12 => ?_)
  · rw [if_pos c12] at hf
    refine lv_iconst (v := 0) X.1.1 X.1.2.1 dX9_isAhead_19 (by decide) ?_
    exact wfX9_isAhead_20 X  x1 x2 0 μ H locs ls hf hW hS (lv_sub hl [0, 1, 2] rfl)
  · rw [if_neg c12] at hf
    refine lv_iconst (v := 1) X.1.1 X.1.2.1 dX9_isAhead_15 (by decide) ?_
    refine lv_goto (tgt := 20) X.1.1 X.1.2.1 dX9_isAhead_16 (by decide) ?_
    exact wfX9_isAhead_20 X  x1 x2 1 μ H locs ls hf hW hS (lv_sub hl [0, 1, 2] rfl)
-- OvenHouseModel.byRule
def rmX9_byRule : Room := { frames := 1, cells := 0, slots := 0, locals := 24 }
set_option maxRecDepth 100000 in
set_option maxHeartbeats 4000000 in
theorem wfX9_byRule_45 {p : Program} {l : Launch} {e : Env} {s : State} {m : MethodId} {args : Array Value} {below : List Frame} {meth : Method} {c : Code} {E : Gv} {F : Nat} {k1 : Nat} {u : Mem} (X : Fx p m c cX9_byRule 4 s args (Cond.code yX9_byRule cX9_byRule 4 none) "OvenHouseModel" meth none E) (h1 : k1 < NC ∧ kd k1 = 10) (rec2 : Int32 → Mem → Option Mem) (hrec2 : ∀ (y2 : Int32) (μ : Mem) (H : Heap) (locs : List Loc) (ls : Array Slot), rec2 y2 μ = some u → Wo E μ H → va_S (AE E) s.heap H locs → lv_has ls 4 [(0, .ref (E.1 89)), (1, .ref (E.1 k1)), (2, .int y2)] → W0 p l e rmX9_byRule s m args below meth c H locs (QcN E u) E (F0 m 2 ls [])) (y2 : Int32) (y3 : Int32) (μ : Mem) (H : Heap) (locs : List Loc) (ls : Array Slot) (hf : fX9_byRule_45 F k1 rec2 y2 y3 μ = some u) (hW : Wo E μ H) (hS : va_S (AE E) s.heap H locs) (hl : lv_has ls 4 [(0, .ref (E.1 89)), (1, .ref (E.1 k1)), (2, .int y2), (3, .int y3)]) : W0 p l e rmX9_byRule s m args below meth c H locs (QcN E u) E (F0 m 45 ls []) := by
  unfold fX9_byRule_45 at hf
  refine lv_aload_n X.1.1 X.1.2.1 dX9_byRule_45 rfl (lv_at hl 1 rfl) ?_
  refine lv_iload_n X.1.1 X.1.2.1 dX9_byRule_46 rfl (lv_at hl 3 rfl) ?_
  refine lv_iload_n X.1.1 X.1.2.1 dX9_byRule_47 rfl (lv_at hl 2 rfl) ?_
  refine e_ist X hW hS h1.1 h1.2 dX9_byRule_48 hf (fun m7 H locs hf hW hS => ?_)
  refine lv_iinc (v := (y2 + 1)) (lv' := [(2, .int (y2 + 1)), (0, .ref (E.1 89)), (1, .ref (E.1 k1)), (3, .int y3)]) X.1.1 X.1.2.1 dX9_byRule_49 hl (k := 2) rfl rfl (by decide) rfl (fun ls hl => ?_)
  refine lv_goto (tgt := 2) X.1.1 X.1.2.1 dX9_byRule_52 (by decide) ?_
  exact hrec2 (y2 + 1) m7 H locs ls hf hW hS (lv_sub hl [1, 2, 0] rfl)
set_option maxRecDepth 100000 in
set_option maxHeartbeats 4000000 in
theorem wfX9_byRule_14_b {p : Program} {l : Launch} {e : Env} {s : State} {m : MethodId} {args : Array Value} {below : List Frame} {meth : Method} {c : Code} {E : Gv} {F : Nat} {k1 : Nat} {u : Mem} (X : Fx p m c cX9_byRule 4 s args (Cond.code yX9_byRule cX9_byRule 4 none) "OvenHouseModel" meth none E) (h1 : k1 < NC ∧ kd k1 = 10) (rec2 : Int32 → Mem → Option Mem) (hrec2 : ∀ (y2 : Int32) (μ : Mem) (H : Heap) (locs : List Loc) (ls : Array Slot), rec2 y2 μ = some u → Wo E μ H → va_S (AE E) s.heap H locs → lv_has ls 4 [(0, .ref (E.1 89)), (1, .ref (E.1 k1)), (2, .int y2)] → W0 p l e rmX9_byRule s m args below meth c H locs (QcN E u) E (F0 m 2 ls [])) (rec14 : Int32 → Int32 → Mem → Option Mem) (hrec14 : ∀ (y2 : Int32) (y3 : Int32) (μ : Mem) (H : Heap) (locs : List Loc) (ls : Array Slot), rec14 y2 y3 μ = some u → Wo E μ H → va_S (AE E) s.heap H locs → lv_has ls 4 [(0, .ref (E.1 89)), (1, .ref (E.1 k1)), (2, .int y2), (3, .int y3)] → W0 p l e rmX9_byRule s m args below meth c H locs (QcN E u) E (F0 m 14 ls [])) (y2 : Int32) (y3 : Int32) (μ : Mem) (H : Heap) (locs : List Loc) (ls : Array Slot) (hf : fX9_byRule_14_b F k1 rec2 rec14 y2 y3 μ = some u) (hW : Wo E μ H) (hS : va_S (AE E) s.heap H locs) (hl : lv_has ls 4 [(0, .ref (E.1 89)), (1, .ref (E.1 k1)), (2, .int y2), (3, .int y3)]) : W0 p l e rmX9_byRule s m args below meth c H locs (QcN E u) E (F0 m 14 ls []) := by
  unfold fX9_byRule_14_b at hf
  refine lv_iload_n X.1.1 X.1.2.1 dX9_byRule_14 rfl (lv_at hl 3 rfl) ?_
  refine lv_if_le (tgt := 45) X.1.1 X.1.2.1 dX9_byRule_15 (by decide) (fun c15 => ?_) (fun c15 => ?_)
  · rw [if_pos c15] at hf
    exact wfX9_byRule_45 X h1 rec2 hrec2 y2 y3 μ H locs ls hf hW hS (lv_sub hl [0, 1, 2, 3] rfl)
  · rw [if_neg c15] at hf
    refine lv_aload_n X.1.1 X.1.2.1 dX9_byRule_18 rfl (lv_at hl 0 rfl) ?_
    refine lv_iload_n X.1.1 X.1.2.1 dX9_byRule_19 rfl (lv_at hl 2 rfl) ?_
    refine lv_aload_n X.1.1 X.1.2.1 dX9_byRule_20 rfl (lv_at hl 1 rfl) ?_
    refine lv_iload_n X.1.1 X.1.2.1 dX9_byRule_21 rfl (lv_at hl 3 rfl) ?_
    refine lv_iconst (v := 1) X.1.1 X.1.2.1 dX9_byRule_22 (by decide) ?_
    refine lv_isub X.1.1 X.1.2.1 dX9_byRule_23 ?_
    refine e_ild X hW h1.1 h1.2 dX9_byRule_24 hf (fun v2 hf => ?_)
    refine e_vi (rest := []) (As := [.int y2, .int v2]) X hl.1 hW hS (C := RX9) (T := TX9) (N := 35) rfl (by decide) (ctfX9_isAhead X.2.2.2.2 F y2 v2 μ) (cwV (rm := rmX9_isAhead) 2 X.1.2.2.2.2 (gd_V mw_4_142 mw_4_144 mw_0_24 mw_1_11 mw_4_145) rfl rfl rfl (by decide +kernel) ⟨Nat.le_of_ble_eq_true rfl, Nat.le_of_ble_eq_true rfl⟩) rfl rfl (Nat.le_of_ble_eq_true rfl) dX9_byRule_25 ⟨Nat.zero_le _, Nat.zero_le _⟩ hf (fun r4 m3 H locs hf hW hS => ?_)
    refine lv_if_eq (tgt := 45) X.1.1 X.1.2.1 dX9_byRule_28 (by decide) (fun c28 => ?_) (fun c28 => ?_)
    · rw [if_pos c28] at hf
      exact wfX9_byRule_45 X h1 rec2 hrec2 y2 y3 m3 H locs ls hf hW hS (lv_sub hl [0, 1, 2, 3] rfl)
    · rw [if_neg c28] at hf
      refine lv_aload_n X.1.1 X.1.2.1 dX9_byRule_31 rfl (lv_at hl 1 rfl) ?_
      refine lv_iload_n X.1.1 X.1.2.1 dX9_byRule_32 rfl (lv_at hl 3 rfl) ?_
      refine lv_aload_n X.1.1 X.1.2.1 dX9_byRule_33 rfl (lv_at hl 1 rfl) ?_
      refine lv_iload_n X.1.1 X.1.2.1 dX9_byRule_34 rfl (lv_at hl 3 rfl) ?_
      refine lv_iconst (v := 1) X.1.1 X.1.2.1 dX9_byRule_35 (by decide) ?_
      refine lv_isub X.1.1 X.1.2.1 dX9_byRule_36 ?_
      refine e_ild X hW h1.1 h1.2 dX9_byRule_37 hf (fun v5 hf => ?_)
      refine e_ist X hW hS h1.1 h1.2 dX9_byRule_38 hf (fun m6 H locs hf hW hS => ?_)
      refine lv_iinc (v := (y3 + (-1))) (lv' := [(3, .int (y3 + (-1))), (0, .ref (E.1 89)), (1, .ref (E.1 k1)), (2, .int y2)]) X.1.1 X.1.2.1 dX9_byRule_39 hl (k := 3) rfl rfl (by decide) rfl (fun ls hl => ?_)
      refine lv_goto (tgt := 14) X.1.1 X.1.2.1 dX9_byRule_42 (by decide) ?_
      exact hrec14 y2 (y3 + (-1)) m6 H locs ls hf hW hS (lv_sub hl [1, 2, 3, 0] rfl)
theorem wfX9_byRule_14 {p : Program} {l : Launch} {e : Env} {s : State} {m : MethodId} {args : Array Value} {below : List Frame} {meth : Method} {c : Code} {E : Gv} {F : Nat} {k1 : Nat} {u : Mem} (X : Fx p m c cX9_byRule 4 s args (Cond.code yX9_byRule cX9_byRule 4 none) "OvenHouseModel" meth none E) (h1 : k1 < NC ∧ kd k1 = 10) (rec2 : Int32 → Mem → Option Mem) (hrec2 : ∀ (y2 : Int32) (μ : Mem) (H : Heap) (locs : List Loc) (ls : Array Slot), rec2 y2 μ = some u → Wo E μ H → va_S (AE E) s.heap H locs → lv_has ls 4 [(0, .ref (E.1 89)), (1, .ref (E.1 k1)), (2, .int y2)] → W0 p l e rmX9_byRule s m args below meth c H locs (QcN E u) E (F0 m 2 ls [])) (n : Nat) : ∀ (y2 : Int32) (y3 : Int32) (μ : Mem) (H : Heap) (locs : List Loc) (ls : Array Slot) (_ : fX9_byRule_14 F k1 rec2 n y2 y3 μ = some u) (_ : Wo E μ H) (_ : va_S (AE E) s.heap H locs) (_ : lv_has ls 4 [(0, .ref (E.1 89)), (1, .ref (E.1 k1)), (2, .int y2), (3, .int y3)]), W0 p l e rmX9_byRule s m args below meth c H locs (QcN E u) E (F0 m 14 ls []) := by
  induction n with
  | zero => intro y2 y3 μ H locs ls hf hW hS hl; cases hf
  | succ n ih => intro y2 y3 μ H locs ls hf hW hS hl; exact wfX9_byRule_14_b X h1 rec2 hrec2 _ ih y2 y3 μ H locs ls hf hW hS hl
set_option maxRecDepth 100000 in
set_option maxHeartbeats 4000000 in
theorem wfX9_byRule_2_b {p : Program} {l : Launch} {e : Env} {s : State} {m : MethodId} {args : Array Value} {below : List Frame} {meth : Method} {c : Code} {E : Gv} {F : Nat} {k1 : Nat} {u : Mem} (X : Fx p m c cX9_byRule 4 s args (Cond.code yX9_byRule cX9_byRule 4 none) "OvenHouseModel" meth none E) (h1 : k1 < NC ∧ kd k1 = 10) (rec2 : Int32 → Mem → Option Mem) (hrec2 : ∀ (y2 : Int32) (μ : Mem) (H : Heap) (locs : List Loc) (ls : Array Slot), rec2 y2 μ = some u → Wo E μ H → va_S (AE E) s.heap H locs → lv_has ls 4 [(0, .ref (E.1 89)), (1, .ref (E.1 k1)), (2, .int y2)] → W0 p l e rmX9_byRule s m args below meth c H locs (QcN E u) E (F0 m 2 ls [])) (y2 : Int32) (μ : Mem) (H : Heap) (locs : List Loc) (ls : Array Slot) (hf : fX9_byRule_2_b F k1 rec2 y2 μ = some u) (hW : Wo E μ H) (hS : va_S (AE E) s.heap H locs) (hl : lv_has ls 4 [(0, .ref (E.1 89)), (1, .ref (E.1 k1)), (2, .int y2)]) : W0 p l e rmX9_byRule s m args below meth c H locs (QcN E u) E (F0 m 2 ls []) := by
  unfold fX9_byRule_2_b at hf
  refine lv_iload_n X.1.1 X.1.2.1 dX9_byRule_2 rfl (lv_at hl 2 rfl) ?_
  refine lv_aload_n X.1.1 X.1.2.1 dX9_byRule_3 rfl (lv_at hl 0 rfl) ?_
  refine e_getr X hW (C := RX9) (T := TX9) (N := 35) (j := 5) rfl (by decide) inX9 (by decide) (by decide) rfl (t := 94) rfl rfl mw_3_174 dX9_byRule_4 ?_
  refine lv_iconst (v := 0) X.1.1 X.1.2.1 dX9_byRule_7 (by decide) ?_
  refine e_ild X hW (by decide) rfl dX9_byRule_8 hf (fun v1 hf => ?_)
  refine lv_icmp_ge (tgt := 55) X.1.1 X.1.2.1 dX9_byRule_9 (by decide) (fun c9 => ?_) (fun c9 => ?_)
  · rw [if_pos c9] at hf
    exact e_vret X hW hS hf dX9_byRule_55
  · rw [if_neg c9] at hf
    refine lv_iload_n X.1.1 X.1.2.1 dX9_byRule_12 rfl (lv_at hl 2 rfl) ?_
    refine lv_istore_n (lv' := [(3, .int y2), (0, .ref (E.1 89)), (1, .ref (E.1 k1)), (2, .int y2)]) X.1.1 X.1.2.1 dX9_byRule_13 rfl hl (by decide) rfl (fun ls hl => ?_)
    exact wfX9_byRule_14 X h1 rec2 hrec2 F y2 y2 μ H locs ls hf hW hS (lv_sub hl [1, 2, 3, 0] rfl)
theorem wfX9_byRule_2 {p : Program} {l : Launch} {e : Env} {s : State} {m : MethodId} {args : Array Value} {below : List Frame} {meth : Method} {c : Code} {E : Gv} {F : Nat} {k1 : Nat} {u : Mem} (X : Fx p m c cX9_byRule 4 s args (Cond.code yX9_byRule cX9_byRule 4 none) "OvenHouseModel" meth none E) (h1 : k1 < NC ∧ kd k1 = 10) (n : Nat) : ∀ (y2 : Int32) (μ : Mem) (H : Heap) (locs : List Loc) (ls : Array Slot) (_ : fX9_byRule_2 F k1  n y2 μ = some u) (_ : Wo E μ H) (_ : va_S (AE E) s.heap H locs) (_ : lv_has ls 4 [(0, .ref (E.1 89)), (1, .ref (E.1 k1)), (2, .int y2)]), W0 p l e rmX9_byRule s m args below meth c H locs (QcN E u) E (F0 m 2 ls []) := by
  induction n with
  | zero => intro y2 μ H locs ls hf hW hS hl; cases hf
  | succ n ih => intro y2 μ H locs ls hf hW hS hl; exact wfX9_byRule_2_b X h1 _ ih y2 μ H locs ls hf hW hS hl
set_option maxRecDepth 100000 in
set_option maxHeartbeats 4000000 in
theorem ctfX9_byRule {l : Launch} {E : Gv} (hD : Do E) (F : Nat) (k1 : Nat) (h1 : k1 < NC ∧ kd k1 = 10) (μ : Mem) : CtV l yX9_byRule ((Cond.code yX9_byRule cX9_byRule 4 none) :: GG) rmX9_byRule E [.ref (E.1 89), .ref (E.1 k1)] μ (fX9_byRule F k1 μ) := by
  intro u hf
  refine of_entry (cc := cX9_byRule) (maxL := 4) (ret := none) (by decide +kernel) rfl hD (Nat.le_of_ble_eq_true rfl) (fun p e s m args below meth c X H locs hW hS ls hl => ?_)
  have hl : lv_has ls 4 [(0, .ref (E.1 89)), (1, .ref (E.1 k1))] := hl
  unfold fX9_byRule at hf
  refine lv_iconst (v := 0) X.1.1 X.1.2.1 dX9_byRule_0 (by decide) ?_
  refine lv_istore_n (lv' := [(2, .int 0), (0, .ref (E.1 89)), (1, .ref (E.1 k1))]) X.1.1 X.1.2.1 dX9_byRule_1 rfl hl (by decide) rfl (fun ls hl => ?_)
  exact wfX9_byRule_2 X h1 F 0 μ H locs ls hf hW hS (lv_sub hl [1, 2, 0] rfl)
-- OvenHouseModel.endOf
def rmX9_endOf : Room := { frames := 0, cells := 0, slots := 0, locals := 0 }
set_option maxRecDepth 100000 in
set_option maxHeartbeats 4000000 in
theorem wfX9_endOf_88 {p : Program} {l : Launch} {e : Env} {s : State} {m : MethodId} {args : Array Value} {below : List Frame} {meth : Method} {c : Code} {E : Gv} {F : Nat} {k1 : Nat} {r : Int32} {u : Mem} (X : Fx p m c cX9_endOf 11 s args (Cond.code yX9_endOf cX9_endOf 11 (some .int)) "OvenHouseModel" meth (some .int) E) (h1 : k1 < NC ∧ kd k1 = 10) (rec9 : Int32 → Int32 → Int32 → Int32 → Int32 → Mem → Option (Int32 × Mem)) (hrec9 : ∀ (y2 : Int32) (y3 : Int32) (y4 : Int32) (y5 : Int32) (y6 : Int32) (μ : Mem) (H : Heap) (locs : List Loc) (ls : Array Slot), rec9 y2 y3 y4 y5 y6 μ = some (r, u) → Wo E μ H → va_S (AE E) s.heap H locs → lv_has ls 11 [(0, .ref (E.1 89)), (1, .ref (E.1 k1)), (2, .int y2), (3, .int y3), (4, .int y4), (5, .int y5), (6, .int y6)] → W0 p l e rmX9_endOf s m args below meth c H locs (QcI E r u) E (F0 m 9 ls [])) (y2 : Int32) (y3 : Int32) (y6 : Int32) (y7 : Int32) (y8 : Int32) (y9 : Int32) (z0 : Int32) (μ : Mem) (H : Heap) (locs : List Loc) (ls : Array Slot) (hf : fX9_endOf_88 F k1 rec9 y2 y3 y6 y7 y8 y9 z0 μ = some (r, u)) (hW : Wo E μ H) (hS : va_S (AE E) s.heap H locs) (hl : lv_has ls 11 [(0, .ref (E.1 89)), (1, .ref (E.1 k1)), (2, .int y2), (3, .int y3), (6, .int y6), (7, .int y7), (8, .int y8), (9, .int y9)]) : W0 p l e rmX9_endOf s m args below meth c H locs (QcI E r u) E (F0 m 88 ls [.int z0]) := by
  unfold fX9_endOf_88 at hf
  refine lv_istore (lv' := [(10, .int z0), (0, .ref (E.1 89)), (1, .ref (E.1 k1)), (2, .int y2), (3, .int y3), (6, .int y6), (7, .int y7), (8, .int y8), (9, .int y9)]) X.1.1 X.1.2.1 dX9_endOf_88 hl (by decide) rfl (fun ls hl => ?_)
  refine lv_aload_n X.1.1 X.1.2.1 dX9_endOf_90 rfl (lv_at hl 1 rfl) ?_
  refine e_getr X hW (C := RX9) (T := TX9) (N := 35) (j := 18) rfl (by decide) inX9 (by decide) (by decide) rfl (t := 103) rfl rfl mw_3_187 dX9_endOf_91 ?_
  refine lv_iload X.1.1 X.1.2.1 dX9_endOf_94 (lv_at hl 5 rfl) ?_
  refine lv_iload X.1.1 X.1.2.1 dX9_endOf_96 (lv_at hl 7 rfl) ?_
  refine e_ist X hW hS (by decide) rfl dX9_endOf_98 hf (fun m6 H locs hf hW hS => ?_)
  refine lv_aload_n X.1.1 X.1.2.1 dX9_endOf_99 rfl (lv_at hl 1 rfl) ?_
  refine e_getr X hW (C := RX9) (T := TX9) (N := 35) (j := 19) rfl (by decide) inX9 (by decide) (by decide) rfl (t := 104) rfl rfl mw_3_188 dX9_endOf_100 ?_
  refine lv_iload X.1.1 X.1.2.1 dX9_endOf_103 (lv_at hl 5 rfl) ?_
  refine lv_iload X.1.1 X.1.2.1 dX9_endOf_105 (lv_at hl 0 rfl) ?_
  refine e_ist X hW hS (by decide) rfl dX9_endOf_107 hf (fun m7 H locs hf hW hS => ?_)
  refine lv_iload X.1.1 X.1.2.1 dX9_endOf_108 (lv_at hl 0 rfl) ?_
  refine lv_aload_n X.1.1 X.1.2.1 dX9_endOf_110 rfl (lv_at hl 1 rfl) ?_
  refine e_getr X hW (C := RX9) (T := TX9) (N := 35) (j := 7) rfl (by decide) inX9 (by decide) (by decide) rfl (t := 96) rfl rfl mw_3_176 dX9_endOf_111 ?_
  refine lv_iload X.1.1 X.1.2.1 dX9_endOf_114 (lv_at hl 6 rfl) ?_
  refine e_ild X hW (by decide) rfl dX9_endOf_116 hf (fun v8 hf => ?_)
  refine lv_iadd X.1.1 X.1.2.1 dX9_endOf_117 ?_
  refine lv_istore (lv' := [(5, .int (z0 + v8)), (10, .int z0), (0, .ref (E.1 89)), (1, .ref (E.1 k1)), (2, .int y2), (3, .int y3), (6, .int y6), (7, .int y7), (8, .int y8), (9, .int y9)]) X.1.1 X.1.2.1 dX9_endOf_118 hl (by decide) rfl (fun ls hl => ?_)
  refine lv_iload X.1.1 X.1.2.1 dX9_endOf_120 (lv_at hl 9 rfl) ?_
  refine lv_istore (lv' := [(4, .int y9), (5, .int (z0 + v8)), (10, .int z0), (0, .ref (E.1 89)), (1, .ref (E.1 k1)), (2, .int y2), (3, .int y3), (6, .int y6), (7, .int y7), (8, .int y8), (9, .int y9)]) X.1.1 X.1.2.1 dX9_endOf_122 hl (by decide) rfl (fun ls hl => ?_)
  refine lv_iload_n X.1.1 X.1.2.1 dX9_endOf_124 rfl (lv_at hl 5 rfl) ?_
  refine lv_iconst (v := 2) X.1.1 X.1.2.1 dX9_endOf_125 (by decide) ?_
  refine lv_icmp_ne (tgt := 160) X.1.1 X.1.2.1 dX9_endOf_126 (by decide) (fun c126 => ?_) (fun c126 => ?_)
  · rw [if_neg c126] at hf
    refine lv_iinc (v := (y6 + 1)) (lv' := [(6, .int (y6 + 1)), (4, .int y9), (5, .int (z0 + v8)), (10, .int z0), (0, .ref (E.1 89)), (1, .ref (E.1 k1)), (2, .int y2), (3, .int y3), (7, .int y7), (8, .int y8), (9, .int y9)]) X.1.1 X.1.2.1 dX9_endOf_160 hl (k := 7) rfl rfl (by decide) rfl (fun ls hl => ?_)
    refine lv_goto (tgt := 9) X.1.1 X.1.2.1 dX9_endOf_163 (by decide) ?_
    exact hrec9 y2 y3 y9 (z0 + v8) (y6 + 1) m7 H locs ls hf hW hS (lv_sub hl [4, 5, 6, 7, 1, 2, 0] rfl)
  · rw [if_pos c126] at hf
    refine lv_iload X.1.1 X.1.2.1 dX9_endOf_129 (lv_at hl 7 rfl) ?_
    refine lv_iload_n X.1.1 X.1.2.1 dX9_endOf_131 rfl (lv_at hl 6 rfl) ?_
    refine lv_icmp_lt (tgt := 160) X.1.1 X.1.2.1 dX9_endOf_132 (by decide) (fun c132 => ?_) (fun c132 => ?_)
    · rw [if_pos c132] at hf
      refine lv_iinc (v := (y6 + 1)) (lv' := [(6, .int (y6 + 1)), (4, .int y9), (5, .int (z0 + v8)), (10, .int z0), (0, .ref (E.1 89)), (1, .ref (E.1 k1)), (2, .int y2), (3, .int y3), (7, .int y7), (8, .int y8), (9, .int y9)]) X.1.1 X.1.2.1 dX9_endOf_160 hl (k := 7) rfl rfl (by decide) rfl (fun ls hl => ?_)
      refine lv_goto (tgt := 9) X.1.1 X.1.2.1 dX9_endOf_163 (by decide) ?_
      exact hrec9 y2 y3 y9 (z0 + v8) (y6 + 1) m7 H locs ls hf hW hS (lv_sub hl [4, 5, 6, 7, 1, 2, 0] rfl)
    · rw [if_neg c132] at hf
      refine lv_aload_n X.1.1 X.1.2.1 dX9_endOf_135 rfl (lv_at hl 3 rfl) ?_
      refine e_getr X hW (C := RX9) (T := TX9) (N := 35) (j := 19) rfl (by decide) inX9 (by decide) (by decide) rfl (t := 104) rfl rfl mw_3_188 dX9_endOf_136 ?_
      refine lv_iload X.1.1 X.1.2.1 dX9_endOf_139 (lv_at hl 7 rfl) ?_
      refine lv_iload_n X.1.1 X.1.2.1 dX9_endOf_141 rfl (lv_at hl 6 rfl) ?_
      refine lv_isub X.1.1 X.1.2.1 dX9_endOf_142 ?_
      refine e_ild X hW (by decide) rfl dX9_endOf_143 hf (fun v9 hf => ?_)
      refine lv_iload X.1.1 X.1.2.1 dX9_endOf_144 (lv_at hl 0 rfl) ?_
      refine lv_icmp_le (tgt := 160) X.1.1 X.1.2.1 dX9_endOf_146 (by decide) (fun c146 => ?_) (fun c146 => ?_)
      · rw [if_pos c146] at hf
        refine lv_iinc (v := (y6 + 1)) (lv' := [(6, .int (y6 + 1)), (4, .int y9), (5, .int (z0 + v8)), (10, .int z0), (0, .ref (E.1 89)), (1, .ref (E.1 k1)), (2, .int y2), (3, .int y3), (7, .int y7), (8, .int y8), (9, .int y9)]) X.1.1 X.1.2.1 dX9_endOf_160 hl (k := 7) rfl rfl (by decide) rfl (fun ls hl => ?_)
        refine lv_goto (tgt := 9) X.1.1 X.1.2.1 dX9_endOf_163 (by decide) ?_
        exact hrec9 y2 y3 y9 (z0 + v8) (y6 + 1) m7 H locs ls hf hW hS (lv_sub hl [4, 5, 6, 7, 1, 2, 0] rfl)
      · rw [if_neg c146] at hf
        refine lv_aload_n X.1.1 X.1.2.1 dX9_endOf_149 rfl (lv_at hl 3 rfl) ?_
        refine e_getr X hW (C := RX9) (T := TX9) (N := 35) (j := 19) rfl (by decide) inX9 (by decide) (by decide) rfl (t := 104) rfl rfl mw_3_188 dX9_endOf_150 ?_
        refine lv_iload X.1.1 X.1.2.1 dX9_endOf_153 (lv_at hl 7 rfl) ?_
        refine lv_iload_n X.1.1 X.1.2.1 dX9_endOf_155 rfl (lv_at hl 6 rfl) ?_
        refine lv_isub X.1.1 X.1.2.1 dX9_endOf_156 ?_
        refine e_ild X hW (by decide) rfl dX9_endOf_157 hf (fun v10 hf => ?_)
        refine lv_istore (lv' := [(4, .int v10), (5, .int (z0 + v8)), (10, .int z0), (0, .ref (E.1 89)), (1, .ref (E.1 k1)), (2, .int y2), (3, .int y3), (6, .int y6), (7, .int y7), (8, .int y8), (9, .int y9)]) X.1.1 X.1.2.1 dX9_endOf_158 hl (by decide) rfl (fun ls hl => ?_)
        refine lv_iinc (v := (y6 + 1)) (lv' := [(6, .int (y6 + 1)), (4, .int v10), (5, .int (z0 + v8)), (10, .int z0), (0, .ref (E.1 89)), (1, .ref (E.1 k1)), (2, .int y2), (3, .int y3), (7, .int y7), (8, .int y8), (9, .int y9)]) X.1.1 X.1.2.1 dX9_endOf_160 hl (k := 7) rfl rfl (by decide) rfl (fun ls hl => ?_)
        refine lv_goto (tgt := 9) X.1.1 X.1.2.1 dX9_endOf_163 (by decide) ?_
        exact hrec9 y2 y3 v10 (z0 + v8) (y6 + 1) m7 H locs ls hf hW hS (lv_sub hl [4, 5, 6, 7, 1, 2, 0] rfl)
set_option maxRecDepth 100000 in
set_option maxHeartbeats 4000000 in
theorem wfX9_endOf_60 {p : Program} {l : Launch} {e : Env} {s : State} {m : MethodId} {args : Array Value} {below : List Frame} {meth : Method} {c : Code} {E : Gv} {F : Nat} {k1 : Nat} {r : Int32} {u : Mem} (X : Fx p m c cX9_endOf 11 s args (Cond.code yX9_endOf cX9_endOf 11 (some .int)) "OvenHouseModel" meth (some .int) E) (h1 : k1 < NC ∧ kd k1 = 10) (rec9 : Int32 → Int32 → Int32 → Int32 → Int32 → Mem → Option (Int32 × Mem)) (hrec9 : ∀ (y2 : Int32) (y3 : Int32) (y4 : Int32) (y5 : Int32) (y6 : Int32) (μ : Mem) (H : Heap) (locs : List Loc) (ls : Array Slot), rec9 y2 y3 y4 y5 y6 μ = some (r, u) → Wo E μ H → va_S (AE E) s.heap H locs → lv_has ls 11 [(0, .ref (E.1 89)), (1, .ref (E.1 k1)), (2, .int y2), (3, .int y3), (4, .int y4), (5, .int y5), (6, .int y6)] → W0 p l e rmX9_endOf s m args below meth c H locs (QcI E r u) E (F0 m 9 ls [])) (y2 : Int32) (y3 : Int32) (y5 : Int32) (y6 : Int32) (y7 : Int32) (z0 : Int32) (μ : Mem) (H : Heap) (locs : List Loc) (ls : Array Slot) (hf : fX9_endOf_60 F k1 rec9 y2 y3 y5 y6 y7 z0 μ = some (r, u)) (hW : Wo E μ H) (hS : va_S (AE E) s.heap H locs) (hl : lv_has ls 11 [(0, .ref (E.1 89)), (1, .ref (E.1 k1)), (2, .int y2), (3, .int y3), (5, .int y5), (6, .int y6), (7, .int y7)]) : W0 p l e rmX9_endOf s m args below meth c H locs (QcI E r u) E (F0 m 60 ls [.int z0]) := by
  unfold fX9_endOf_60 at hf
  refine lv_istore (lv' := [(8, .int z0), (0, .ref (E.1 89)), (1, .ref (E.1 k1)), (2, .int y2), (3, .int y3), (5, .int y5), (6, .int y6), (7, .int y7)]) X.1.1 X.1.2.1 dX9_endOf_60 hl (by decide) rfl (fun ls hl => ?_)
  refine lv_iload X.1.1 X.1.2.1 dX9_endOf_62 (lv_at hl 0 rfl) ?_
  refine lv_aload_n X.1.1 X.1.2.1 dX9_endOf_64 rfl (lv_at hl 1 rfl) ?_
  refine e_getr X hW (C := RX9) (T := TX9) (N := 35) (j := 6) rfl (by decide) inX9 (by decide) (by decide) rfl (t := 95) rfl rfl mw_3_175 dX9_endOf_65 ?_
  refine lv_iload X.1.1 X.1.2.1 dX9_endOf_68 (lv_at hl 7 rfl) ?_
  refine e_ild X hW (by decide) rfl dX9_endOf_70 hf (fun v5 hf => ?_)
  refine lv_iadd X.1.1 X.1.2.1 dX9_endOf_71 ?_
  refine lv_istore (lv' := [(9, .int (z0 + v5)), (8, .int z0), (0, .ref (E.1 89)), (1, .ref (E.1 k1)), (2, .int y2), (3, .int y3), (5, .int y5), (6, .int y6), (7, .int y7)]) X.1.1 X.1.2.1 dX9_endOf_72 hl (by decide) rfl (fun ls hl => ?_)
  refine lv_iload X.1.1 X.1.2.1 dX9_endOf_74 (lv_at hl 0 rfl) ?_
  refine lv_iload X.1.1 X.1.2.1 dX9_endOf_76 (lv_at hl 6 rfl) ?_
  refine lv_icmp_le (tgt := 86) X.1.1 X.1.2.1 dX9_endOf_78 (by decide) (fun c78 => ?_) (fun c78 => ?_)
  · rw [if_pos c78] at hf
    refine lv_iload X.1.1 X.1.2.1 dX9_endOf_86 (lv_at hl 6 rfl) ?_
    exact wfX9_endOf_88 X h1 rec9 hrec9 y2 y3 y6 y7 z0 (z0 + v5) y5 μ H locs ls hf hW hS (lv_sub hl [2, 3, 4, 5, 7, 8, 1, 0] rfl)
  · rw [if_neg c78] at hf
    refine lv_iload X.1.1 X.1.2.1 dX9_endOf_81 (lv_at hl 0 rfl) ?_
    refine lv_goto (tgt := 88) X.1.1 X.1.2.1 dX9_endOf_83 (by decide) ?_
    exact wfX9_endOf_88 X h1 rec9 hrec9 y2 y3 y6 y7 z0 (z0 + v5) (z0 + v5) μ H locs ls hf hW hS (lv_sub hl [2, 3, 4, 5, 7, 8, 1, 0] rfl)
set_option maxRecDepth 100000 in
set_option maxHeartbeats 4000000 in
theorem wfX9_endOf_9_b {p : Program} {l : Launch} {e : Env} {s : State} {m : MethodId} {args : Array Value} {below : List Frame} {meth : Method} {c : Code} {E : Gv} {F : Nat} {k1 : Nat} {r : Int32} {u : Mem} (X : Fx p m c cX9_endOf 11 s args (Cond.code yX9_endOf cX9_endOf 11 (some .int)) "OvenHouseModel" meth (some .int) E) (h1 : k1 < NC ∧ kd k1 = 10) (rec9 : Int32 → Int32 → Int32 → Int32 → Int32 → Mem → Option (Int32 × Mem)) (hrec9 : ∀ (y2 : Int32) (y3 : Int32) (y4 : Int32) (y5 : Int32) (y6 : Int32) (μ : Mem) (H : Heap) (locs : List Loc) (ls : Array Slot), rec9 y2 y3 y4 y5 y6 μ = some (r, u) → Wo E μ H → va_S (AE E) s.heap H locs → lv_has ls 11 [(0, .ref (E.1 89)), (1, .ref (E.1 k1)), (2, .int y2), (3, .int y3), (4, .int y4), (5, .int y5), (6, .int y6)] → W0 p l e rmX9_endOf s m args below meth c H locs (QcI E r u) E (F0 m 9 ls [])) (y2 : Int32) (y3 : Int32) (y4 : Int32) (y5 : Int32) (y6 : Int32) (μ : Mem) (H : Heap) (locs : List Loc) (ls : Array Slot) (hf : fX9_endOf_9_b F k1 rec9 y2 y3 y4 y5 y6 μ = some (r, u)) (hW : Wo E μ H) (hS : va_S (AE E) s.heap H locs) (hl : lv_has ls 11 [(0, .ref (E.1 89)), (1, .ref (E.1 k1)), (2, .int y2), (3, .int y3), (4, .int y4), (5, .int y5), (6, .int y6)]) : W0 p l e rmX9_endOf s m args below meth c H locs (QcI E r u) E (F0 m 9 ls []) := by
  unfold fX9_endOf_9_b at hf
  refine lv_iload X.1.1 X.1.2.1 dX9_endOf_9 (lv_at hl 6 rfl) ?_
  refine lv_aload_n X.1.1 X.1.2.1 dX9_endOf_11 rfl (lv_at hl 0 rfl) ?_
  refine e_getr X hW (C := RX9) (T := TX9) (N := 35) (j := 5) rfl (by decide) inX9 (by decide) (by decide) rfl (t := 94) rfl rfl mw_3_174 dX9_endOf_12 ?_
  refine lv_iconst (v := 0) X.1.1 X.1.2.1 dX9_endOf_15 (by decide) ?_
  refine e_ild X hW (by decide) rfl dX9_endOf_16 hf (fun v1 hf => ?_)
  refine lv_icmp_ge (tgt := 166) X.1.1 X.1.2.1 dX9_endOf_17 (by decide) (fun c17 => ?_) (fun c17 => ?_)
  · rw [if_pos c17] at hf
    refine lv_iload X.1.1 X.1.2.1 dX9_endOf_166 (lv_at hl 5 rfl) ?_
    exact e_iret X hW hS hf dX9_endOf_168
  · rw [if_neg c17] at hf
    refine lv_aload_n X.1.1 X.1.2.1 dX9_endOf_20 rfl (lv_at hl 1 rfl) ?_
    refine lv_iload X.1.1 X.1.2.1 dX9_endOf_21 (lv_at hl 6 rfl) ?_
    refine e_ild X hW h1.1 h1.2 dX9_endOf_23 hf (fun v2 hf => ?_)
    refine lv_istore (lv' := [(7, .int v2), (0, .ref (E.1 89)), (1, .ref (E.1 k1)), (2, .int y2), (3, .int y3), (4, .int y4), (5, .int y5), (6, .int y6)]) X.1.1 X.1.2.1 dX9_endOf_24 hl (by decide) rfl (fun ls hl => ?_)
    refine lv_iload_n X.1.1 X.1.2.1 dX9_endOf_26 rfl (lv_at hl 3 rfl) ?_
    refine lv_if_ne (tgt := 58) X.1.1 X.1.2.1 dX9_endOf_27 (by decide) (fun c27 => ?_) (fun c27 => ?_)
    · rw [if_neg c27] at hf
      refine lv_iload X.1.1 X.1.2.1 dX9_endOf_58 (lv_at hl 5 rfl) ?_
      exact wfX9_endOf_60 X h1 rec9 hrec9 y2 y3 y5 y6 v2 y4 μ H locs ls hf hW hS (lv_sub hl [1, 2, 3, 4, 6, 7, 0] rfl)
    · rw [if_pos c27] at hf
      refine lv_iload X.1.1 X.1.2.1 dX9_endOf_30 (lv_at hl 6 rfl) ?_
      refine lv_aload_n X.1.1 X.1.2.1 dX9_endOf_32 rfl (lv_at hl 1 rfl) ?_
      refine e_getr X hW (C := RX9) (T := TX9) (N := 35) (j := 6) rfl (by decide) inX9 (by decide) (by decide) rfl (t := 95) rfl rfl mw_3_175 dX9_endOf_33 ?_
      refine lv_iload X.1.1 X.1.2.1 dX9_endOf_36 (lv_at hl 0 rfl) ?_
      refine e_ild X hW (by decide) rfl dX9_endOf_38 hf (fun v3 hf => ?_)
      refine lv_isub X.1.1 X.1.2.1 dX9_endOf_39 ?_
      refine lv_iload X.1.1 X.1.2.1 dX9_endOf_40 (lv_at hl 5 rfl) ?_
      refine lv_icmp_le (tgt := 58) X.1.1 X.1.2.1 dX9_endOf_42 (by decide) (fun c42 => ?_) (fun c42 => ?_)
      · rw [if_pos c42] at hf
        refine lv_iload X.1.1 X.1.2.1 dX9_endOf_58 (lv_at hl 5 rfl) ?_
        exact wfX9_endOf_60 X h1 rec9 hrec9 y2 y3 y5 y6 v2 y4 μ H locs ls hf hW hS (lv_sub hl [1, 2, 3, 4, 6, 7, 0] rfl)
      · rw [if_neg c42] at hf
        refine lv_iload X.1.1 X.1.2.1 dX9_endOf_45 (lv_at hl 6 rfl) ?_
        refine lv_aload_n X.1.1 X.1.2.1 dX9_endOf_47 rfl (lv_at hl 1 rfl) ?_
        refine e_getr X hW (C := RX9) (T := TX9) (N := 35) (j := 6) rfl (by decide) inX9 (by decide) (by decide) rfl (t := 95) rfl rfl mw_3_175 dX9_endOf_48 ?_
        refine lv_iload X.1.1 X.1.2.1 dX9_endOf_51 (lv_at hl 0 rfl) ?_
        refine e_ild X hW (by decide) rfl dX9_endOf_53 hf (fun v4 hf => ?_)
        refine lv_isub X.1.1 X.1.2.1 dX9_endOf_54 ?_
        refine lv_goto (tgt := 60) X.1.1 X.1.2.1 dX9_endOf_55 (by decide) ?_
        exact wfX9_endOf_60 X h1 rec9 hrec9 y2 y3 y5 y6 v2 (y5 - v4) μ H locs ls hf hW hS (lv_sub hl [1, 2, 3, 4, 6, 7, 0] rfl)
theorem wfX9_endOf_9 {p : Program} {l : Launch} {e : Env} {s : State} {m : MethodId} {args : Array Value} {below : List Frame} {meth : Method} {c : Code} {E : Gv} {F : Nat} {k1 : Nat} {r : Int32} {u : Mem} (X : Fx p m c cX9_endOf 11 s args (Cond.code yX9_endOf cX9_endOf 11 (some .int)) "OvenHouseModel" meth (some .int) E) (h1 : k1 < NC ∧ kd k1 = 10) (n : Nat) : ∀ (y2 : Int32) (y3 : Int32) (y4 : Int32) (y5 : Int32) (y6 : Int32) (μ : Mem) (H : Heap) (locs : List Loc) (ls : Array Slot) (_ : fX9_endOf_9 F k1  n y2 y3 y4 y5 y6 μ = some (r, u)) (_ : Wo E μ H) (_ : va_S (AE E) s.heap H locs) (_ : lv_has ls 11 [(0, .ref (E.1 89)), (1, .ref (E.1 k1)), (2, .int y2), (3, .int y3), (4, .int y4), (5, .int y5), (6, .int y6)]), W0 p l e rmX9_endOf s m args below meth c H locs (QcI E r u) E (F0 m 9 ls []) := by
  induction n with
  | zero => intro y2 y3 y4 y5 y6 μ H locs ls hf hW hS hl; cases hf
  | succ n ih => intro y2 y3 y4 y5 y6 μ H locs ls hf hW hS hl; exact wfX9_endOf_9_b X h1 _ ih y2 y3 y4 y5 y6 μ H locs ls hf hW hS hl
set_option maxRecDepth 100000 in
set_option maxHeartbeats 4000000 in
theorem ctfX9_endOf {l : Launch} {E : Gv} (hD : Do E) (F : Nat) (k1 : Nat) (x2 : Int32) (x3 : Int32) (h1 : k1 < NC ∧ kd k1 = 10) (μ : Mem) : CtI l yX9_endOf ((Cond.code yX9_endOf cX9_endOf 11 (some .int)) :: GG) rmX9_endOf E [.ref (E.1 89), .ref (E.1 k1), .int x2, .int x3] μ (fX9_endOf F k1 x2 x3 μ) := by
  intro r u hf
  refine of_entry (cc := cX9_endOf) (maxL := 11) (ret := (some .int)) (by decide +kernel) rfl hD (Nat.le_of_ble_eq_true rfl) (fun p e s m args below meth c X H locs hW hS ls hl => ?_)
  have hl : lv_has ls 11 [(0, .ref (E.1 89)), (1, .ref (E.1 k1)), (2, .int x2), (3, .int x3)] := hl
  unfold fX9_endOf at hf
  refine lv_iconst (v := 0) X.1.1 X.1.2.1 dX9_endOf_0 (by decide) ?_
  refine lv_istore (lv' := [(4, .int 0), (0, .ref (E.1 89)), (1, .ref (E.1 k1)), (2, .int x2), (3, .int x3)]) X.1.1 X.1.2.1 dX9_endOf_1 hl (by decide) rfl (fun ls hl => ?_)
  refine lv_iconst (v := 0) X.1.1 X.1.2.1 dX9_endOf_3 (by decide) ?_
  refine lv_istore (lv' := [(5, .int 0), (4, .int 0), (0, .ref (E.1 89)), (1, .ref (E.1 k1)), (2, .int x2), (3, .int x3)]) X.1.1 X.1.2.1 dX9_endOf_4 hl (by decide) rfl (fun ls hl => ?_)
  refine lv_iconst (v := 0) X.1.1 X.1.2.1 dX9_endOf_6 (by decide) ?_
  refine lv_istore (lv' := [(6, .int 0), (5, .int 0), (4, .int 0), (0, .ref (E.1 89)), (1, .ref (E.1 k1)), (2, .int x2), (3, .int x3)]) X.1.1 X.1.2.1 dX9_endOf_7 hl (by decide) rfl (fun ls hl => ?_)
  exact wfX9_endOf_9 X h1 F x2 x3 0 0 0 μ H locs ls hf hW hS (lv_sub hl [3, 4, 5, 6, 2, 1, 0] rfl)
-- OvenHouseModel.rule
def rmX9_rule : Room := { frames := 2, cells := 0, slots := 0, locals := 47 }
set_option maxRecDepth 100000 in
set_option maxHeartbeats 4000000 in
theorem ctfX9_rule {l : Launch} {E : Gv} (hD : Do E) (F : Nat)  (μ : Mem) : CtI l yX9_rule ((Cond.code yX9_rule cX9_rule 1 (some .int)) :: GG) rmX9_rule E [.ref (E.1 89)] μ (fX9_rule F μ) := by
  intro r u hf
  refine of_entry (cc := cX9_rule) (maxL := 1) (ret := (some .int)) (by decide +kernel) rfl hD (Nat.le_of_ble_eq_true rfl) (fun p e s m args below meth c X H locs hW hS ls hl => ?_)
  have hl : lv_has ls 1 [(0, .ref (E.1 89))] := hl
  unfold fX9_rule at hf
  refine lv_aload_n X.1.1 X.1.2.1 dX9_rule_0 rfl (lv_at hl 0 rfl) ?_
  refine e_vv (rest := []) (As := []) X hl.1 hW hS (C := RX9) (T := TX9) (N := 35) rfl (by decide) (ctfX9_keep X.2.2.2.2 F μ) (cwV (rm := rmX9_keep) 0 X.1.2.2.2.2 (gd_V mw_4_86 mw_4_88 mw_0_18 mw_1_11 mw_4_89) rfl rfl rfl (by decide +kernel) ⟨Nat.le_of_ble_eq_true rfl, Nat.le_of_ble_eq_true rfl⟩) rfl rfl (Nat.le_of_ble_eq_true rfl) dX9_rule_1 ⟨Nat.zero_le _, Nat.zero_le _⟩ hf (fun m1 H locs hf hW hS => ?_)
  refine lv_aload_n X.1.1 X.1.2.1 dX9_rule_4 rfl (lv_at hl 0 rfl) ?_
  refine lv_aload_n X.1.1 X.1.2.1 dX9_rule_5 rfl (lv_at hl 0 rfl) ?_
  refine e_getr X hW (C := RX9) (T := TX9) (N := 35) (j := 10) rfl (by decide) inX9 (by decide) (by decide) rfl (t := 99) rfl rfl mw_3_179 dX9_rule_6 ?_
  refine e_vv (rest := []) (As := [.ref (E.1 99)]) X hl.1 hW hS (C := RX9) (T := TX9) (N := 35) rfl (by decide) (ctfX9_byRule X.2.2.2.2 F 99 ⟨(by decide), rfl⟩ m1) (cwV (rm := rmX9_byRule) 1 X.1.2.2.2.2 (gd_V mw_4_138 mw_4_140 mw_0_23 mw_1_11 mw_4_141) rfl rfl rfl (by decide +kernel) ⟨Nat.le_of_ble_eq_true rfl, Nat.le_of_ble_eq_true rfl⟩) rfl rfl (Nat.le_of_ble_eq_true rfl) dX9_rule_9 ⟨Nat.zero_le _, Nat.zero_le _⟩ hf (fun m2 H locs hf hW hS => ?_)
  refine lv_aload_n X.1.1 X.1.2.1 dX9_rule_12 rfl (lv_at hl 0 rfl) ?_
  refine lv_aload_n X.1.1 X.1.2.1 dX9_rule_13 rfl (lv_at hl 0 rfl) ?_
  refine e_getr X hW (C := RX9) (T := TX9) (N := 35) (j := 10) rfl (by decide) inX9 (by decide) (by decide) rfl (t := 99) rfl rfl mw_3_179 dX9_rule_14 ?_
  refine lv_iconst (v := 1) X.1.1 X.1.2.1 dX9_rule_17 (by decide) ?_
  refine lv_iconst (v := 0) X.1.1 X.1.2.1 dX9_rule_18 (by decide) ?_
  refine e_vi (rest := []) (As := [.ref (E.1 99), .int 1, .int 0]) X hl.1 hW hS (C := RX9) (T := TX9) (N := 35) rfl (by decide) (ctfX9_endOf X.2.2.2.2 F 99 1 0 ⟨(by decide), rfl⟩ m2) (cwV (rm := rmX9_endOf) 3 X.1.2.2.2.2 (gd_V mw_4_146 mw_4_148 mw_0_25 mw_1_11 mw_4_149) rfl rfl rfl (by decide +kernel) ⟨Nat.le_of_ble_eq_true rfl, Nat.le_of_ble_eq_true rfl⟩) rfl rfl (Nat.le_of_ble_eq_true rfl) dX9_rule_19 ⟨Nat.zero_le _, Nat.zero_le _⟩ hf (fun r4 m3 H locs hf hW hS => ?_)
  exact e_iret X hW hS hf dX9_rule_22
-- OvenHouseModel.use
def rmX9_use : Room := { frames := 2, cells := 0, slots := 0, locals := 44 }
set_option maxRecDepth 100000 in
set_option maxHeartbeats 4000000 in
theorem wfX9_use_23_b {p : Program} {l : Launch} {e : Env} {s : State} {m : MethodId} {args : Array Value} {below : List Frame} {meth : Method} {c : Code} {E : Gv} {F : Nat}  {r : Int32} {u : Mem} (X : Fx p m c cX9_use 2 s args (Cond.code yX9_use cX9_use 2 (some .int)) "OvenHouseModel" meth (some .int) E)  (rec23 : Int32 → Mem → Option (Int32 × Mem)) (hrec23 : ∀ (y1 : Int32) (μ : Mem) (H : Heap) (locs : List Loc) (ls : Array Slot), rec23 y1 μ = some (r, u) → Wo E μ H → va_S (AE E) s.heap H locs → lv_has ls 2 [(0, .ref (E.1 89)), (1, .int y1)] → W0 p l e rmX9_use s m args below meth c H locs (QcI E r u) E (F0 m 23 ls [])) (y1 : Int32) (μ : Mem) (H : Heap) (locs : List Loc) (ls : Array Slot) (hf : fX9_use_23_b F  rec23 y1 μ = some (r, u)) (hW : Wo E μ H) (hS : va_S (AE E) s.heap H locs) (hl : lv_has ls 2 [(0, .ref (E.1 89)), (1, .int y1)]) : W0 p l e rmX9_use s m args below meth c H locs (QcI E r u) E (F0 m 23 ls []) := by
  unfold fX9_use_23_b at hf
  refine lv_iload_n X.1.1 X.1.2.1 dX9_use_23 rfl (lv_at hl 1 rfl) ?_
  refine lv_aload_n X.1.1 X.1.2.1 dX9_use_24 rfl (lv_at hl 0 rfl) ?_
  refine e_getr X hW (C := RX9) (T := TX9) (N := 35) (j := 5) rfl (by decide) inX9 (by decide) (by decide) rfl (t := 94) rfl rfl mw_3_174 dX9_use_25 ?_
  refine lv_iconst (v := 0) X.1.1 X.1.2.1 dX9_use_28 (by decide) ?_
  refine e_ild X hW (by decide) rfl dX9_use_29 hf (fun v2 hf => ?_)
  refine lv_icmp_ge (tgt := 51) X.1.1 X.1.2.1 dX9_use_30 (by decide) (fun c30 => ?_) (fun c30 => ?_)
  · rw [if_pos c30] at hf
    refine lv_iconst (v := 1) X.1.1 X.1.2.1 dX9_use_51 (by decide) ?_
    exact e_iret X hW hS hf dX9_use_52
  · rw [if_neg c30] at hf
    refine lv_aload_n X.1.1 X.1.2.1 dX9_use_33 rfl (lv_at hl 0 rfl) ?_
    refine e_getr X hW (C := RX9) (T := TX9) (N := 35) (j := 10) rfl (by decide) inX9 (by decide) (by decide) rfl (t := 99) rfl rfl mw_3_179 dX9_use_34 ?_
    refine lv_iload_n X.1.1 X.1.2.1 dX9_use_37 rfl (lv_at hl 1 rfl) ?_
    refine lv_aload_n X.1.1 X.1.2.1 dX9_use_38 rfl (lv_at hl 0 rfl) ?_
    refine e_getr X hW (C := RX9) (T := TX9) (N := 35) (j := 13) rfl (by decide) inX9 (by decide) (by decide) rfl (t := 100) rfl rfl mw_3_182 dX9_use_39 ?_
    refine lv_iload_n X.1.1 X.1.2.1 dX9_use_42 rfl (lv_at hl 1 rfl) ?_
    refine e_ild X hW (by decide) rfl dX9_use_43 hf (fun v3 hf => ?_)
    refine e_ist X hW hS (by decide) rfl dX9_use_44 hf (fun m4 H locs hf hW hS => ?_)
    refine lv_iinc (v := (y1 + 1)) (lv' := [(1, .int (y1 + 1)), (0, .ref (E.1 89))]) X.1.1 X.1.2.1 dX9_use_45 hl (k := 1) rfl rfl (by decide) rfl (fun ls hl => ?_)
    refine lv_goto (tgt := 23) X.1.1 X.1.2.1 dX9_use_48 (by decide) ?_
    exact hrec23 (y1 + 1) m4 H locs ls hf hW hS (lv_sub hl [1, 0] rfl)
theorem wfX9_use_23 {p : Program} {l : Launch} {e : Env} {s : State} {m : MethodId} {args : Array Value} {below : List Frame} {meth : Method} {c : Code} {E : Gv} {F : Nat}  {r : Int32} {u : Mem} (X : Fx p m c cX9_use 2 s args (Cond.code yX9_use cX9_use 2 (some .int)) "OvenHouseModel" meth (some .int) E)  (n : Nat) : ∀ (y1 : Int32) (μ : Mem) (H : Heap) (locs : List Loc) (ls : Array Slot) (_ : fX9_use_23 F   n y1 μ = some (r, u)) (_ : Wo E μ H) (_ : va_S (AE E) s.heap H locs) (_ : lv_has ls 2 [(0, .ref (E.1 89)), (1, .int y1)]), W0 p l e rmX9_use s m args below meth c H locs (QcI E r u) E (F0 m 23 ls []) := by
  induction n with
  | zero => intro y1 μ H locs ls hf hW hS hl; cases hf
  | succ n ih => intro y1 μ H locs ls hf hW hS hl; exact wfX9_use_23_b X  _ ih y1 μ H locs ls hf hW hS hl
set_option maxRecDepth 100000 in
set_option maxHeartbeats 4000000 in
theorem ctfX9_use {l : Launch} {E : Gv} (hD : Do E) (F : Nat)  (μ : Mem) : CtI l yX9_use ((Cond.code yX9_use cX9_use 2 (some .int)) :: GG) rmX9_use E [.ref (E.1 89)] μ (fX9_use F μ) := by
  intro r u hf
  refine of_entry (cc := cX9_use) (maxL := 2) (ret := (some .int)) (by decide +kernel) rfl hD (Nat.le_of_ble_eq_true rfl) (fun p e s m args below meth c X H locs hW hS ls hl => ?_)
  have hl : lv_has ls 2 [(0, .ref (E.1 89))] := hl
  unfold fX9_use at hf
  refine lv_aload_n X.1.1 X.1.2.1 dX9_use_0 rfl (lv_at hl 0 rfl) ?_
  refine e_geti X hW (C := RX9) (T := TX9) (N := 35) (j := 14) rfl (by decide) inX9 (by decide) (by decide) rfl rfl mw_3_183 dX9_use_1 ?_
  refine lv_if_eq (tgt := 14) X.1.1 X.1.2.1 dX9_use_4 (by decide) (fun c4 => ?_) (fun c4 => ?_)
  · rw [if_pos c4] at hf
    refine lv_bipush (v := (-5)) X.1.1 X.1.2.1 dX9_use_14 (by decide) ?_
    exact e_iret X hW hS hf dX9_use_16
  · rw [if_neg c4] at hf
    refine lv_aload_n X.1.1 X.1.2.1 dX9_use_7 rfl (lv_at hl 0 rfl) ?_
    refine e_geti X hW (C := RX9) (T := TX9) (N := 35) (j := 15) rfl (by decide) inX9 (by decide) (by decide) rfl rfl mw_3_184 dX9_use_8 ?_
    refine lv_if_ne (tgt := 17) X.1.1 X.1.2.1 dX9_use_11 (by decide) (fun c11 => ?_) (fun c11 => ?_)
    · rw [if_neg c11] at hf
      refine lv_aload_n X.1.1 X.1.2.1 dX9_use_17 rfl (lv_at hl 0 rfl) ?_
      refine e_vv (rest := []) (As := []) X hl.1 hW hS (C := RX9) (T := TX9) (N := 35) rfl (by decide) (ctfX9_keep X.2.2.2.2 F μ) (cwV (rm := rmX9_keep) 0 X.1.2.2.2.2 (gd_V mw_4_86 mw_4_88 mw_0_18 mw_1_11 mw_4_89) rfl rfl rfl (by decide +kernel) ⟨Nat.le_of_ble_eq_true rfl, Nat.le_of_ble_eq_true rfl⟩) rfl rfl (Nat.le_of_ble_eq_true rfl) dX9_use_18 ⟨Nat.zero_le _, Nat.zero_le _⟩ hf (fun m1 H locs hf hW hS => ?_)
      refine lv_iconst (v := 0) X.1.1 X.1.2.1 dX9_use_21 (by decide) ?_
      refine lv_istore_n (lv' := [(1, .int 0), (0, .ref (E.1 89))]) X.1.1 X.1.2.1 dX9_use_22 rfl hl (by decide) rfl (fun ls hl => ?_)
      exact wfX9_use_23 X  F 0 m1 H locs ls hf hW hS (lv_sub hl [1, 0] rfl)
    · rw [if_pos c11] at hf
      refine lv_bipush (v := (-5)) X.1.1 X.1.2.1 dX9_use_14 (by decide) ?_
      exact e_iret X hW hS hf dX9_use_16
-- OvenHouseModel.turn
def rmX9_turn : Room := { frames := 2, cells := 0, slots := 0, locals := 44 }
set_option maxRecDepth 100000 in
set_option maxHeartbeats 4000000 in
theorem wfX9_turn_80_b {p : Program} {l : Launch} {e : Env} {s : State} {m : MethodId} {args : Array Value} {below : List Frame} {meth : Method} {c : Code} {E : Gv} {F : Nat}  {r : Int32} {u : Mem} (X : Fx p m c cX9_turn 5 s args (Cond.code yX9_turn cX9_turn 5 (some .int)) "OvenHouseModel" meth (some .int) E)  (rec80 : Int32 → Int32 → Mem → Option (Int32 × Mem)) (hrec80 : ∀ (y1 : Int32) (y2 : Int32) (μ : Mem) (H : Heap) (locs : List Loc) (ls : Array Slot), rec80 y1 y2 μ = some (r, u) → Wo E μ H → va_S (AE E) s.heap H locs → lv_has ls 5 [(0, .ref (E.1 89)), (1, .int y1), (2, .int y2)] → W0 p l e rmX9_turn s m args below meth c H locs (QcI E r u) E (F0 m 80 ls [])) (y1 : Int32) (y2 : Int32) (μ : Mem) (H : Heap) (locs : List Loc) (ls : Array Slot) (hf : fX9_turn_80_b F  rec80 y1 y2 μ = some (r, u)) (hW : Wo E μ H) (hS : va_S (AE E) s.heap H locs) (hl : lv_has ls 5 [(0, .ref (E.1 89)), (1, .int y1), (2, .int y2)]) : W0 p l e rmX9_turn s m args below meth c H locs (QcI E r u) E (F0 m 80 ls []) := by
  unfold fX9_turn_80_b at hf
  refine lv_iconst (v := 2) X.1.1 X.1.2.1 dX9_turn_80 (by decide) ?_
  refine lv_iload_n X.1.1 X.1.2.1 dX9_turn_81 rfl (lv_at hl 2 rfl) ?_
  refine lv_imul X.1.1 X.1.2.1 dX9_turn_82 ?_
  refine lv_iload_n X.1.1 X.1.2.1 dX9_turn_83 rfl (lv_at hl 1 rfl) ?_
  refine lv_iconst (v := 1) X.1.1 X.1.2.1 dX9_turn_84 (by decide) ?_
  refine lv_isub X.1.1 X.1.2.1 dX9_turn_85 ?_
  refine lv_icmp_ge (tgt := 129) X.1.1 X.1.2.1 dX9_turn_86 (by decide) (fun c86 => ?_) (fun c86 => ?_)
  · rw [if_pos c86] at hf
    refine lv_aload_n X.1.1 X.1.2.1 dX9_turn_129 rfl (lv_at hl 0 rfl) ?_
    refine lv_iconst (v := 0) X.1.1 X.1.2.1 dX9_turn_130 (by decide) ?_
    refine e_put X hW hS (C := RX9) (T := TX9) (N := 35) (j := 15) (tyF := tyX9) rfl (by decide) inX9 tyX9_ok nmX9 (by decide) (by decide) rfl rfl mw_3_184 rfl rfl rfl dX9_turn_131 hf (fun m11 H locs hf hW hS => ?_)
    refine lv_iconst (v := 1) X.1.1 X.1.2.1 dX9_turn_134 (by decide) ?_
    exact e_iret X hW hS hf dX9_turn_135
  · rw [if_neg c86] at hf
    refine lv_aload_n X.1.1 X.1.2.1 dX9_turn_89 rfl (lv_at hl 0 rfl) ?_
    refine e_getr X hW (C := RX9) (T := TX9) (N := 35) (j := 10) rfl (by decide) inX9 (by decide) (by decide) rfl (t := 99) rfl rfl mw_3_179 dX9_turn_90 ?_
    refine lv_iload_n X.1.1 X.1.2.1 dX9_turn_93 rfl (lv_at hl 2 rfl) ?_
    refine e_ild X hW (by decide) rfl dX9_turn_94 hf (fun v12 hf => ?_)
    refine lv_istore_n (lv' := [(3, .int v12), (0, .ref (E.1 89)), (1, .int y1), (2, .int y2)]) X.1.1 X.1.2.1 dX9_turn_95 rfl hl (by decide) rfl (fun ls hl => ?_)
    refine lv_aload_n X.1.1 X.1.2.1 dX9_turn_96 rfl (lv_at hl 1 rfl) ?_
    refine e_getr X hW (C := RX9) (T := TX9) (N := 35) (j := 10) rfl (by decide) inX9 (by decide) (by decide) rfl (t := 99) rfl rfl mw_3_179 dX9_turn_97 ?_
    refine lv_iload_n X.1.1 X.1.2.1 dX9_turn_100 rfl (lv_at hl 3 rfl) ?_
    refine lv_aload_n X.1.1 X.1.2.1 dX9_turn_101 rfl (lv_at hl 1 rfl) ?_
    refine e_getr X hW (C := RX9) (T := TX9) (N := 35) (j := 10) rfl (by decide) inX9 (by decide) (by decide) rfl (t := 99) rfl rfl mw_3_179 dX9_turn_102 ?_
    refine lv_iload_n X.1.1 X.1.2.1 dX9_turn_105 rfl (lv_at hl 2 rfl) ?_
    refine lv_iconst (v := 1) X.1.1 X.1.2.1 dX9_turn_106 (by decide) ?_
    refine lv_isub X.1.1 X.1.2.1 dX9_turn_107 ?_
    refine lv_iload_n X.1.1 X.1.2.1 dX9_turn_108 rfl (lv_at hl 3 rfl) ?_
    refine lv_isub X.1.1 X.1.2.1 dX9_turn_109 ?_
    refine e_ild X hW (by decide) rfl dX9_turn_110 hf (fun v13 hf => ?_)
    refine e_ist X hW hS (by decide) rfl dX9_turn_111 hf (fun m14 H locs hf hW hS => ?_)
    refine lv_aload_n X.1.1 X.1.2.1 dX9_turn_112 rfl (lv_at hl 1 rfl) ?_
    refine e_getr X hW (C := RX9) (T := TX9) (N := 35) (j := 10) rfl (by decide) inX9 (by decide) (by decide) rfl (t := 99) rfl rfl mw_3_179 dX9_turn_113 ?_
    refine lv_iload_n X.1.1 X.1.2.1 dX9_turn_116 rfl (lv_at hl 2 rfl) ?_
    refine lv_iconst (v := 1) X.1.1 X.1.2.1 dX9_turn_117 (by decide) ?_
    refine lv_isub X.1.1 X.1.2.1 dX9_turn_118 ?_
    refine lv_iload_n X.1.1 X.1.2.1 dX9_turn_119 rfl (lv_at hl 3 rfl) ?_
    refine lv_isub X.1.1 X.1.2.1 dX9_turn_120 ?_
    refine lv_iload_n X.1.1 X.1.2.1 dX9_turn_121 rfl (lv_at hl 0 rfl) ?_
    refine e_ist X hW hS (by decide) rfl dX9_turn_122 hf (fun m15 H locs hf hW hS => ?_)
    refine lv_iinc (v := (y2 + 1)) (lv' := [(2, .int (y2 + 1)), (3, .int v12), (0, .ref (E.1 89)), (1, .int y1)]) X.1.1 X.1.2.1 dX9_turn_123 hl (k := 3) rfl rfl (by decide) rfl (fun ls hl => ?_)
    refine lv_goto (tgt := 80) X.1.1 X.1.2.1 dX9_turn_126 (by decide) ?_
    exact hrec80 y1 (y2 + 1) m15 H locs ls hf hW hS (lv_sub hl [2, 3, 0] rfl)
theorem wfX9_turn_80 {p : Program} {l : Launch} {e : Env} {s : State} {m : MethodId} {args : Array Value} {below : List Frame} {meth : Method} {c : Code} {E : Gv} {F : Nat}  {r : Int32} {u : Mem} (X : Fx p m c cX9_turn 5 s args (Cond.code yX9_turn cX9_turn 5 (some .int)) "OvenHouseModel" meth (some .int) E)  (n : Nat) : ∀ (y1 : Int32) (y2 : Int32) (μ : Mem) (H : Heap) (locs : List Loc) (ls : Array Slot) (_ : fX9_turn_80 F   n y1 y2 μ = some (r, u)) (_ : Wo E μ H) (_ : va_S (AE E) s.heap H locs) (_ : lv_has ls 5 [(0, .ref (E.1 89)), (1, .int y1), (2, .int y2)]), W0 p l e rmX9_turn s m args below meth c H locs (QcI E r u) E (F0 m 80 ls []) := by
  induction n with
  | zero => intro y1 y2 μ H locs ls hf hW hS hl; cases hf
  | succ n ih => intro y1 y2 μ H locs ls hf hW hS hl; exact wfX9_turn_80_b X  _ ih y1 y2 μ H locs ls hf hW hS hl
set_option maxRecDepth 100000 in
set_option maxHeartbeats 4000000 in
theorem wfX9_turn_13_b {p : Program} {l : Launch} {e : Env} {s : State} {m : MethodId} {args : Array Value} {below : List Frame} {meth : Method} {c : Code} {E : Gv} {F : Nat}  {r : Int32} {u : Mem} (X : Fx p m c cX9_turn 5 s args (Cond.code yX9_turn cX9_turn 5 (some .int)) "OvenHouseModel" meth (some .int) E)  (rec13 : Int32 → Int32 → Mem → Option (Int32 × Mem)) (hrec13 : ∀ (y1 : Int32) (y2 : Int32) (μ : Mem) (H : Heap) (locs : List Loc) (ls : Array Slot), rec13 y1 y2 μ = some (r, u) → Wo E μ H → va_S (AE E) s.heap H locs → lv_has ls 5 [(0, .ref (E.1 89)), (1, .int y1), (2, .int y2)] → W0 p l e rmX9_turn s m args below meth c H locs (QcI E r u) E (F0 m 13 ls [])) (y1 : Int32) (y2 : Int32) (μ : Mem) (H : Heap) (locs : List Loc) (ls : Array Slot) (hf : fX9_turn_13_b F  rec13 y1 y2 μ = some (r, u)) (hW : Wo E μ H) (hS : va_S (AE E) s.heap H locs) (hl : lv_has ls 5 [(0, .ref (E.1 89)), (1, .int y1), (2, .int y2)]) : W0 p l e rmX9_turn s m args below meth c H locs (QcI E r u) E (F0 m 13 ls []) := by
  unfold fX9_turn_13_b at hf
  refine lv_iload_n X.1.1 X.1.2.1 dX9_turn_13 rfl (lv_at hl 2 rfl) ?_
  refine lv_iload_n X.1.1 X.1.2.1 dX9_turn_14 rfl (lv_at hl 1 rfl) ?_
  refine lv_icmp_ge (tgt := 78) X.1.1 X.1.2.1 dX9_turn_15 (by decide) (fun c15 => ?_) (fun c15 => ?_)
  · rw [if_pos c15] at hf
    refine lv_iconst (v := 0) X.1.1 X.1.2.1 dX9_turn_78 (by decide) ?_
    refine lv_istore_n (lv' := [(2, .int 0), (0, .ref (E.1 89)), (1, .int y1)]) X.1.1 X.1.2.1 dX9_turn_79 rfl hl (by decide) rfl (fun ls hl => ?_)
    exact wfX9_turn_80 X  F y1 0 μ H locs ls hf hW hS (lv_sub hl [1, 2, 0] rfl)
  · rw [if_neg c15] at hf
    refine lv_aload_n X.1.1 X.1.2.1 dX9_turn_18 rfl (lv_at hl 0 rfl) ?_
    refine e_getr X hW (C := RX9) (T := TX9) (N := 35) (j := 6) rfl (by decide) inX9 (by decide) (by decide) rfl (t := 95) rfl rfl mw_3_175 dX9_turn_19 ?_
    refine lv_iload_n X.1.1 X.1.2.1 dX9_turn_22 rfl (lv_at hl 2 rfl) ?_
    refine e_ild X hW (by decide) rfl dX9_turn_23 hf (fun v3 hf => ?_)
    refine lv_istore_n (lv' := [(3, .int v3), (0, .ref (E.1 89)), (1, .int y1), (2, .int y2)]) X.1.1 X.1.2.1 dX9_turn_24 rfl hl (by decide) rfl (fun ls hl => ?_)
    refine lv_aload_n X.1.1 X.1.2.1 dX9_turn_25 rfl (lv_at hl 1 rfl) ?_
    refine e_getr X hW (C := RX9) (T := TX9) (N := 35) (j := 6) rfl (by decide) inX9 (by decide) (by decide) rfl (t := 95) rfl rfl mw_3_175 dX9_turn_26 ?_
    refine lv_iload_n X.1.1 X.1.2.1 dX9_turn_29 rfl (lv_at hl 3 rfl) ?_
    refine lv_aload_n X.1.1 X.1.2.1 dX9_turn_30 rfl (lv_at hl 1 rfl) ?_
    refine e_getr X hW (C := RX9) (T := TX9) (N := 35) (j := 7) rfl (by decide) inX9 (by decide) (by decide) rfl (t := 96) rfl rfl mw_3_176 dX9_turn_31 ?_
    refine lv_iload_n X.1.1 X.1.2.1 dX9_turn_34 rfl (lv_at hl 3 rfl) ?_
    refine e_ild X hW (by decide) rfl dX9_turn_35 hf (fun v4 hf => ?_)
    refine e_ist X hW hS (by decide) rfl dX9_turn_36 hf (fun m5 H locs hf hW hS => ?_)
    refine lv_aload_n X.1.1 X.1.2.1 dX9_turn_37 rfl (lv_at hl 1 rfl) ?_
    refine e_getr X hW (C := RX9) (T := TX9) (N := 35) (j := 7) rfl (by decide) inX9 (by decide) (by decide) rfl (t := 96) rfl rfl mw_3_176 dX9_turn_38 ?_
    refine lv_iload_n X.1.1 X.1.2.1 dX9_turn_41 rfl (lv_at hl 3 rfl) ?_
    refine lv_iload_n X.1.1 X.1.2.1 dX9_turn_42 rfl (lv_at hl 0 rfl) ?_
    refine e_ist X hW hS (by decide) rfl dX9_turn_43 hf (fun m6 H locs hf hW hS => ?_)
    refine lv_aload_n X.1.1 X.1.2.1 dX9_turn_44 rfl (lv_at hl 1 rfl) ?_
    refine e_getr X hW (C := RX9) (T := TX9) (N := 35) (j := 8) rfl (by decide) inX9 (by decide) (by decide) rfl (t := 97) rfl rfl mw_3_177 dX9_turn_45 ?_
    refine lv_iload_n X.1.1 X.1.2.1 dX9_turn_48 rfl (lv_at hl 3 rfl) ?_
    refine e_ild X hW (by decide) rfl dX9_turn_49 hf (fun v7 hf => ?_)
    refine lv_istore (lv' := [(4, .int v7), (3, .int v3), (0, .ref (E.1 89)), (1, .int y1), (2, .int y2)]) X.1.1 X.1.2.1 dX9_turn_50 hl (by decide) rfl (fun ls hl => ?_)
    refine lv_aload_n X.1.1 X.1.2.1 dX9_turn_52 rfl (lv_at hl 2 rfl) ?_
    refine e_getr X hW (C := RX9) (T := TX9) (N := 35) (j := 8) rfl (by decide) inX9 (by decide) (by decide) rfl (t := 97) rfl rfl mw_3_177 dX9_turn_53 ?_
    refine lv_iload_n X.1.1 X.1.2.1 dX9_turn_56 rfl (lv_at hl 4 rfl) ?_
    refine lv_aload_n X.1.1 X.1.2.1 dX9_turn_57 rfl (lv_at hl 2 rfl) ?_
    refine e_getr X hW (C := RX9) (T := TX9) (N := 35) (j := 9) rfl (by decide) inX9 (by decide) (by decide) rfl (t := 98) rfl rfl mw_3_178 dX9_turn_58 ?_
    refine lv_iload_n X.1.1 X.1.2.1 dX9_turn_61 rfl (lv_at hl 4 rfl) ?_
    refine e_ild X hW (by decide) rfl dX9_turn_62 hf (fun v8 hf => ?_)
    refine e_ist X hW hS (by decide) rfl dX9_turn_63 hf (fun m9 H locs hf hW hS => ?_)
    refine lv_aload_n X.1.1 X.1.2.1 dX9_turn_64 rfl (lv_at hl 2 rfl) ?_
    refine e_getr X hW (C := RX9) (T := TX9) (N := 35) (j := 9) rfl (by decide) inX9 (by decide) (by decide) rfl (t := 98) rfl rfl mw_3_178 dX9_turn_65 ?_
    refine lv_iload_n X.1.1 X.1.2.1 dX9_turn_68 rfl (lv_at hl 4 rfl) ?_
    refine lv_iload X.1.1 X.1.2.1 dX9_turn_69 (lv_at hl 0 rfl) ?_
    refine e_ist X hW hS (by decide) rfl dX9_turn_71 hf (fun m10 H locs hf hW hS => ?_)
    refine lv_iinc (v := (y2 + 1)) (lv' := [(2, .int (y2 + 1)), (4, .int v7), (3, .int v3), (0, .ref (E.1 89)), (1, .int y1)]) X.1.1 X.1.2.1 dX9_turn_72 hl (k := 4) rfl rfl (by decide) rfl (fun ls hl => ?_)
    refine lv_goto (tgt := 13) X.1.1 X.1.2.1 dX9_turn_75 (by decide) ?_
    exact hrec13 y1 (y2 + 1) m10 H locs ls hf hW hS (lv_sub hl [3, 4, 0] rfl)
theorem wfX9_turn_13 {p : Program} {l : Launch} {e : Env} {s : State} {m : MethodId} {args : Array Value} {below : List Frame} {meth : Method} {c : Code} {E : Gv} {F : Nat}  {r : Int32} {u : Mem} (X : Fx p m c cX9_turn 5 s args (Cond.code yX9_turn cX9_turn 5 (some .int)) "OvenHouseModel" meth (some .int) E)  (n : Nat) : ∀ (y1 : Int32) (y2 : Int32) (μ : Mem) (H : Heap) (locs : List Loc) (ls : Array Slot) (_ : fX9_turn_13 F   n y1 y2 μ = some (r, u)) (_ : Wo E μ H) (_ : va_S (AE E) s.heap H locs) (_ : lv_has ls 5 [(0, .ref (E.1 89)), (1, .int y1), (2, .int y2)]), W0 p l e rmX9_turn s m args below meth c H locs (QcI E r u) E (F0 m 13 ls []) := by
  induction n with
  | zero => intro y1 y2 μ H locs ls hf hW hS hl; cases hf
  | succ n ih => intro y1 y2 μ H locs ls hf hW hS hl; exact wfX9_turn_13_b X  _ ih y1 y2 μ H locs ls hf hW hS hl
set_option maxRecDepth 100000 in
set_option maxHeartbeats 4000000 in
theorem ctfX9_turn {l : Launch} {E : Gv} (hD : Do E) (F : Nat)  (μ : Mem) : CtI l yX9_turn ((Cond.code yX9_turn cX9_turn 5 (some .int)) :: GG) rmX9_turn E [.ref (E.1 89)] μ (fX9_turn F μ) := by
  intro r u hf
  refine of_entry (cc := cX9_turn) (maxL := 5) (ret := (some .int)) (by decide +kernel) rfl hD (Nat.le_of_ble_eq_true rfl) (fun p e s m args below meth c X H locs hW hS ls hl => ?_)
  have hl : lv_has ls 5 [(0, .ref (E.1 89))] := hl
  unfold fX9_turn at hf
  refine lv_aload_n X.1.1 X.1.2.1 dX9_turn_0 rfl (lv_at hl 0 rfl) ?_
  refine e_vv (rest := []) (As := []) X hl.1 hW hS (C := RX9) (T := TX9) (N := 35) rfl (by decide) (ctfX9_keep X.2.2.2.2 F μ) (cwV (rm := rmX9_keep) 0 X.1.2.2.2.2 (gd_V mw_4_86 mw_4_88 mw_0_18 mw_1_11 mw_4_89) rfl rfl rfl (by decide +kernel) ⟨Nat.le_of_ble_eq_true rfl, Nat.le_of_ble_eq_true rfl⟩) rfl rfl (Nat.le_of_ble_eq_true rfl) dX9_turn_1 ⟨Nat.zero_le _, Nat.zero_le _⟩ hf (fun m1 H locs hf hW hS => ?_)
  refine lv_aload_n X.1.1 X.1.2.1 dX9_turn_4 rfl (lv_at hl 0 rfl) ?_
  refine e_getr X hW (C := RX9) (T := TX9) (N := 35) (j := 5) rfl (by decide) inX9 (by decide) (by decide) rfl (t := 94) rfl rfl mw_3_174 dX9_turn_5 ?_
  refine lv_iconst (v := 0) X.1.1 X.1.2.1 dX9_turn_8 (by decide) ?_
  refine e_ild X hW (by decide) rfl dX9_turn_9 hf (fun v2 hf => ?_)
  refine lv_istore_n (lv' := [(1, .int v2), (0, .ref (E.1 89))]) X.1.1 X.1.2.1 dX9_turn_10 rfl hl (by decide) rfl (fun ls hl => ?_)
  refine lv_iconst (v := 0) X.1.1 X.1.2.1 dX9_turn_11 (by decide) ?_
  refine lv_istore_n (lv' := [(2, .int 0), (1, .int v2), (0, .ref (E.1 89))]) X.1.1 X.1.2.1 dX9_turn_12 rfl hl (by decide) rfl (fun ls hl => ?_)
  exact wfX9_turn_13 X  F v2 0 m1 H locs ls hf hW hS (lv_sub hl [2, 1, 0] rfl)
