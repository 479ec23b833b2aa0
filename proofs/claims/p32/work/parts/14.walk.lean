-- OvenHouse.digest
def rmX8_digest : Room := { frames := 2, cells := 0, slots := 0, locals := 44 }
set_option maxRecDepth 100000 in
set_option maxHeartbeats 4000000 in
theorem wfX8_digest_20_b {p : Program} {l : Launch} {e : Env} {s : State} {m : MethodId} {args : Array Value} {below : List Frame} {meth : Method} {c : Code} {E : Gv} {F : Nat}  {r : Int64} {u : Mem} (X : Fx p m c cX8_digest 5 s args (Cond.code yX8_digest cX8_digest 5 (some .long)) "OvenHouse" meth (some .long) E)  (rec6 : Int64 → Int32 → Mem → Option (Int64 × Mem)) (hrec6 : ∀ (y1 : Int64) (y3 : Int32) (μ : Mem) (H : Heap) (locs : List Loc) (ls : Array Slot), rec6 y1 y3 μ = some (r, u) → Wo E μ H → va_S (AE E) s.heap H locs → lv_has ls 5 [(0, .ref (E.1 0)), (1, .long y1), (3, .int y3)] → W0 p l e rmX8_digest s m args below meth c H locs (QcL E r u) E (F0 m 6 ls [])) (rec20 : Int64 → Int32 → Int32 → Mem → Option (Int64 × Mem)) (hrec20 : ∀ (y1 : Int64) (y3 : Int32) (y4 : Int32) (μ : Mem) (H : Heap) (locs : List Loc) (ls : Array Slot), rec20 y1 y3 y4 μ = some (r, u) → Wo E μ H → va_S (AE E) s.heap H locs → lv_has ls 5 [(0, .ref (E.1 0)), (1, .long y1), (3, .int y3), (4, .int y4)] → W0 p l e rmX8_digest s m args below meth c H locs (QcL E r u) E (F0 m 20 ls [])) (y1 : Int64) (y3 : Int32) (y4 : Int32) (μ : Mem) (H : Heap) (locs : List Loc) (ls : Array Slot) (hf : fX8_digest_20_b F  rec6 rec20 y1 y3 y4 μ = some (r, u)) (hW : Wo E μ H) (hS : va_S (AE E) s.heap H locs) (hl : lv_has ls 5 [(0, .ref (E.1 0)), (1, .long y1), (3, .int y3), (4, .int y4)]) : W0 p l e rmX8_digest s m args below meth c H locs (QcL E r u) E (F0 m 20 ls []) := by
  unfold fX8_digest_20_b at hf
  refine lv_iload X.1.1 X.1.2.1 dX8_digest_20 (lv_at hl 3 rfl) ?_
  refine lv_iconst (v := 5) X.1.1 X.1.2.1 dX8_digest_22 (by decide) ?_
  refine lv_icmp_gt (tgt := 47) X.1.1 X.1.2.1 dX8_digest_23 (by decide) (fun c23 => ?_) (fun c23 => ?_)
  · rw [if_pos c23] at hf
    refine lv_iinc (v := (y3 + 1)) (lv' := [(3, .int (y3 + 1)), (0, .ref (E.1 0)), (1, .long y1), (4, .int y4)]) X.1.1 X.1.2.1 dX8_digest_47 hl (k := 2) rfl rfl (by decide) rfl (fun ls hl => ?_)
    refine lv_goto (tgt := 6) X.1.1 X.1.2.1 dX8_digest_50 (by decide) ?_
    exact hrec6 y1 (y3 + 1) μ H locs ls hf hW hS (lv_sub hl [1, 2, 0] rfl)
  · rw [if_neg c23] at hf
    refine lv_ldc2 X.1.1 X.1.2.1 X.1.2.2.2.1 (X.1.2.2.2.2 _ (List.mem_cons_of_mem _ mw_3_161)) dX8_digest_26 ?_
    refine lv_lload_n X.1.1 X.1.2.1 dX8_digest_29 rfl (lv_at hl 1 rfl) ?_
    refine lv_lmul X.1.1 X.1.2.1 dX8_digest_30 ?_
    refine lv_aload_n X.1.1 X.1.2.1 dX8_digest_31 rfl (lv_at hl 0 rfl) ?_
    refine lv_iload_n X.1.1 X.1.2.1 dX8_digest_32 rfl (lv_at hl 2 rfl) ?_
    refine lv_iload X.1.1 X.1.2.1 dX8_digest_33 (lv_at hl 3 rfl) ?_
    refine e_vi (rest := [.long (31 * y1)]) (As := [.int y3, .int y4]) X hl.1 hW hS (C := RX8) (T := TX8) (N := 11) rfl (by decide) (ctfX8_of X.2.2.2.2 F y3 y4 μ) (cwV (rm := rmX8_of) 2 X.1.2.2.2.2 (gd_V mw_3_162 mw_2_133 mw_2_134 mw_1_1 mw_2_135) rfl rfl rfl (by decide +kernel) ⟨Nat.le_of_ble_eq_true rfl, Nat.le_of_ble_eq_true rfl⟩) rfl rfl (Nat.le_of_ble_eq_true rfl) dX8_digest_35 ⟨Nat.zero_le _, Nat.zero_le _⟩ hf (fun r3 m2 H locs hf hW hS => ?_)
    refine lv_i2l X.1.1 X.1.2.1 dX8_digest_38 rfl ?_
    refine lv_ladd X.1.1 X.1.2.1 dX8_digest_39 ?_
    refine lv_lstore_n (lv' := [(1, .long ((31 * y1) + r3.toInt64)), (0, .ref (E.1 0)), (3, .int y3), (4, .int y4)]) X.1.1 X.1.2.1 dX8_digest_40 rfl hl (by decide) rfl (fun ls hl => ?_)
    refine lv_iinc (v := (y4 + 1)) (lv' := [(4, .int (y4 + 1)), (1, .long ((31 * y1) + r3.toInt64)), (0, .ref (E.1 0)), (3, .int y3)]) X.1.1 X.1.2.1 dX8_digest_41 hl (k := 3) rfl rfl (by decide) rfl (fun ls hl => ?_)
    refine lv_goto (tgt := 20) X.1.1 X.1.2.1 dX8_digest_44 (by decide) ?_
    exact hrec20 ((31 * y1) + r3.toInt64) y3 (y4 + 1) m2 H locs ls hf hW hS (lv_sub hl [2, 1, 3, 0] rfl)
theorem wfX8_digest_20 {p : Program} {l : Launch} {e : Env} {s : State} {m : MethodId} {args : Array Value} {below : List Frame} {meth : Method} {c : Code} {E : Gv} {F : Nat}  {r : Int64} {u : Mem} (X : Fx p m c cX8_digest 5 s args (Cond.code yX8_digest cX8_digest 5 (some .long)) "OvenHouse" meth (some .long) E)  (rec6 : Int64 → Int32 → Mem → Option (Int64 × Mem)) (hrec6 : ∀ (y1 : Int64) (y3 : Int32) (μ : Mem) (H : Heap) (locs : List Loc) (ls : Array Slot), rec6 y1 y3 μ = some (r, u) → Wo E μ H → va_S (AE E) s.heap H locs → lv_has ls 5 [(0, .ref (E.1 0)), (1, .long y1), (3, .int y3)] → W0 p l e rmX8_digest s m args below meth c H locs (QcL E r u) E (F0 m 6 ls [])) (n : Nat) : ∀ (y1 : Int64) (y3 : Int32) (y4 : Int32) (μ : Mem) (H : Heap) (locs : List Loc) (ls : Array Slot) (_ : fX8_digest_20 F  rec6 n y1 y3 y4 μ = some (r, u)) (_ : Wo E μ H) (_ : va_S (AE E) s.heap H locs) (_ : lv_has ls 5 [(0, .ref (E.1 0)), (1, .long y1), (3, .int y3), (4, .int y4)]), W0 p l e rmX8_digest s m args below meth c H locs (QcL E r u) E (F0 m 20 ls []) := by
  induction n with
  | zero => intro y1 y3 y4 μ H locs ls hf hW hS hl; cases hf
  | succ n ih => intro y1 y3 y4 μ H locs ls hf hW hS hl; exact wfX8_digest_20_b X rec6 hrec6 _ ih y1 y3 y4 μ H locs ls hf hW hS hl
set_option maxRecDepth 100000 in
set_option maxHeartbeats 4000000 in
theorem wfX8_digest_91_b {p : Program} {l : Launch} {e : Env} {s : State} {m : MethodId} {args : Array Value} {below : List Frame} {meth : Method} {c : Code} {E : Gv} {F : Nat}  {r : Int64} {u : Mem} (X : Fx p m c cX8_digest 5 s args (Cond.code yX8_digest cX8_digest 5 (some .long)) "OvenHouse" meth (some .long) E)  (rec91 : Int64 → Int32 → Mem → Option (Int64 × Mem)) (hrec91 : ∀ (y1 : Int64) (y3 : Int32) (μ : Mem) (H : Heap) (locs : List Loc) (ls : Array Slot), rec91 y1 y3 μ = some (r, u) → Wo E μ H → va_S (AE E) s.heap H locs → lv_has ls 5 [(0, .ref (E.1 0)), (1, .long y1), (3, .int y3)] → W0 p l e rmX8_digest s m args below meth c H locs (QcL E r u) E (F0 m 91 ls [])) (y1 : Int64) (y3 : Int32) (μ : Mem) (H : Heap) (locs : List Loc) (ls : Array Slot) (hf : fX8_digest_91_b F  rec91 y1 y3 μ = some (r, u)) (hW : Wo E μ H) (hS : va_S (AE E) s.heap H locs) (hl : lv_has ls 5 [(0, .ref (E.1 0)), (1, .long y1), (3, .int y3)]) : W0 p l e rmX8_digest s m args below meth c H locs (QcL E r u) E (F0 m 91 ls []) := by
  unfold fX8_digest_91_b at hf
  refine lv_iload_n X.1.1 X.1.2.1 dX8_digest_91 rfl (lv_at hl 2 rfl) ?_
  refine lv_bipush (v := 8) X.1.1 X.1.2.1 dX8_digest_92 (by decide) ?_
  refine lv_icmp_ge (tgt := 137) X.1.1 X.1.2.1 dX8_digest_94 (by decide) (fun c94 => ?_) (fun c94 => ?_)
  · rw [if_pos c94] at hf
    refine lv_lload_n X.1.1 X.1.2.1 dX8_digest_137 rfl (lv_at hl 1 rfl) ?_
    exact e_lret X hW hS hf dX8_digest_138
  · rw [if_neg c94] at hf
    refine lv_ldc2 X.1.1 X.1.2.1 X.1.2.2.2.1 (X.1.2.2.2.2 _ (List.mem_cons_of_mem _ mw_3_161)) dX8_digest_97 ?_
    refine lv_lload_n X.1.1 X.1.2.1 dX8_digest_100 rfl (lv_at hl 1 rfl) ?_
    refine lv_lmul X.1.1 X.1.2.1 dX8_digest_101 ?_
    refine lv_aload_n X.1.1 X.1.2.1 dX8_digest_102 rfl (lv_at hl 0 rfl) ?_
    refine e_getr X hW (C := RX8) (T := TX8) (N := 11) (j := 7) rfl (by decide) inX8 (by decide) (by decide) rfl (t := 73) rfl rfl mw_2_19 dX8_digest_103 ?_
    refine e_getr X hW (C := RX4) (T := TX4) (N := 2) (j := 0) rfl (by decide) inX4 (by decide) (by decide) rfl (t := 74) rfl rfl mw_2_3 dX8_digest_106 ?_
    refine lv_iload_n X.1.1 X.1.2.1 dX8_digest_109 rfl (lv_at hl 2 rfl) ?_
    refine e_ild X hW (by decide) rfl dX8_digest_110 hf (fun v4 hf => ?_)
    refine lv_i2l X.1.1 X.1.2.1 dX8_digest_111 rfl ?_
    refine lv_ladd X.1.1 X.1.2.1 dX8_digest_112 ?_
    refine lv_lstore_n (lv' := [(1, .long ((31 * y1) + v4.toInt64)), (0, .ref (E.1 0)), (3, .int y3)]) X.1.1 X.1.2.1 dX8_digest_113 rfl hl (by decide) rfl (fun ls hl => ?_)
    refine lv_ldc2 X.1.1 X.1.2.1 X.1.2.2.2.1 (X.1.2.2.2.2 _ (List.mem_cons_of_mem _ mw_3_161)) dX8_digest_114 ?_
    refine lv_lload_n X.1.1 X.1.2.1 dX8_digest_117 rfl (lv_at hl 0 rfl) ?_
    refine lv_lmul X.1.1 X.1.2.1 dX8_digest_118 ?_
    refine lv_aload_n X.1.1 X.1.2.1 dX8_digest_119 rfl (lv_at hl 1 rfl) ?_
    refine e_getr X hW (C := RX8) (T := TX8) (N := 11) (j := 7) rfl (by decide) inX8 (by decide) (by decide) rfl (t := 73) rfl rfl mw_2_19 dX8_digest_120 ?_
    refine e_getr X hW (C := RX4) (T := TX4) (N := 2) (j := 1) rfl (by decide) inX4 (by decide) (by decide) rfl (t := 75) rfl rfl mw_2_5 dX8_digest_123 ?_
    refine lv_iload_n X.1.1 X.1.2.1 dX8_digest_126 rfl (lv_at hl 2 rfl) ?_
    refine e_ild X hW (by decide) rfl dX8_digest_127 hf (fun v5 hf => ?_)
    refine lv_i2l X.1.1 X.1.2.1 dX8_digest_128 rfl ?_
    refine lv_ladd X.1.1 X.1.2.1 dX8_digest_129 ?_
    refine lv_lstore_n (lv' := [(1, .long ((31 * ((31 * y1) + v4.toInt64)) + v5.toInt64)), (0, .ref (E.1 0)), (3, .int y3)]) X.1.1 X.1.2.1 dX8_digest_130 rfl hl (by decide) rfl (fun ls hl => ?_)
    refine lv_iinc (v := (y3 + 1)) (lv' := [(3, .int (y3 + 1)), (1, .long ((31 * ((31 * y1) + v4.toInt64)) + v5.toInt64)), (0, .ref (E.1 0))]) X.1.1 X.1.2.1 dX8_digest_131 hl (k := 2) rfl rfl (by decide) rfl (fun ls hl => ?_)
    refine lv_goto (tgt := 91) X.1.1 X.1.2.1 dX8_digest_134 (by decide) ?_
    exact hrec91 ((31 * ((31 * y1) + v4.toInt64)) + v5.toInt64) (y3 + 1) μ H locs ls hf hW hS (lv_sub hl [2, 1, 0] rfl)
theorem wfX8_digest_91 {p : Program} {l : Launch} {e : Env} {s : State} {m : MethodId} {args : Array Value} {below : List Frame} {meth : Method} {c : Code} {E : Gv} {F : Nat}  {r : Int64} {u : Mem} (X : Fx p m c cX8_digest 5 s args (Cond.code yX8_digest cX8_digest 5 (some .long)) "OvenHouse" meth (some .long) E)  (n : Nat) : ∀ (y1 : Int64) (y3 : Int32) (μ : Mem) (H : Heap) (locs : List Loc) (ls : Array Slot) (_ : fX8_digest_91 F   n y1 y3 μ = some (r, u)) (_ : Wo E μ H) (_ : va_S (AE E) s.heap H locs) (_ : lv_has ls 5 [(0, .ref (E.1 0)), (1, .long y1), (3, .int y3)]), W0 p l e rmX8_digest s m args below meth c H locs (QcL E r u) E (F0 m 91 ls []) := by
  induction n with
  | zero => intro y1 y3 μ H locs ls hf hW hS hl; cases hf
  | succ n ih => intro y1 y3 μ H locs ls hf hW hS hl; exact wfX8_digest_91_b X  _ ih y1 y3 μ H locs ls hf hW hS hl
set_option maxRecDepth 100000 in
set_option maxHeartbeats 4000000 in
theorem wfX8_digest_55_b {p : Program} {l : Launch} {e : Env} {s : State} {m : MethodId} {args : Array Value} {below : List Frame} {meth : Method} {c : Code} {E : Gv} {F : Nat}  {r : Int64} {u : Mem} (X : Fx p m c cX8_digest 5 s args (Cond.code yX8_digest cX8_digest 5 (some .long)) "OvenHouse" meth (some .long) E)  (rec55 : Int64 → Int32 → Mem → Option (Int64 × Mem)) (hrec55 : ∀ (y1 : Int64) (y3 : Int32) (μ : Mem) (H : Heap) (locs : List Loc) (ls : Array Slot), rec55 y1 y3 μ = some (r, u) → Wo E μ H → va_S (AE E) s.heap H locs → lv_has ls 5 [(0, .ref (E.1 0)), (1, .long y1), (3, .int y3)] → W0 p l e rmX8_digest s m args below meth c H locs (QcL E r u) E (F0 m 55 ls [])) (y1 : Int64) (y3 : Int32) (μ : Mem) (H : Heap) (locs : List Loc) (ls : Array Slot) (hf : fX8_digest_55_b F  rec55 y1 y3 μ = some (r, u)) (hW : Wo E μ H) (hS : va_S (AE E) s.heap H locs) (hl : lv_has ls 5 [(0, .ref (E.1 0)), (1, .long y1), (3, .int y3)]) : W0 p l e rmX8_digest s m args below meth c H locs (QcL E r u) E (F0 m 55 ls []) := by
  unfold fX8_digest_55_b at hf
  refine lv_iload_n X.1.1 X.1.2.1 dX8_digest_55 rfl (lv_at hl 2 rfl) ?_
  refine lv_aload_n X.1.1 X.1.2.1 dX8_digest_56 rfl (lv_at hl 0 rfl) ?_
  refine e_getr X hW (C := RX8) (T := TX8) (N := 11) (j := 1) rfl (by decide) inX8 (by decide) (by decide) rfl (t := 9) rfl rfl mw_2_13 dX8_digest_57 ?_
  refine e_geti X hW (C := RX3) (T := TX3) (N := 7) (j := 6) rfl (by decide) inX3 (by decide) (by decide) rfl rfl mw_1_72 dX8_digest_60 ?_
  refine lv_icmp_ge (tgt := 89) X.1.1 X.1.2.1 dX8_digest_63 (by decide) (fun c63 => ?_) (fun c63 => ?_)
  · rw [if_pos c63] at hf
    refine lv_iconst (v := 0) X.1.1 X.1.2.1 dX8_digest_89 (by decide) ?_
    refine lv_istore_n (lv' := [(3, .int 0), (0, .ref (E.1 0)), (1, .long y1)]) X.1.1 X.1.2.1 dX8_digest_90 rfl hl (by decide) rfl (fun ls hl => ?_)
    exact wfX8_digest_91 X  F y1 0 μ H locs ls hf hW hS (lv_sub hl [1, 2, 0] rfl)
  · rw [if_neg c63] at hf
    refine lv_ldc2 X.1.1 X.1.2.1 X.1.2.2.2.1 (X.1.2.2.2.2 _ (List.mem_cons_of_mem _ mw_3_161)) dX8_digest_66 ?_
    refine lv_lload_n X.1.1 X.1.2.1 dX8_digest_69 rfl (lv_at hl 1 rfl) ?_
    refine lv_lmul X.1.1 X.1.2.1 dX8_digest_70 ?_
    refine lv_aload_n X.1.1 X.1.2.1 dX8_digest_71 rfl (lv_at hl 0 rfl) ?_
    refine e_getr X hW (C := RX8) (T := TX8) (N := 11) (j := 1) rfl (by decide) inX8 (by decide) (by decide) rfl (t := 9) rfl rfl mw_2_13 dX8_digest_72 ?_
    refine e_getr X hW (C := RX3) (T := TX3) (N := 7) (j := 4) rfl (by decide) inX3 (by decide) (by decide) rfl (t := 14) rfl rfl mw_1_68 dX8_digest_75 ?_
    refine lv_iload_n X.1.1 X.1.2.1 dX8_digest_78 rfl (lv_at hl 2 rfl) ?_
    refine e_ild X hW (by decide) rfl dX8_digest_79 hf (fun v1 hf => ?_)
    refine lv_i2l X.1.1 X.1.2.1 dX8_digest_80 rfl ?_
    refine lv_ladd X.1.1 X.1.2.1 dX8_digest_81 ?_
    refine lv_lstore_n (lv' := [(1, .long ((31 * y1) + v1.toInt64)), (0, .ref (E.1 0)), (3, .int y3)]) X.1.1 X.1.2.1 dX8_digest_82 rfl hl (by decide) rfl (fun ls hl => ?_)
    refine lv_iinc (v := (y3 + 1)) (lv' := [(3, .int (y3 + 1)), (1, .long ((31 * y1) + v1.toInt64)), (0, .ref (E.1 0))]) X.1.1 X.1.2.1 dX8_digest_83 hl (k := 2) rfl rfl (by decide) rfl (fun ls hl => ?_)
    refine lv_goto (tgt := 55) X.1.1 X.1.2.1 dX8_digest_86 (by decide) ?_
    exact hrec55 ((31 * y1) + v1.toInt64) (y3 + 1) μ H locs ls hf hW hS (lv_sub hl [2, 1, 0] rfl)
theorem wfX8_digest_55 {p : Program} {l : Launch} {e : Env} {s : State} {m : MethodId} {args : Array Value} {below : List Frame} {meth : Method} {c : Code} {E : Gv} {F : Nat}  {r : Int64} {u : Mem} (X : Fx p m c cX8_digest 5 s args (Cond.code yX8_digest cX8_digest 5 (some .long)) "OvenHouse" meth (some .long) E)  (n : Nat) : ∀ (y1 : Int64) (y3 : Int32) (μ : Mem) (H : Heap) (locs : List Loc) (ls : Array Slot) (_ : fX8_digest_55 F   n y1 y3 μ = some (r, u)) (_ : Wo E μ H) (_ : va_S (AE E) s.heap H locs) (_ : lv_has ls 5 [(0, .ref (E.1 0)), (1, .long y1), (3, .int y3)]), W0 p l e rmX8_digest s m args below meth c H locs (QcL E r u) E (F0 m 55 ls []) := by
  induction n with
  | zero => intro y1 y3 μ H locs ls hf hW hS hl; cases hf
  | succ n ih => intro y1 y3 μ H locs ls hf hW hS hl; exact wfX8_digest_55_b X  _ ih y1 y3 μ H locs ls hf hW hS hl
set_option maxRecDepth 100000 in
set_option maxHeartbeats 4000000 in
theorem wfX8_digest_6_b {p : Program} {l : Launch} {e : Env} {s : State} {m : MethodId} {args : Array Value} {below : List Frame} {meth : Method} {c : Code} {E : Gv} {F : Nat}  {r : Int64} {u : Mem} (X : Fx p m c cX8_digest 5 s args (Cond.code yX8_digest cX8_digest 5 (some .long)) "OvenHouse" meth (some .long) E)  (rec6 : Int64 → Int32 → Mem → Option (Int64 × Mem)) (hrec6 : ∀ (y1 : Int64) (y3 : Int32) (μ : Mem) (H : Heap) (locs : List Loc) (ls : Array Slot), rec6 y1 y3 μ = some (r, u) → Wo E μ H → va_S (AE E) s.heap H locs → lv_has ls 5 [(0, .ref (E.1 0)), (1, .long y1), (3, .int y3)] → W0 p l e rmX8_digest s m args below meth c H locs (QcL E r u) E (F0 m 6 ls [])) (y1 : Int64) (y3 : Int32) (μ : Mem) (H : Heap) (locs : List Loc) (ls : Array Slot) (hf : fX8_digest_6_b F  rec6 y1 y3 μ = some (r, u)) (hW : Wo E μ H) (hS : va_S (AE E) s.heap H locs) (hl : lv_has ls 5 [(0, .ref (E.1 0)), (1, .long y1), (3, .int y3)]) : W0 p l e rmX8_digest s m args below meth c H locs (QcL E r u) E (F0 m 6 ls []) := by
  unfold fX8_digest_6_b at hf
  refine lv_iload_n X.1.1 X.1.2.1 dX8_digest_6 rfl (lv_at hl 2 rfl) ?_
  refine lv_aload_n X.1.1 X.1.2.1 dX8_digest_7 rfl (lv_at hl 0 rfl) ?_
  refine e_getr X hW (C := RX8) (T := TX8) (N := 11) (j := 1) rfl (by decide) inX8 (by decide) (by decide) rfl (t := 9) rfl rfl mw_2_13 dX8_digest_8 ?_
  refine e_geti X hW (C := RX3) (T := TX3) (N := 7) (j := 6) rfl (by decide) inX3 (by decide) (by decide) rfl rfl mw_1_72 dX8_digest_11 ?_
  refine lv_icmp_ge (tgt := 53) X.1.1 X.1.2.1 dX8_digest_14 (by decide) (fun c14 => ?_) (fun c14 => ?_)
  · rw [if_pos c14] at hf
    refine lv_iconst (v := 0) X.1.1 X.1.2.1 dX8_digest_53 (by decide) ?_
    refine lv_istore_n (lv' := [(3, .int 0), (0, .ref (E.1 0)), (1, .long y1)]) X.1.1 X.1.2.1 dX8_digest_54 rfl hl (by decide) rfl (fun ls hl => ?_)
    exact wfX8_digest_55 X  F y1 0 μ H locs ls hf hW hS (lv_sub hl [1, 2, 0] rfl)
  · rw [if_neg c14] at hf
    refine lv_iconst (v := 0) X.1.1 X.1.2.1 dX8_digest_17 (by decide) ?_
    refine lv_istore (lv' := [(4, .int 0), (0, .ref (E.1 0)), (1, .long y1), (3, .int y3)]) X.1.1 X.1.2.1 dX8_digest_18 hl (by decide) rfl (fun ls hl => ?_)
    exact wfX8_digest_20 X rec6 hrec6 F y1 y3 0 μ H locs ls hf hW hS (lv_sub hl [1, 2, 3, 0] rfl)
theorem wfX8_digest_6 {p : Program} {l : Launch} {e : Env} {s : State} {m : MethodId} {args : Array Value} {below : List Frame} {meth : Method} {c : Code} {E : Gv} {F : Nat}  {r : Int64} {u : Mem} (X : Fx p m c cX8_digest 5 s args (Cond.code yX8_digest cX8_digest 5 (some .long)) "OvenHouse" meth (some .long) E)  (n : Nat) : ∀ (y1 : Int64) (y3 : Int32) (μ : Mem) (H : Heap) (locs : List Loc) (ls : Array Slot) (_ : fX8_digest_6 F   n y1 y3 μ = some (r, u)) (_ : Wo E μ H) (_ : va_S (AE E) s.heap H locs) (_ : lv_has ls 5 [(0, .ref (E.1 0)), (1, .long y1), (3, .int y3)]), W0 p l e rmX8_digest s m args below meth c H locs (QcL E r u) E (F0 m 6 ls []) := by
  induction n with
  | zero => intro y1 y3 μ H locs ls hf hW hS hl; cases hf
  | succ n ih => intro y1 y3 μ H locs ls hf hW hS hl; exact wfX8_digest_6_b X  _ ih y1 y3 μ H locs ls hf hW hS hl
set_option maxRecDepth 100000 in
set_option maxHeartbeats 4000000 in
theorem ctfX8_digest {l : Launch} {E : Gv} (hD : Do E) (F : Nat)  (μ : Mem) : CtL l yX8_digest ((Cond.code yX8_digest cX8_digest 5 (some .long)) :: GG) rmX8_digest E [.ref (E.1 0)] μ (fX8_digest F μ) := by
  intro r u hf
  refine of_entry (cc := cX8_digest) (maxL := 5) (ret := (some .long)) (by decide +kernel) rfl hD (Nat.le_of_ble_eq_true rfl) (fun p e s m args below meth c X H locs hW hS ls hl => ?_)
  have hl : lv_has ls 5 [(0, .ref (E.1 0))] := hl
  unfold fX8_digest at hf
  refine lv_ldc2 X.1.1 X.1.2.1 X.1.2.2.2.1 (X.1.2.2.2.2 _ (List.mem_cons_of_mem _ mw_3_160)) dX8_digest_0 ?_
  refine lv_lstore_n (lv' := [(1, .long 17), (0, .ref (E.1 0))]) X.1.1 X.1.2.1 dX8_digest_3 rfl hl (by decide) rfl (fun ls hl => ?_)
  refine lv_iconst (v := 0) X.1.1 X.1.2.1 dX8_digest_4 (by decide) ?_
  refine lv_istore_n (lv' := [(3, .int 0), (1, .long 17), (0, .ref (E.1 0))]) X.1.1 X.1.2.1 dX8_digest_5 rfl hl (by decide) rfl (fun ls hl => ?_)
  exact wfX8_digest_6 X  F 17 0 μ H locs ls hf hW hS (lv_sub hl [2, 1, 0] rfl)
-- OvenHouseModel.in
def rmX9_in : Room := { frames := 0, cells := 0, slots := 0, locals := 0 }
set_option maxRecDepth 100000 in
set_option maxHeartbeats 4000000 in
theorem ctfX9_in {l : Launch} {E : Gv} (hD : Do E) (F : Nat) (x0 : Int64) (x2 : Int64) (x4 : Int64)  (μ : Mem) : CtI l yX9_in ((Cond.code yX9_in cX9_in 6 (some .boolean)) :: GG) rmX9_in E [.long x0, .long x2, .long x4] μ (fX9_in F x0 x2 x4 μ) := by
  intro r u hf
  refine of_entry (cc := cX9_in) (maxL := 6) (ret := (some .boolean)) (by decide +kernel) rfl hD (Nat.le_of_ble_eq_true rfl) (fun p e s m args below meth c X H locs hW hS ls hl => ?_)
  have hl : lv_has ls 6 [(0, .long x0), (2, .long x2), (4, .long x4)] := hl
  unfold fX9_in at hf
  refine lv_lload_n X.1.1 X.1.2.1 dX9_in_0 rfl (lv_at hl 0 rfl) ?_
  refine lv_lload_n X.1.1 X.1.2.1 dX9_in_1 rfl (lv_at hl 1 rfl) ?_
  refine W.lcmp X.1.1 X.1.2.1 dX9_in_2 ?_
  refine lv_if_lt (tgt := 17) X.1.1 X.1.2.1 dX9_in_3 (by decide) (fun c3 => ?_) (fun c3 => ?_)
  · replace c3 := lc_lt.mp c3
    rw [if_pos c3] at hf
    refine lv_iconst (v := 0) X.1.1 X.1.2.1 dX9_in_17 (by decide) ?_
    exact e_zret X hW hS hf dX9_in_18
  · replace c3 := mt lc_lt.mpr c3
    rw [if_neg c3] at hf
    refine lv_lload_n X.1.1 X.1.2.1 dX9_in_6 rfl (lv_at hl 0 rfl) ?_
    refine lv_lload X.1.1 X.1.2.1 dX9_in_7 (lv_at hl 2 rfl) ?_
    refine W.lcmp X.1.1 X.1.2.1 dX9_in_9 ?_
    refine lv_if_gt (tgt := 17) X.1.1 X.1.2.1 dX9_in_10 (by decide) (fun c10 => ?_) (fun c10 => ?_)
    · replace c10 := lc_gt.mp c10
      rw [if_pos c10] at hf
      refine lv_iconst (v := 0) X.1.1 X.1.2.1 dX9_in_17 (by decide) ?_
      exact e_zret X hW hS hf dX9_in_18
    · replace c10 := mt lc_gt.mpr c10
      rw [if_neg c10] at hf
      refine lv_iconst (v := 1) X.1.1 X.1.2.1 dX9_in_13 (by decide) ?_
      refine lv_goto (tgt := 18) X.1.1 X.1.2.1 dX9_in_14 (by decide) ?_
      exact e_zret X hW hS hf dX9_in_18
-- OvenHouseModel.met
def rmX9_met : Room := { frames := 0, cells := 0, slots := 0, locals := 0 }
set_option maxRecDepth 100000 in
set_option maxHeartbeats 4000000 in
theorem ctfX9_met {l : Launch} {E : Gv} (hD : Do E) (F : Nat) (x1 : Int32)  (μ : Mem) : CtI l yX9_met ((Cond.code yX9_met cX9_met 2 (some .int)) :: GG) rmX9_met E [.ref (E.1 89), .int x1] μ (fX9_met F x1 μ) := by
  intro r u hf
  refine of_entry (cc := cX9_met) (maxL := 2) (ret := (some .int)) (by decide +kernel) rfl hD (Nat.le_of_ble_eq_true rfl) (fun p e s m args below meth c X H locs hW hS ls hl => ?_)
  have hl : lv_has ls 2 [(0, .ref (E.1 89)), (1, .int x1)] := hl
  unfold fX9_met at hf
  refine lv_aload_n X.1.1 X.1.2.1 dX9_met_0 rfl (lv_at hl 0 rfl) ?_
  refine lv_iload_n X.1.1 X.1.2.1 dX9_met_1 rfl (lv_at hl 1 rfl) ?_
  refine e_put X hW hS (C := RX9) (T := TX9) (N := 35) (j := 0) (tyF := tyX9) rfl (by decide) inX9 tyX9_ok nmX9 (by decide) (by decide) rfl rfl mw_3_169 rfl rfl rfl dX9_met_2 hf (fun m1 H locs hf hW hS => ?_)
  refine lv_bipush (v := (-10)) X.1.1 X.1.2.1 dX9_met_5 (by decide) ?_
  refine lv_iload_n X.1.1 X.1.2.1 dX9_met_7 rfl (lv_at hl 1 rfl) ?_
  refine lv_isub X.1.1 X.1.2.1 dX9_met_8 ?_
  exact e_iret X hW hS hf dX9_met_9
-- OvenHouseModel.isSheet
def rmX9_isSheet : Room := { frames := 1, cells := 0, slots := 0, locals := 25 }
set_option maxRecDepth 100000 in
set_option maxHeartbeats 4000000 in
theorem ctfX9_isSheet {l : Launch} {E : Gv} (hD : Do E) (F : Nat) (x0 : Int32)  (μ : Mem) : CtI l yX9_isSheet ((Cond.code yX9_isSheet cX9_isSheet 1 (some .boolean)) :: GG) rmX9_isSheet E [.int x0] μ (fX9_isSheet F x0 μ) := by
  intro r u hf
  refine of_entry (cc := cX9_isSheet) (maxL := 1) (ret := (some .boolean)) (by decide +kernel) rfl hD (Nat.le_of_ble_eq_true rfl) (fun p e s m args below meth c X H locs hW hS ls hl => ?_)
  have hl : lv_has ls 1 [(0, .int x0)] := hl
  unfold fX9_isSheet at hf
  refine lv_iload_n X.1.1 X.1.2.1 dX9_isSheet_0 rfl (lv_at hl 0 rfl) ?_
  refine lv_i2l X.1.1 X.1.2.1 dX9_isSheet_1 rfl ?_
  refine lv_lconst (v := 0) X.1.1 X.1.2.1 dX9_isSheet_2 (by decide) ?_
  refine lv_ldc2 X.1.1 X.1.2.1 X.1.2.2.2.1 (X.1.2.2.2.2 _ (List.mem_cons_of_mem _ mw_4_42)) dX9_isSheet_3 ?_
  refine e_si (rest := []) (As := [.long x0.toInt64, .long 0, .long 3]) X hl.1 hW hS (ctfX9_in X.2.2.2.2 F x0.toInt64 0 3 μ) (cwS (rm := rmX9_in) 3 X.1.2.2.2.2 (gd_S mw_4_43 mw_4_44 mw_1_11 mw_4_45) rfl rfl rfl (by decide +kernel) ⟨Nat.le_of_ble_eq_true rfl, Nat.le_of_ble_eq_true rfl⟩) rfl rfl (Nat.le_of_ble_eq_true rfl) dX9_isSheet_6 ⟨Nat.zero_le _, Nat.zero_le _⟩ hf (fun r2 m1 H locs hf hW hS => ?_)
  exact e_zret X hW hS hf dX9_isSheet_9
-- OvenHouseModel.sheet
def rmX9_sheet : Room := { frames := 2, cells := 0, slots := 0, locals := 45 }
set_option maxRecDepth 100000 in
set_option maxHeartbeats 4000000 in
theorem wfX9_sheet_55_b {p : Program} {l : Launch} {e : Env} {s : State} {m : MethodId} {args : Array Value} {below : List Frame} {meth : Method} {c : Code} {E : Gv} {F : Nat}  {r : Int32} {u : Mem} (X : Fx p m c cX9_sheet 5 s args (Cond.code yX9_sheet cX9_sheet 5 (some .int)) "OvenHouseModel" meth (some .int) E)  (rec55 : Int32 → Int32 → Int32 → Mem → Option (Int32 × Mem)) (hrec55 : ∀ (y1 : Int32) (y3 : Int32) (y4 : Int32) (μ : Mem) (H : Heap) (locs : List Loc) (ls : Array Slot), rec55 y1 y3 y4 μ = some (r, u) → Wo E μ H → va_S (AE E) s.heap H locs → lv_has ls 5 [(0, .ref (E.1 89)), (1, .int y1), (3, .int y3), (4, .int y4)] → W0 p l e rmX9_sheet s m args below meth c H locs (QcI E r u) E (F0 m 55 ls [])) (y1 : Int32) (y3 : Int32) (y4 : Int32) (μ : Mem) (H : Heap) (locs : List Loc) (ls : Array Slot) (hf : fX9_sheet_55_b F  rec55 y1 y3 y4 μ = some (r, u)) (hW : Wo E μ H) (hS : va_S (AE E) s.heap H locs) (hl : lv_has ls 5 [(0, .ref (E.1 89)), (1, .int y1), (3, .int y3), (4, .int y4)]) : W0 p l e rmX9_sheet s m args below meth c H locs (QcI E r u) E (F0 m 55 ls []) := by
  unfold fX9_sheet_55_b at hf
  refine lv_iload X.1.1 X.1.2.1 dX9_sheet_55 (lv_at hl 3 rfl) ?_
  refine lv_iload_n X.1.1 X.1.2.1 dX9_sheet_57 rfl (lv_at hl 2 rfl) ?_
  refine lv_icmp_ge (tgt := 80) X.1.1 X.1.2.1 dX9_sheet_58 (by decide) (fun c58 => ?_) (fun c58 => ?_)
  · rw [if_pos c58] at hf
    refine lv_iload_n X.1.1 X.1.2.1 dX9_sheet_80 rfl (lv_at hl 2 rfl) ?_
    exact e_iret X hW hS hf dX9_sheet_81
  · rw [if_neg c58] at hf
    refine lv_aload_n X.1.1 X.1.2.1 dX9_sheet_61 rfl (lv_at hl 0 rfl) ?_
    refine e_getr X hW (C := RX9) (T := TX9) (N := 35) (j := 3) rfl (by decide) inX9 (by decide) (by decide) rfl (t := 92) rfl rfl mw_3_172 dX9_sheet_62 ?_
    refine lv_bipush (v := 40) X.1.1 X.1.2.1 dX9_sheet_65 (by decide) ?_
    refine lv_iload_n X.1.1 X.1.2.1 dX9_sheet_67 rfl (lv_at hl 1 rfl) ?_
    refine lv_imul X.1.1 X.1.2.1 dX9_sheet_68 ?_
    refine lv_iload X.1.1 X.1.2.1 dX9_sheet_69 (lv_at hl 3 rfl) ?_
    refine lv_iadd X.1.1 X.1.2.1 dX9_sheet_71 ?_
    refine lv_iconst (v := 0) X.1.1 X.1.2.1 dX9_sheet_72 (by decide) ?_
    refine e_ist X hW hS (by decide) rfl dX9_sheet_73 hf (fun m9 H locs hf hW hS => ?_)
    refine lv_iinc (v := (y4 + 1)) (lv' := [(4, .int (y4 + 1)), (0, .ref (E.1 89)), (1, .int y1), (3, .int y3)]) X.1.1 X.1.2.1 dX9_sheet_74 hl (k := 3) rfl rfl (by decide) rfl (fun ls hl => ?_)
    refine lv_goto (tgt := 55) X.1.1 X.1.2.1 dX9_sheet_77 (by decide) ?_
    exact hrec55 y1 y3 (y4 + 1) m9 H locs ls hf hW hS (lv_sub hl [1, 2, 3, 0] rfl)
theorem wfX9_sheet_55 {p : Program} {l : Launch} {e : Env} {s : State} {m : MethodId} {args : Array Value} {below : List Frame} {meth : Method} {c : Code} {E : Gv} {F : Nat}  {r : Int32} {u : Mem} (X : Fx p m c cX9_sheet 5 s args (Cond.code yX9_sheet cX9_sheet 5 (some .int)) "OvenHouseModel" meth (some .int) E)  (n : Nat) : ∀ (y1 : Int32) (y3 : Int32) (y4 : Int32) (μ : Mem) (H : Heap) (locs : List Loc) (ls : Array Slot) (_ : fX9_sheet_55 F   n y1 y3 y4 μ = some (r, u)) (_ : Wo E μ H) (_ : va_S (AE E) s.heap H locs) (_ : lv_has ls 5 [(0, .ref (E.1 89)), (1, .int y1), (3, .int y3), (4, .int y4)]), W0 p l e rmX9_sheet s m args below meth c H locs (QcI E r u) E (F0 m 55 ls []) := by
  induction n with
  | zero => intro y1 y3 y4 μ H locs ls hf hW hS hl; cases hf
  | succ n ih => intro y1 y3 y4 μ H locs ls hf hW hS hl; exact wfX9_sheet_55_b X  _ ih y1 y3 y4 μ H locs ls hf hW hS hl
set_option maxRecDepth 100000 in
set_option maxHeartbeats 4000000 in
theorem ctfX9_sheet {l : Launch} {E : Gv} (hD : Do E) (F : Nat) (x1 : Int32) (x2 : Int32) (x3 : Int32)  (μ : Mem) : CtI l yX9_sheet ((Cond.code yX9_sheet cX9_sheet 5 (some .int)) :: GG) rmX9_sheet E [.ref (E.1 89), .int x1, .int x2, .int x3] μ (fX9_sheet F x1 x2 x3 μ) := by
  intro r u hf
  refine of_entry (cc := cX9_sheet) (maxL := 5) (ret := (some .int)) (by decide +kernel) rfl hD (Nat.le_of_ble_eq_true rfl) (fun p e s m args below meth c X H locs hW hS ls hl => ?_)
  have hl : lv_has ls 5 [(0, .ref (E.1 89)), (1, .int x1), (2, .int x2), (3, .int x3)] := hl
  unfold fX9_sheet at hf
  refine lv_iload_n X.1.1 X.1.2.1 dX9_sheet_0 rfl (lv_at hl 1 rfl) ?_
  refine e_si (rest := []) (As := [.int x1]) X hl.1 hW hS (ctfX9_isSheet X.2.2.2.2 F x1 μ) (cwS (rm := rmX9_isSheet) 1 X.1.2.2.2.2 (gd_S mw_4_39 mw_4_40 mw_1_11 mw_4_41) rfl rfl rfl (by decide +kernel) ⟨Nat.le_of_ble_eq_true rfl, Nat.le_of_ble_eq_true rfl⟩) rfl rfl (Nat.le_of_ble_eq_true rfl) dX9_sheet_1 ⟨Nat.zero_le _, Nat.zero_le _⟩ hf (fun r2 m1 H locs hf hW hS => ?_)
  refine lv_if_eq (tgt := 25) X.1.1 X.1.2.1 dX9_sheet_4 (by decide) (fun c4 => ?_) (fun c4 => ?_)
  · rw [if_pos c4] at hf
    refine lv_bipush (v := (-2)) X.1.1 X.1.2.1 dX9_sheet_25 (by decide) ?_
    exact e_iret X hW hS hf dX9_sheet_27
  · rw [if_neg c4] at hf
    refine lv_iload_n X.1.1 X.1.2.1 dX9_sheet_7 rfl (lv_at hl 2 rfl) ?_
    refine lv_i2l X.1.1 X.1.2.1 dX9_sheet_8 rfl ?_
    refine lv_lconst (v := 0) X.1.1 X.1.2.1 dX9_sheet_9 (by decide) ?_
    refine lv_ldc2 X.1.1 X.1.2.1 X.1.2.2.2.1 (X.1.2.2.2.2 _ (List.mem_cons_of_mem _ mw_4_46)) dX9_sheet_10 ?_
    refine e_si (rest := []) (As := [.long x2.toInt64, .long 0, .long 2]) X hl.1 hW hS (ctfX9_in X.2.2.2.2 F x2.toInt64 0 2 m1) (cwS (rm := rmX9_in) 3 X.1.2.2.2.2 (gd_S mw_4_43 mw_4_44 mw_1_11 mw_4_45) rfl rfl rfl (by decide +kernel) ⟨Nat.le_of_ble_eq_true rfl, Nat.le_of_ble_eq_true rfl⟩) rfl rfl (Nat.le_of_ble_eq_true rfl) dX9_sheet_13 ⟨Nat.zero_le _, Nat.zero_le _⟩ hf (fun r4 m3 H locs hf hW hS => ?_)
    refine lv_if_eq (tgt := 25) X.1.1 X.1.2.1 dX9_sheet_16 (by decide) (fun c16 => ?_) (fun c16 => ?_)
    · rw [if_pos c16] at hf
      refine lv_bipush (v := (-2)) X.1.1 X.1.2.1 dX9_sheet_25 (by decide) ?_
      exact e_iret X hW hS hf dX9_sheet_27
    · rw [if_neg c16] at hf
      refine lv_iload_n X.1.1 X.1.2.1 dX9_sheet_19 rfl (lv_at hl 3 rfl) ?_
      refine lv_bipush (v := 40) X.1.1 X.1.2.1 dX9_sheet_20 (by decide) ?_
      refine lv_icmp_le (tgt := 28) X.1.1 X.1.2.1 dX9_sheet_22 (by decide) (fun c22 => ?_) (fun c22 => ?_)
      · rw [if_pos c22] at hf
        refine lv_iload_n X.1.1 X.1.2.1 dX9_sheet_28 rfl (lv_at hl 3 rfl) ?_
        refine lv_if_ge (tgt := 38) X.1.1 X.1.2.1 dX9_sheet_29 (by decide) (fun c29 => ?_) (fun c29 => ?_)
        · rw [if_pos c29] at hf
          refine lv_aload_n X.1.1 X.1.2.1 dX9_sheet_38 rfl (lv_at hl 0 rfl) ?_
          refine e_getr X hW (C := RX9) (T := TX9) (N := 35) (j := 1) rfl (by decide) inX9 (by decide) (by decide) rfl (t := 90) rfl rfl mw_3_170 dX9_sheet_39 ?_
          refine lv_iload_n X.1.1 X.1.2.1 dX9_sheet_42 rfl (lv_at hl 1 rfl) ?_
          refine lv_iload_n X.1.1 X.1.2.1 dX9_sheet_43 rfl (lv_at hl 2 rfl) ?_
          refine e_ist X hW hS (by decide) rfl dX9_sheet_44 hf (fun m5 H locs hf hW hS => ?_)
          refine lv_aload_n X.1.1 X.1.2.1 dX9_sheet_45 rfl (lv_at hl 0 rfl) ?_
          refine e_getr X hW (C := RX9) (T := TX9) (N := 35) (j := 2) rfl (by decide) inX9 (by decide) (by decide) rfl (t := 91) rfl rfl mw_3_171 dX9_sheet_46 ?_
          refine lv_iload_n X.1.1 X.1.2.1 dX9_sheet_49 rfl (lv_at hl 1 rfl) ?_
          refine lv_iload_n X.1.1 X.1.2.1 dX9_sheet_50 rfl (lv_at hl 3 rfl) ?_
          refine e_ist X hW hS (by decide) rfl dX9_sheet_51 hf (fun m6 H locs hf hW hS => ?_)
          refine lv_iconst (v := 0) X.1.1 X.1.2.1 dX9_sheet_52 (by decide) ?_
          refine lv_istore (lv' := [(4, .int 0), (0, .ref (E.1 89)), (1, .int x1), (2, .int x2), (3, .int x3)]) X.1.1 X.1.2.1 dX9_sheet_53 hl (by decide) rfl (fun ls hl => ?_)
          exact wfX9_sheet_55 X  F x1 x3 0 m6 H locs ls hf hW hS (lv_sub hl [1, 2, 4, 0] rfl)
        · rw [if_neg c29] at hf
          refine lv_aload_n X.1.1 X.1.2.1 dX9_sheet_32 rfl (lv_at hl 0 rfl) ?_
          refine lv_iconst (v := 5) X.1.1 X.1.2.1 dX9_sheet_33 (by decide) ?_
          refine e_vi (rest := []) (As := [.int 5]) X hl.1 hW hS (C := RX9) (T := TX9) (N := 35) rfl (by decide) (ctfX9_met X.2.2.2.2 F 5 m3) (cwV (rm := rmX9_met) 1 X.1.2.2.2.2 (gd_V mw_4_47 mw_4_49 mw_0_15 mw_1_11 mw_4_50) rfl rfl rfl (by decide +kernel) ⟨Nat.le_of_ble_eq_true rfl, Nat.le_of_ble_eq_true rfl⟩) rfl rfl (Nat.le_of_ble_eq_true rfl) dX9_sheet_34 ⟨Nat.zero_le _, Nat.zero_le _⟩ hf (fun r8 m7 H locs hf hW hS => ?_)
          exact e_iret X hW hS hf dX9_sheet_37
      · rw [if_neg c22] at hf
        refine lv_bipush (v := (-2)) X.1.1 X.1.2.1 dX9_sheet_25 (by decide) ?_
        exact e_iret X hW hS hf dX9_sheet_27
-- OvenHouseModel.lose
def rmX9_lose : Room := { frames := 2, cells := 0, slots := 0, locals := 45 }
set_option maxRecDepth 100000 in
set_option maxHeartbeats 4000000 in
theorem ctfX9_lose {l : Launch} {E : Gv} (hD : Do E) (F : Nat) (x1 : Int32)  (μ : Mem) : CtI l yX9_lose ((Cond.code yX9_lose cX9_lose 2 (some .int)) :: GG) rmX9_lose E [.ref (E.1 89), .int x1] μ (fX9_lose F x1 μ) := by
  intro r u hf
  refine of_entry (cc := cX9_lose) (maxL := 2) (ret := (some .int)) (by decide +kernel) rfl hD (Nat.le_of_ble_eq_true rfl) (fun p e s m args below meth c X H locs hW hS ls hl => ?_)
  have hl : lv_has ls 2 [(0, .ref (E.1 89)), (1, .int x1)] := hl
  unfold fX9_lose at hf
  refine lv_iload_n X.1.1 X.1.2.1 dX9_lose_0 rfl (lv_at hl 1 rfl) ?_
  refine e_si (rest := []) (As := [.int x1]) X hl.1 hW hS (ctfX9_isSheet X.2.2.2.2 F x1 μ) (cwS (rm := rmX9_isSheet) 1 X.1.2.2.2.2 (gd_S mw_4_39 mw_4_40 mw_1_11 mw_4_41) rfl rfl rfl (by decide +kernel) ⟨Nat.le_of_ble_eq_true rfl, Nat.le_of_ble_eq_true rfl⟩) rfl rfl (Nat.le_of_ble_eq_true rfl) dX9_lose_1 ⟨Nat.zero_le _, Nat.zero_le _⟩ hf (fun r2 m1 H locs hf hW hS => ?_)
  refine lv_if_ne (tgt := 10) X.1.1 X.1.2.1 dX9_lose_4 (by decide) (fun c4 => ?_) (fun c4 => ?_)
  · rw [if_neg c4] at hf
    refine lv_aload_n X.1.1 X.1.2.1 dX9_lose_10 rfl (lv_at hl 0 rfl) ?_
    refine e_getr X hW (C := RX9) (T := TX9) (N := 35) (j := 1) rfl (by decide) inX9 (by decide) (by decide) rfl (t := 90) rfl rfl mw_3_170 dX9_lose_11 ?_
    refine lv_iload_n X.1.1 X.1.2.1 dX9_lose_14 rfl (lv_at hl 1 rfl) ?_
    refine e_ild X hW (by decide) rfl dX9_lose_15 hf (fun v3 hf => ?_)
    refine lv_if_ge (tgt := 25) X.1.1 X.1.2.1 dX9_lose_16 (by decide) (fun c16 => ?_) (fun c16 => ?_)
    · rw [if_pos c16] at hf
      refine lv_aload_n X.1.1 X.1.2.1 dX9_lose_25 rfl (lv_at hl 0 rfl) ?_
      refine e_getr X hW (C := RX9) (T := TX9) (N := 35) (j := 1) rfl (by decide) inX9 (by decide) (by decide) rfl (t := 90) rfl rfl mw_3_170 dX9_lose_26 ?_
      refine lv_iload_n X.1.1 X.1.2.1 dX9_lose_29 rfl (lv_at hl 1 rfl) ?_
      refine lv_iconst (v := (-1)) X.1.1 X.1.2.1 dX9_lose_30 (by decide) ?_
      refine e_ist X hW hS (by decide) rfl dX9_lose_31 hf (fun m4 H locs hf hW hS => ?_)
      refine lv_aload_n X.1.1 X.1.2.1 dX9_lose_32 rfl (lv_at hl 0 rfl) ?_
      refine e_getr X hW (C := RX9) (T := TX9) (N := 35) (j := 2) rfl (by decide) inX9 (by decide) (by decide) rfl (t := 91) rfl rfl mw_3_171 dX9_lose_33 ?_
      refine lv_iload_n X.1.1 X.1.2.1 dX9_lose_36 rfl (lv_at hl 1 rfl) ?_
      refine e_ild X hW (by decide) rfl dX9_lose_37 hf (fun v5 hf => ?_)
      exact e_iret X hW hS hf dX9_lose_38
    · rw [if_neg c16] at hf
      refine lv_aload_n X.1.1 X.1.2.1 dX9_lose_19 rfl (lv_at hl 0 rfl) ?_
      refine lv_iconst (v := 1) X.1.1 X.1.2.1 dX9_lose_20 (by decide) ?_
      refine e_vi (rest := []) (As := [.int 1]) X hl.1 hW hS (C := RX9) (T := TX9) (N := 35) rfl (by decide) (ctfX9_met X.2.2.2.2 F 1 m1) (cwV (rm := rmX9_met) 1 X.1.2.2.2.2 (gd_V mw_4_47 mw_4_49 mw_0_15 mw_1_11 mw_4_50) rfl rfl rfl (by decide +kernel) ⟨Nat.le_of_ble_eq_true rfl, Nat.le_of_ble_eq_true rfl⟩) rfl rfl (Nat.le_of_ble_eq_true rfl) dX9_lose_21 ⟨Nat.zero_le _, Nat.zero_le _⟩ hf (fun r7 m6 H locs hf hW hS => ?_)
      exact e_iret X hW hS hf dX9_lose_24
  · rw [if_pos c4] at hf
    refine lv_bipush (v := (-2)) X.1.1 X.1.2.1 dX9_lose_7 (by decide) ?_
    exact e_iret X hW hS hf dX9_lose_9
-- OvenHouseModel.lacks
def rmX9_lacks : Room := { frames := 1, cells := 0, slots := 0, locals := 25 }
set_option maxRecDepth 100000 in
set_option maxHeartbeats 4000000 in
theorem ctfX9_lacks {l : Launch} {E : Gv} (hD : Do E) (F : Nat) (x1 : Int32) (x2 : Int32) (x3 : Int32)  (μ : Mem) : CtI l yX9_lacks ((Cond.code yX9_lacks cX9_lacks 4 (some .int)) :: GG) rmX9_lacks E [.ref (E.1 89), .int x1, .int x2, .int x3] μ (fX9_lacks F x1 x2 x3 μ) := by
  intro r u hf
  refine of_entry (cc := cX9_lacks) (maxL := 4) (ret := (some .int)) (by decide +kernel) rfl hD (Nat.le_of_ble_eq_true rfl) (fun p e s m args below meth c X H locs hW hS ls hl => ?_)
  have hl : lv_has ls 4 [(0, .ref (E.1 89)), (1, .int x1), (2, .int x2), (3, .int x3)] := hl
  unfold fX9_lacks at hf
  refine lv_aload_n X.1.1 X.1.2.1 dX9_lacks_0 rfl (lv_at hl 0 rfl) ?_
  refine e_getr X hW (C := RX9) (T := TX9) (N := 35) (j := 1) rfl (by decide) inX9 (by decide) (by decide) rfl (t := 90) rfl rfl mw_3_170 dX9_lacks_1 ?_
  refine lv_iload_n X.1.1 X.1.2.1 dX9_lacks_4 rfl (lv_at hl 1 rfl) ?_
  refine e_ild X hW (by decide) rfl dX9_lacks_5 hf (fun v1 hf => ?_)
  refine lv_if_ge (tgt := 15) X.1.1 X.1.2.1 dX9_lacks_6 (by decide) (fun c6 => ?_) (fun c6 => ?_)
  · rw [if_pos c6] at hf
    refine lv_aload_n X.1.1 X.1.2.1 dX9_lacks_15 rfl (lv_at hl 0 rfl) ?_
    refine e_getr X hW (C := RX9) (T := TX9) (N := 35) (j := 1) rfl (by decide) inX9 (by decide) (by decide) rfl (t := 90) rfl rfl mw_3_170 dX9_lacks_16 ?_
    refine lv_iload_n X.1.1 X.1.2.1 dX9_lacks_19 rfl (lv_at hl 1 rfl) ?_
    refine e_ild X hW (by decide) rfl dX9_lacks_20 hf (fun v2 hf => ?_)
    refine lv_iload_n X.1.1 X.1.2.1 dX9_lacks_21 rfl (lv_at hl 2 rfl) ?_
    refine lv_icmp_eq (tgt := 31) X.1.1 X.1.2.1 dX9_lacks_22 (by decide) (fun c22 => ?_) (fun c22 => ?_)
    · rw [if_pos c22] at hf
      refine lv_iload_n X.1.1 X.1.2.1 dX9_lacks_31 rfl (lv_at hl 3 rfl) ?_
      refine lv_i2l X.1.1 X.1.2.1 dX9_lacks_32 rfl ?_
      refine lv_lconst (v := 0) X.1.1 X.1.2.1 dX9_lacks_33 (by decide) ?_
      refine lv_aload_n X.1.1 X.1.2.1 dX9_lacks_34 rfl (lv_at hl 0 rfl) ?_
      refine e_getr X hW (C := RX9) (T := TX9) (N := 35) (j := 2) rfl (by decide) inX9 (by decide) (by decide) rfl (t := 91) rfl rfl mw_3_171 dX9_lacks_35 ?_
      refine lv_iload_n X.1.1 X.1.2.1 dX9_lacks_38 rfl (lv_at hl 1 rfl) ?_
      refine e_ild X hW (by decide) rfl dX9_lacks_39 hf (fun v3 hf => ?_)
      refine lv_iconst (v := 1) X.1.1 X.1.2.1 dX9_lacks_40 (by decide) ?_
      refine lv_isub X.1.1 X.1.2.1 dX9_lacks_41 ?_
      refine lv_i2l X.1.1 X.1.2.1 dX9_lacks_42 rfl ?_
      refine e_si (rest := []) (As := [.long x3.toInt64, .long 0, .long ((v3 - 1).toInt64)]) X hl.1 hW hS (ctfX9_in X.2.2.2.2 F x3.toInt64 0 ((v3 - 1).toInt64) μ) (cwS (rm := rmX9_in) 3 X.1.2.2.2.2 (gd_S mw_4_43 mw_4_44 mw_1_11 mw_4_45) rfl rfl rfl (by decide +kernel) ⟨Nat.le_of_ble_eq_true rfl, Nat.le_of_ble_eq_true rfl⟩) rfl rfl (Nat.le_of_ble_eq_true rfl) dX9_lacks_43 ⟨Nat.zero_le _, Nat.zero_le _⟩ hf (fun r5 m4 H locs hf hW hS => ?_)
      refine lv_if_eq (tgt := 53) X.1.1 X.1.2.1 dX9_lacks_46 (by decide) (fun c46 => ?_) (fun c46 => ?_)
      · rw [if_pos c46] at hf
        refine lv_aload_n X.1.1 X.1.2.1 dX9_lacks_53 rfl (lv_at hl 0 rfl) ?_
        refine lv_iconst (v := 2) X.1.1 X.1.2.1 dX9_lacks_54 (by decide) ?_
        refine e_vi (rest := []) (As := [.int 2]) X hl.1 hW hS (C := RX9) (T := TX9) (N := 35) rfl (by decide) (ctfX9_met X.2.2.2.2 F 2 m4) (cwV (rm := rmX9_met) 1 X.1.2.2.2.2 (gd_V mw_4_47 mw_4_49 mw_0_15 mw_1_11 mw_4_50) rfl rfl rfl (by decide +kernel) ⟨Nat.le_of_ble_eq_true rfl, Nat.le_of_ble_eq_true rfl⟩) rfl rfl (Nat.le_of_ble_eq_true rfl) dX9_lacks_55 ⟨Nat.zero_le _, Nat.zero_le _⟩ hf (fun r7 m6 H locs hf hW hS => ?_)
        exact e_iret X hW hS hf dX9_lacks_58
      · rw [if_neg c46] at hf
        refine lv_iconst (v := 0) X.1.1 X.1.2.1 dX9_lacks_49 (by decide) ?_
        refine lv_goto (tgt := 58) X.1.1 X.1.2.1 dX9_lacks_50 (by decide) ?_
        exact e_iret X hW hS hf dX9_lacks_58
    · rw [if_neg c22] at hf
      refine lv_aload_n X.1.1 X.1.2.1 dX9_lacks_25 rfl (lv_at hl 0 rfl) ?_
      refine lv_iconst (v := 3) X.1.1 X.1.2.1 dX9_lacks_26 (by decide) ?_
      refine e_vi (rest := []) (As := [.int 3]) X hl.1 hW hS (C := RX9) (T := TX9) (N := 35) rfl (by decide) (ctfX9_met X.2.2.2.2 F 3 μ) (cwV (rm := rmX9_met) 1 X.1.2.2.2.2 (gd_V mw_4_47 mw_4_49 mw_0_15 mw_1_11 mw_4_50) rfl rfl rfl (by decide +kernel) ⟨Nat.le_of_ble_eq_true rfl, Nat.le_of_ble_eq_true rfl⟩) rfl rfl (Nat.le_of_ble_eq_true rfl) dX9_lacks_27 ⟨Nat.zero_le _, Nat.zero_le _⟩ hf (fun r9 m8 H locs hf hW hS => ?_)
      exact e_iret X hW hS hf dX9_lacks_30
  · rw [if_neg c6] at hf
    refine lv_aload_n X.1.1 X.1.2.1 dX9_lacks_9 rfl (lv_at hl 0 rfl) ?_
    refine lv_iconst (v := 1) X.1.1 X.1.2.1 dX9_lacks_10 (by decide) ?_
    refine e_vi (rest := []) (As := [.int 1]) X hl.1 hW hS (C := RX9) (T := TX9) (N := 35) rfl (by decide) (ctfX9_met X.2.2.2.2 F 1 μ) (cwV (rm := rmX9_met) 1 X.1.2.2.2.2 (gd_V mw_4_47 mw_4_49 mw_0_15 mw_1_11 mw_4_50) rfl rfl rfl (by decide +kernel) ⟨Nat.le_of_ble_eq_true rfl, Nat.le_of_ble_eq_true rfl⟩) rfl rfl (Nat.le_of_ble_eq_true rfl) dX9_lacks_11 ⟨Nat.zero_le _, Nat.zero_le _⟩ hf (fun r11 m10 H locs hf hW hS => ?_)
    exact e_iret X hW hS hf dX9_lacks_14
-- OvenHouseModel.put
def rmX9_put : Room := { frames := 2, cells := 0, slots := 0, locals := 48 }
set_option maxRecDepth 100000 in
set_option maxHeartbeats 4000000 in
theorem ctfX9_put {l : Launch} {E : Gv} (hD : Do E) (F : Nat) (x1 : Int32) (x2 : Int32) (x3 : Int32) (x4 : Int32)  (μ : Mem) : CtI l yX9_put ((Cond.code yX9_put cX9_put 6 (some .int)) :: GG) rmX9_put E [.ref (E.1 89), .int x1, .int x2, .int x3, .int x4] μ (fX9_put F x1 x2 x3 x4 μ) := by
  intro r u hf
  refine of_entry (cc := cX9_put) (maxL := 6) (ret := (some .int)) (by decide +kernel) rfl hD (Nat.le_of_ble_eq_true rfl) (fun p e s m args below meth c X H locs hW hS ls hl => ?_)
  have hl : lv_has ls 6 [(0, .ref (E.1 89)), (1, .int x1), (2, .int x2), (3, .int x3), (4, .int x4)] := hl
  unfold fX9_put at hf
  refine lv_iload_n X.1.1 X.1.2.1 dX9_put_0 rfl (lv_at hl 1 rfl) ?_
  refine e_si (rest := []) (As := [.int x1]) X hl.1 hW hS (ctfX9_isSheet X.2.2.2.2 F x1 μ) (cwS (rm := rmX9_isSheet) 1 X.1.2.2.2.2 (gd_S mw_4_39 mw_4_40 mw_1_11 mw_4_41) rfl rfl rfl (by decide +kernel) ⟨Nat.le_of_ble_eq_true rfl, Nat.le_of_ble_eq_true rfl⟩) rfl rfl (Nat.le_of_ble_eq_true rfl) dX9_put_1 ⟨Nat.zero_le _, Nat.zero_le _⟩ hf (fun r2 m1 H locs hf hW hS => ?_)
  refine lv_if_eq (tgt := 19) X.1.1 X.1.2.1 dX9_put_4 (by decide) (fun c4 => ?_) (fun c4 => ?_)
  · rw [if_pos c4] at hf
    refine lv_bipush (v := (-2)) X.1.1 X.1.2.1 dX9_put_19 (by decide) ?_
    exact e_iret X hW hS hf dX9_put_21
  · rw [if_neg c4] at hf
    refine lv_iload_n X.1.1 X.1.2.1 dX9_put_7 rfl (lv_at hl 2 rfl) ?_
    refine lv_i2l X.1.1 X.1.2.1 dX9_put_8 rfl ?_
    refine lv_lconst (v := 0) X.1.1 X.1.2.1 dX9_put_9 (by decide) ?_
    refine lv_ldc2 X.1.1 X.1.2.1 X.1.2.2.2.1 (X.1.2.2.2.2 _ (List.mem_cons_of_mem _ mw_4_46)) dX9_put_10 ?_
    refine e_si (rest := []) (As := [.long x2.toInt64, .long 0, .long 2]) X hl.1 hW hS (ctfX9_in X.2.2.2.2 F x2.toInt64 0 2 m1) (cwS (rm := rmX9_in) 3 X.1.2.2.2.2 (gd_S mw_4_43 mw_4_44 mw_1_11 mw_4_45) rfl rfl rfl (by decide +kernel) ⟨Nat.le_of_ble_eq_true rfl, Nat.le_of_ble_eq_true rfl⟩) rfl rfl (Nat.le_of_ble_eq_true rfl) dX9_put_13 ⟨Nat.zero_le _, Nat.zero_le _⟩ hf (fun r4 m3 H locs hf hW hS => ?_)
    refine lv_if_ne (tgt := 22) X.1.1 X.1.2.1 dX9_put_16 (by decide) (fun c16 => ?_) (fun c16 => ?_)
    · rw [if_neg c16] at hf
      refine lv_aload_n X.1.1 X.1.2.1 dX9_put_22 rfl (lv_at hl 0 rfl) ?_
      refine lv_iload_n X.1.1 X.1.2.1 dX9_put_23 rfl (lv_at hl 1 rfl) ?_
      refine lv_iload_n X.1.1 X.1.2.1 dX9_put_24 rfl (lv_at hl 2 rfl) ?_
      refine lv_iload_n X.1.1 X.1.2.1 dX9_put_25 rfl (lv_at hl 3 rfl) ?_
      refine e_vi (rest := []) (As := [.int x1, .int x2, .int x3]) X hl.1 hW hS (C := RX9) (T := TX9) (N := 35) rfl (by decide) (ctfX9_lacks X.2.2.2.2 F x1 x2 x3 m3) (cwV (rm := rmX9_lacks) 3 X.1.2.2.2.2 (gd_V mw_4_59 mw_4_61 mw_0_16 mw_1_11 mw_4_62) rfl rfl rfl (by decide +kernel) ⟨Nat.le_of_ble_eq_true rfl, Nat.le_of_ble_eq_true rfl⟩) rfl rfl (Nat.le_of_ble_eq_true rfl) dX9_put_26 ⟨Nat.zero_le _, Nat.zero_le _⟩ hf (fun r6 m5 H locs hf hW hS => ?_)
      refine lv_istore (lv' := [(5, .int r6), (0, .ref (E.1 89)), (1, .int x1), (2, .int x2), (3, .int x3), (4, .int x4)]) X.1.1 X.1.2.1 dX9_put_29 hl (by decide) rfl (fun ls hl => ?_)
      refine lv_iload X.1.1 X.1.2.1 dX9_put_31 (lv_at hl 0 rfl) ?_
      refine lv_if_eq (tgt := 39) X.1.1 X.1.2.1 dX9_put_33 (by decide) (fun c33 => ?_) (fun c33 => ?_)
      · rw [if_pos c33] at hf
        refine lv_aload_n X.1.1 X.1.2.1 dX9_put_39 rfl (lv_at hl 1 rfl) ?_
        refine e_getr X hW (C := RX9) (T := TX9) (N := 35) (j := 3) rfl (by decide) inX9 (by decide) (by decide) rfl (t := 92) rfl rfl mw_3_172 dX9_put_40 ?_
        refine lv_bipush (v := 40) X.1.1 X.1.2.1 dX9_put_43 (by decide) ?_
        refine lv_iload_n X.1.1 X.1.2.1 dX9_put_45 rfl (lv_at hl 2 rfl) ?_
        refine lv_imul X.1.1 X.1.2.1 dX9_put_46 ?_
        refine lv_iload_n X.1.1 X.1.2.1 dX9_put_47 rfl (lv_at hl 4 rfl) ?_
        refine lv_iadd X.1.1 X.1.2.1 dX9_put_48 ?_
        refine lv_iload_n X.1.1 X.1.2.1 dX9_put_49 rfl (lv_at hl 3 rfl) ?_
        refine lv_if_ne (tgt := 59) X.1.1 X.1.2.1 dX9_put_50 (by decide) (fun c50 => ?_) (fun c50 => ?_)
        · rw [if_neg c50] at hf
          refine lv_iload_n X.1.1 X.1.2.1 dX9_put_59 rfl (lv_at hl 3 rfl) ?_
          refine lv_iconst (v := 1) X.1.1 X.1.2.1 dX9_put_60 (by decide) ?_
          refine lv_icmp_ne (tgt := 70) X.1.1 X.1.2.1 dX9_put_61 (by decide) (fun c61 => ?_) (fun c61 => ?_)
          · rw [if_neg c61] at hf
            refine lv_iload X.1.1 X.1.2.1 dX9_put_70 (lv_at hl 5 rfl) ?_
            refine e_ist X hW hS (by decide) rfl dX9_put_72 hf (fun m7 H locs hf hW hS => ?_)
            refine lv_iconst (v := 1) X.1.1 X.1.2.1 dX9_put_73 (by decide) ?_
            exact e_iret X hW hS hf dX9_put_74
          · rw [if_pos c61] at hf
            refine lv_iload X.1.1 X.1.2.1 dX9_put_64 (lv_at hl 5 rfl) ?_
            refine lv_i2s X.1.1 X.1.2.1 dX9_put_66 rfl ?_
            refine lv_goto (tgt := 72) X.1.1 X.1.2.1 dX9_put_67 (by decide) ?_
            refine e_ist X hW hS (by decide) rfl dX9_put_72 hf (fun m8 H locs hf hW hS => ?_)
            refine lv_iconst (v := 1) X.1.1 X.1.2.1 dX9_put_73 (by decide) ?_
            exact e_iret X hW hS hf dX9_put_74
        · rw [if_pos c50] at hf
          refine lv_iload X.1.1 X.1.2.1 dX9_put_53 (lv_at hl 5 rfl) ?_
          refine lv_i2b X.1.1 X.1.2.1 dX9_put_55 rfl ?_
          refine lv_goto (tgt := 72) X.1.1 X.1.2.1 dX9_put_56 (by decide) ?_
          refine e_ist X hW hS (by decide) rfl dX9_put_72 hf (fun m9 H locs hf hW hS => ?_)
          refine lv_iconst (v := 1) X.1.1 X.1.2.1 dX9_put_73 (by decide) ?_
          exact e_iret X hW hS hf dX9_put_74
      · rw [if_neg c33] at hf
        refine lv_iload X.1.1 X.1.2.1 dX9_put_36 (lv_at hl 0 rfl) ?_
        exact e_iret X hW hS hf dX9_put_38
    · rw [if_pos c16] at hf
      refine lv_bipush (v := (-2)) X.1.1 X.1.2.1 dX9_put_19 (by decide) ?_
      exact e_iret X hW hS hf dX9_put_21
-- OvenHouseModel.get
def rmX9_get : Room := { frames := 2, cells := 0, slots := 0, locals := 48 }
set_option maxRecDepth 100000 in
set_option maxHeartbeats 4000000 in
theorem ctfX9_get {l : Launch} {E : Gv} (hD : Do E) (F : Nat) (x1 : Int32) (x2 : Int32) (x3 : Int32)  (μ : Mem) : CtI l yX9_get ((Cond.code yX9_get cX9_get 4 (some .int)) :: GG) rmX9_get E [.ref (E.1 89), .int x1, .int x2, .int x3] μ (fX9_get F x1 x2 x3 μ) := by
  intro r u hf
  refine of_entry (cc := cX9_get) (maxL := 4) (ret := (some .int)) (by decide +kernel) rfl hD (Nat.le_of_ble_eq_true rfl) (fun p e s m args below meth c X H locs hW hS ls hl => ?_)
  have hl : lv_has ls 4 [(0, .ref (E.1 89)), (1, .int x1), (2, .int x2), (3, .int x3)] := hl
  unfold fX9_get at hf
  refine lv_iload_n X.1.1 X.1.2.1 dX9_get_0 rfl (lv_at hl 1 rfl) ?_
  refine e_si (rest := []) (As := [.int x1]) X hl.1 hW hS (ctfX9_isSheet X.2.2.2.2 F x1 μ) (cwS (rm := rmX9_isSheet) 1 X.1.2.2.2.2 (gd_S mw_4_39 mw_4_40 mw_1_11 mw_4_41) rfl rfl rfl (by decide +kernel) ⟨Nat.le_of_ble_eq_true rfl, Nat.le_of_ble_eq_true rfl⟩) rfl rfl (Nat.le_of_ble_eq_true rfl) dX9_get_1 ⟨Nat.zero_le _, Nat.zero_le _⟩ hf (fun r2 m1 H locs hf hW hS => ?_)
  refine lv_if_eq (tgt := 29) X.1.1 X.1.2.1 dX9_get_4 (by decide) (fun c4 => ?_) (fun c4 => ?_)
  · rw [if_pos c4] at hf
    refine lv_ldc X.1.1 X.1.2.1 X.1.2.2.2.1 (X.1.2.2.2.2 _ (List.mem_cons_of_mem _ mw_4_67)) dX9_get_29 ?_
    exact e_iret X hW hS hf dX9_get_31
  · rw [if_neg c4] at hf
    refine lv_iload_n X.1.1 X.1.2.1 dX9_get_7 rfl (lv_at hl 2 rfl) ?_
    refine lv_i2l X.1.1 X.1.2.1 dX9_get_8 rfl ?_
    refine lv_lconst (v := 0) X.1.1 X.1.2.1 dX9_get_9 (by decide) ?_
    refine lv_ldc2 X.1.1 X.1.2.1 X.1.2.2.2.1 (X.1.2.2.2.2 _ (List.mem_cons_of_mem _ mw_4_46)) dX9_get_10 ?_
    refine e_si (rest := []) (As := [.long x2.toInt64, .long 0, .long 2]) X hl.1 hW hS (ctfX9_in X.2.2.2.2 F x2.toInt64 0 2 m1) (cwS (rm := rmX9_in) 3 X.1.2.2.2.2 (gd_S mw_4_43 mw_4_44 mw_1_11 mw_4_45) rfl rfl rfl (by decide +kernel) ⟨Nat.le_of_ble_eq_true rfl, Nat.le_of_ble_eq_true rfl⟩) rfl rfl (Nat.le_of_ble_eq_true rfl) dX9_get_13 ⟨Nat.zero_le _, Nat.zero_le _⟩ hf (fun r4 m3 H locs hf hW hS => ?_)
    refine lv_if_eq (tgt := 29) X.1.1 X.1.2.1 dX9_get_16 (by decide) (fun c16 => ?_) (fun c16 => ?_)
    · rw [if_pos c16] at hf
      refine lv_ldc X.1.1 X.1.2.1 X.1.2.2.2.1 (X.1.2.2.2.2 _ (List.mem_cons_of_mem _ mw_4_67)) dX9_get_29 ?_
      exact e_iret X hW hS hf dX9_get_31
    · rw [if_neg c16] at hf
      refine lv_aload_n X.1.1 X.1.2.1 dX9_get_19 rfl (lv_at hl 0 rfl) ?_
      refine lv_iload_n X.1.1 X.1.2.1 dX9_get_20 rfl (lv_at hl 1 rfl) ?_
      refine lv_iload_n X.1.1 X.1.2.1 dX9_get_21 rfl (lv_at hl 2 rfl) ?_
      refine lv_iload_n X.1.1 X.1.2.1 dX9_get_22 rfl (lv_at hl 3 rfl) ?_
      refine e_vi (rest := []) (As := [.int x1, .int x2, .int x3]) X hl.1 hW hS (C := RX9) (T := TX9) (N := 35) rfl (by decide) (ctfX9_lacks X.2.2.2.2 F x1 x2 x3 m3) (cwV (rm := rmX9_lacks) 3 X.1.2.2.2.2 (gd_V mw_4_59 mw_4_61 mw_0_16 mw_1_11 mw_4_62) rfl rfl rfl (by decide +kernel) ⟨Nat.le_of_ble_eq_true rfl, Nat.le_of_ble_eq_true rfl⟩) rfl rfl (Nat.le_of_ble_eq_true rfl) dX9_get_23 ⟨Nat.zero_le _, Nat.zero_le _⟩ hf (fun r6 m5 H locs hf hW hS => ?_)
      refine lv_if_eq (tgt := 32) X.1.1 X.1.2.1 dX9_get_26 (by decide) (fun c26 => ?_) (fun c26 => ?_)
      · rw [if_pos c26] at hf
        refine lv_aload_n X.1.1 X.1.2.1 dX9_get_32 rfl (lv_at hl 0 rfl) ?_
        refine e_getr X hW (C := RX9) (T := TX9) (N := 35) (j := 3) rfl (by decide) inX9 (by decide) (by decide) rfl (t := 92) rfl rfl mw_3_172 dX9_get_33 ?_
        refine lv_bipush (v := 40) X.1.1 X.1.2.1 dX9_get_36 (by decide) ?_
        refine lv_iload_n X.1.1 X.1.2.1 dX9_get_38 rfl (lv_at hl 1 rfl) ?_
        refine lv_imul X.1.1 X.1.2.1 dX9_get_39 ?_
        refine lv_iload_n X.1.1 X.1.2.1 dX9_get_40 rfl (lv_at hl 3 rfl) ?_
        refine lv_iadd X.1.1 X.1.2.1 dX9_get_41 ?_
        refine e_ild X hW (by decide) rfl dX9_get_42 hf (fun v7 hf => ?_)
        exact e_iret X hW hS hf dX9_get_43
      · rw [if_neg c26] at hf
        refine lv_ldc X.1.1 X.1.2.1 X.1.2.2.2.1 (X.1.2.2.2.2 _ (List.mem_cons_of_mem _ mw_4_67)) dX9_get_29 ?_
        exact e_iret X hW hS hf dX9_get_31
-- OvenHouseModel.copy
def rmX9_copy : Room := { frames := 2, cells := 0, slots := 0, locals := 45 }
set_option maxRecDepth 100000 in
set_option maxHeartbeats 4000000 in
theorem wfX9_copy_157_b {p : Program} {l : Launch} {e : Env} {s : State} {m : MethodId} {args : Array Value} {below : List Frame} {meth : Method} {c : Code} {E : Gv} {F : Nat}  {r : Int32} {u : Mem} (X : Fx p m c cX9_copy 7 s args (Cond.code yX9_copy cX9_copy 7 (some .int)) "OvenHouseModel" meth (some .int) E)  (rec157 : Int32 → Int32 → Int32 → Int32 → Mem → Option (Int32 × Mem)) (hrec157 : ∀ (y3 : Int32) (y4 : Int32) (y5 : Int32) (y6 : Int32) (μ : Mem) (H : Heap) (locs : List Loc) (ls : Array Slot), rec157 y3 y4 y5 y6 μ = some (r, u) → Wo E μ H → va_S (AE E) s.heap H locs → lv_has ls 7 [(0, .ref (E.1 89)), (3, .int y3), (4, .int y4), (5, .int y5), (6, .int y6)] → W0 p l e rmX9_copy s m args below meth c H locs (QcI E r u) E (F0 m 157 ls [])) (y3 : Int32) (y4 : Int32) (y5 : Int32) (y6 : Int32) (μ : Mem) (H : Heap) (locs : List Loc) (ls : Array Slot) (hf : fX9_copy_157_b F  rec157 y3 y4 y5 y6 μ = some (r, u)) (hW : Wo E μ H) (hS : va_S (AE E) s.heap H locs) (hl : lv_has ls 7 [(0, .ref (E.1 89)), (3, .int y3), (4, .int y4), (5, .int y5), (6, .int y6)]) : W0 p l e rmX9_copy s m args below meth c H locs (QcI E r u) E (F0 m 157 ls []) := by
  unfold fX9_copy_157_b at hf
  refine lv_iload X.1.1 X.1.2.1 dX9_copy_157 (lv_at hl 4 rfl) ?_
  refine lv_iload X.1.1 X.1.2.1 dX9_copy_159 (lv_at hl 3 rfl) ?_
  refine lv_icmp_ge (tgt := 192) X.1.1 X.1.2.1 dX9_copy_161 (by decide) (fun c161 => ?_) (fun c161 => ?_)
  · rw [if_pos c161] at hf
    refine lv_iconst (v := 1) X.1.1 X.1.2.1 dX9_copy_192 (by decide) ?_
    exact e_iret X hW hS hf dX9_copy_193
  · rw [if_neg c161] at hf
    refine lv_aload_n X.1.1 X.1.2.1 dX9_copy_164 rfl (lv_at hl 0 rfl) ?_
    refine e_getr X hW (C := RX9) (T := TX9) (N := 35) (j := 3) rfl (by decide) inX9 (by decide) (by decide) rfl (t := 92) rfl rfl mw_3_172 dX9_copy_165 ?_
    refine lv_bipush (v := 40) X.1.1 X.1.2.1 dX9_copy_168 (by decide) ?_
    refine lv_iload_n X.1.1 X.1.2.1 dX9_copy_170 rfl (lv_at hl 1 rfl) ?_
    refine lv_imul X.1.1 X.1.2.1 dX9_copy_171 ?_
    refine lv_iload X.1.1 X.1.2.1 dX9_copy_172 (lv_at hl 2 rfl) ?_
    refine lv_iadd X.1.1 X.1.2.1 dX9_copy_174 ?_
    refine lv_iload X.1.1 X.1.2.1 dX9_copy_175 (lv_at hl 4 rfl) ?_
    refine lv_iadd X.1.1 X.1.2.1 dX9_copy_177 ?_
    refine lv_aload_n X.1.1 X.1.2.1 dX9_copy_178 rfl (lv_at hl 0 rfl) ?_
    refine e_getr X hW (C := RX9) (T := TX9) (N := 35) (j := 4) rfl (by decide) inX9 (by decide) (by decide) rfl (t := 93) rfl rfl mw_3_173 dX9_copy_179 ?_
    refine lv_iload X.1.1 X.1.2.1 dX9_copy_182 (lv_at hl 4 rfl) ?_
    refine e_ild X hW (by decide) rfl dX9_copy_184 hf (fun v29 hf => ?_)
    refine e_ist X hW hS (by decide) rfl dX9_copy_185 hf (fun m30 H locs hf hW hS => ?_)
    refine lv_iinc (v := (y6 + 1)) (lv' := [(6, .int (y6 + 1)), (0, .ref (E.1 89)), (3, .int y3), (4, .int y4), (5, .int y5)]) X.1.1 X.1.2.1 dX9_copy_186 hl (k := 4) rfl rfl (by decide) rfl (fun ls hl => ?_)
    refine lv_goto (tgt := 157) X.1.1 X.1.2.1 dX9_copy_189 (by decide) ?_
    exact hrec157 y3 y4 y5 (y6 + 1) m30 H locs ls hf hW hS (lv_sub hl [1, 2, 3, 4, 0] rfl)
theorem wfX9_copy_157 {p : Program} {l : Launch} {e : Env} {s : State} {m : MethodId} {args : Array Value} {below : List Frame} {meth : Method} {c : Code} {E : Gv} {F : Nat}  {r : Int32} {u : Mem} (X : Fx p m c cX9_copy 7 s args (Cond.code yX9_copy cX9_copy 7 (some .int)) "OvenHouseModel" meth (some .int) E)  (n : Nat) : ∀ (y3 : Int32) (y4 : Int32) (y5 : Int32) (y6 : Int32) (μ : Mem) (H : Heap) (locs : List Loc) (ls : Array Slot) (_ : fX9_copy_157 F   n y3 y4 y5 y6 μ = some (r, u)) (_ : Wo E μ H) (_ : va_S (AE E) s.heap H locs) (_ : lv_has ls 7 [(0, .ref (E.1 89)), (3, .int y3), (4, .int y4), (5, .int y5), (6, .int y6)]), W0 p l e rmX9_copy s m args below meth c H locs (QcI E r u) E (F0 m 157 ls []) := by
  induction n with
  | zero => intro y3 y4 y5 y6 μ H locs ls hf hW hS hl; cases hf
  | succ n ih => intro y3 y4 y5 y6 μ H locs ls hf hW hS hl; exact wfX9_copy_157_b X  _ ih y3 y4 y5 y6 μ H locs ls hf hW hS hl
set_option maxRecDepth 100000 in
set_option maxHeartbeats 4000000 in
theorem wfX9_copy_120_b {p : Program} {l : Launch} {e : Env} {s : State} {m : MethodId} {args : Array Value} {below : List Frame} {meth : Method} {c : Code} {E : Gv} {F : Nat}  {r : Int32} {u : Mem} (X : Fx p m c cX9_copy 7 s args (Cond.code yX9_copy cX9_copy 7 (some .int)) "OvenHouseModel" meth (some .int) E)  (rec120 : Int32 → Int32 → Int32 → Int32 → Int32 → Int32 → Mem → Option (Int32 × Mem)) (hrec120 : ∀ (y1 : Int32) (y2 : Int32) (y3 : Int32) (y4 : Int32) (y5 : Int32) (y6 : Int32) (μ : Mem) (H : Heap) (locs : List Loc) (ls : Array Slot), rec120 y1 y2 y3 y4 y5 y6 μ = some (r, u) → Wo E μ H → va_S (AE E) s.heap H locs → lv_has ls 7 [(0, .ref (E.1 89)), (1, .int y1), (2, .int y2), (3, .int y3), (4, .int y4), (5, .int y5), (6, .int y6)] → W0 p l e rmX9_copy s m args below meth c H locs (QcI E r u) E (F0 m 120 ls [])) (y1 : Int32) (y2 : Int32) (y3 : Int32) (y4 : Int32) (y5 : Int32) (y6 : Int32) (μ : Mem) (H : Heap) (locs : List Loc) (ls : Array Slot) (hf : fX9_copy_120_b F  rec120 y1 y2 y3 y4 y5 y6 μ = some (r, u)) (hW : Wo E μ H) (hS : va_S (AE E) s.heap H locs) (hl : lv_has ls 7 [(0, .ref (E.1 89)), (1, .int y1), (2, .int y2), (3, .int y3), (4, .int y4), (5, .int y5), (6, .int y6)]) : W0 p l e rmX9_copy s m args below meth c H locs (QcI E r u) E (F0 m 120 ls []) := by
  unfold fX9_copy_120_b at hf
  refine lv_iload X.1.1 X.1.2.1 dX9_copy_120 (lv_at hl 6 rfl) ?_
  refine lv_iload X.1.1 X.1.2.1 dX9_copy_122 (lv_at hl 5 rfl) ?_
  refine lv_icmp_ge (tgt := 154) X.1.1 X.1.2.1 dX9_copy_124 (by decide) (fun c124 => ?_) (fun c124 => ?_)
  · rw [if_pos c124] at hf
    refine lv_iconst (v := 0) X.1.1 X.1.2.1 dX9_copy_154 (by decide) ?_
    refine lv_istore (lv' := [(6, .int 0), (0, .ref (E.1 89)), (1, .int y1), (2, .int y2), (3, .int y3), (4, .int y4), (5, .int y5)]) X.1.1 X.1.2.1 dX9_copy_155 hl (by decide) rfl (fun ls hl => ?_)
    exact wfX9_copy_157 X  F y3 y4 y5 0 μ H locs ls hf hW hS (lv_sub hl [1, 4, 5, 6, 0] rfl)
  · rw [if_neg c124] at hf
    refine lv_aload_n X.1.1 X.1.2.1 dX9_copy_127 rfl (lv_at hl 0 rfl) ?_
    refine e_getr X hW (C := RX9) (T := TX9) (N := 35) (j := 4) rfl (by decide) inX9 (by decide) (by decide) rfl (t := 93) rfl rfl mw_3_173 dX9_copy_128 ?_
    refine lv_iload X.1.1 X.1.2.1 dX9_copy_131 (lv_at hl 6 rfl) ?_
    refine lv_aload_n X.1.1 X.1.2.1 dX9_copy_133 rfl (lv_at hl 0 rfl) ?_
    refine e_getr X hW (C := RX9) (T := TX9) (N := 35) (j := 3) rfl (by decide) inX9 (by decide) (by decide) rfl (t := 92) rfl rfl mw_3_172 dX9_copy_134 ?_
    refine lv_bipush (v := 40) X.1.1 X.1.2.1 dX9_copy_137 (by decide) ?_
    refine lv_iload_n X.1.1 X.1.2.1 dX9_copy_139 rfl (lv_at hl 1 rfl) ?_
    refine lv_imul X.1.1 X.1.2.1 dX9_copy_140 ?_
    refine lv_iload_n X.1.1 X.1.2.1 dX9_copy_141 rfl (lv_at hl 2 rfl) ?_
    refine lv_iadd X.1.1 X.1.2.1 dX9_copy_142 ?_
    refine lv_iload X.1.1 X.1.2.1 dX9_copy_143 (lv_at hl 6 rfl) ?_
    refine lv_iadd X.1.1 X.1.2.1 dX9_copy_145 ?_
    refine e_ild X hW (by decide) rfl dX9_copy_146 hf (fun v27 hf => ?_)
    refine e_ist X hW hS (by decide) rfl dX9_copy_147 hf (fun m28 H locs hf hW hS => ?_)
    refine lv_iinc (v := (y6 + 1)) (lv' := [(6, .int (y6 + 1)), (0, .ref (E.1 89)), (1, .int y1), (2, .int y2), (3, .int y3), (4, .int y4), (5, .int y5)]) X.1.1 X.1.2.1 dX9_copy_148 hl (k := 6) rfl rfl (by decide) rfl (fun ls hl => ?_)
    refine lv_goto (tgt := 120) X.1.1 X.1.2.1 dX9_copy_151 (by decide) ?_
    exact hrec120 y1 y2 y3 y4 y5 (y6 + 1) m28 H locs ls hf hW hS (lv_sub hl [1, 2, 3, 4, 5, 6, 0] rfl)
theorem wfX9_copy_120 {p : Program} {l : Launch} {e : Env} {s : State} {m : MethodId} {args : Array Value} {below : List Frame} {meth : Method} {c : Code} {E : Gv} {F : Nat}  {r : Int32} {u : Mem} (X : Fx p m c cX9_copy 7 s args (Cond.code yX9_copy cX9_copy 7 (some .int)) "OvenHouseModel" meth (some .int) E)  (n : Nat) : ∀ (y1 : Int32) (y2 : Int32) (y3 : Int32) (y4 : Int32) (y5 : Int32) (y6 : Int32) (μ : Mem) (H : Heap) (locs : List Loc) (ls : Array Slot) (_ : fX9_copy_120 F   n y1 y2 y3 y4 y5 y6 μ = some (r, u)) (_ : Wo E μ H) (_ : va_S (AE E) s.heap H locs) (_ : lv_has ls 7 [(0, .ref (E.1 89)), (1, .int y1), (2, .int y2), (3, .int y3), (4, .int y4), (5, .int y5), (6, .int y6)]), W0 p l e rmX9_copy s m args below meth c H locs (QcI E r u) E (F0 m 120 ls []) := by
  induction n with
  | zero => intro y1 y2 y3 y4 y5 y6 μ H locs ls hf hW hS hl; cases hf
  | succ n ih => intro y1 y2 y3 y4 y5 y6 μ H locs ls hf hW hS hl; exact wfX9_copy_120_b X  _ ih y1 y2 y3 y4 y5 y6 μ H locs ls hf hW hS hl
set_option maxRecDepth 100000 in
set_option maxHeartbeats 4000000 in
theorem ctfX9_copy {l : Launch} {E : Gv} (hD : Do E) (F : Nat) (x1 : Int32) (x2 : Int32) (x3 : Int32) (x4 : Int32) (x5 : Int32)  (μ : Mem) : CtI l yX9_copy ((Cond.code yX9_copy cX9_copy 7 (some .int)) :: GG) rmX9_copy E [.ref (E.1 89), .int x1, .int x2, .int x3, .int x4, .int x5] μ (fX9_copy F x1 x2 x3 x4 x5 μ) := by
  intro r u hf
  refine of_entry (cc := cX9_copy) (maxL := 7) (ret := (some .int)) (by decide +kernel) rfl hD (Nat.le_of_ble_eq_true rfl) (fun p e s m args below meth c X H locs hW hS ls hl => ?_)
  have hl : lv_has ls 7 [(0, .ref (E.1 89)), (1, .int x1), (2, .int x2), (3, .int x3), (4, .int x4), (5, .int x5)] := hl
  unfold fX9_copy at hf
  refine lv_iload_n X.1.1 X.1.2.1 dX9_copy_0 rfl (lv_at hl 1 rfl) ?_
  refine e_si (rest := []) (As := [.int x1]) X hl.1 hW hS (ctfX9_isSheet X.2.2.2.2 F x1 μ) (cwS (rm := rmX9_isSheet) 1 X.1.2.2.2.2 (gd_S mw_4_39 mw_4_40 mw_1_11 mw_4_41) rfl rfl rfl (by decide +kernel) ⟨Nat.le_of_ble_eq_true rfl, Nat.le_of_ble_eq_true rfl⟩) rfl rfl (Nat.le_of_ble_eq_true rfl) dX9_copy_1 ⟨Nat.zero_le _, Nat.zero_le _⟩ hf (fun r2 m1 H locs hf hW hS => ?_)
  refine lv_if_eq (tgt := 14) X.1.1 X.1.2.1 dX9_copy_4 (by decide) (fun c4 => ?_) (fun c4 => ?_)
  · rw [if_pos c4] at hf
    refine lv_bipush (v := (-2)) X.1.1 X.1.2.1 dX9_copy_14 (by decide) ?_
    exact e_iret X hW hS hf dX9_copy_16
  · rw [if_neg c4] at hf
    refine lv_iload_n X.1.1 X.1.2.1 dX9_copy_7 rfl (lv_at hl 3 rfl) ?_
    refine e_si (rest := []) (As := [.int x3]) X hl.1 hW hS (ctfX9_isSheet X.2.2.2.2 F x3 m1) (cwS (rm := rmX9_isSheet) 1 X.1.2.2.2.2 (gd_S mw_4_39 mw_4_40 mw_1_11 mw_4_41) rfl rfl rfl (by decide +kernel) ⟨Nat.le_of_ble_eq_true rfl, Nat.le_of_ble_eq_true rfl⟩) rfl rfl (Nat.le_of_ble_eq_true rfl) dX9_copy_8 ⟨Nat.zero_le _, Nat.zero_le _⟩ hf (fun r4 m3 H locs hf hW hS => ?_)
    refine lv_if_ne (tgt := 17) X.1.1 X.1.2.1 dX9_copy_11 (by decide) (fun c11 => ?_) (fun c11 => ?_)
    · rw [if_neg c11] at hf
      refine lv_aload_n X.1.1 X.1.2.1 dX9_copy_17 rfl (lv_at hl 0 rfl) ?_
      refine e_getr X hW (C := RX9) (T := TX9) (N := 35) (j := 1) rfl (by decide) inX9 (by decide) (by decide) rfl (t := 90) rfl rfl mw_3_170 dX9_copy_18 ?_
      refine lv_iload_n X.1.1 X.1.2.1 dX9_copy_21 rfl (lv_at hl 1 rfl) ?_
      refine e_ild X hW (by decide) rfl dX9_copy_22 hf (fun v5 hf => ?_)
      refine lv_if_lt (tgt := 35) X.1.1 X.1.2.1 dX9_copy_23 (by decide) (fun c23 => ?_) (fun c23 => ?_)
      · rw [if_pos c23] at hf
        refine lv_aload_n X.1.1 X.1.2.1 dX9_copy_35 rfl (lv_at hl 0 rfl) ?_
        refine lv_iconst (v := 1) X.1.1 X.1.2.1 dX9_copy_36 (by decide) ?_
        refine e_vi (rest := []) (As := [.int 1]) X hl.1 hW hS (C := RX9) (T := TX9) (N := 35) rfl (by decide) (ctfX9_met X.2.2.2.2 F 1 m3) (cwV (rm := rmX9_met) 1 X.1.2.2.2.2 (gd_V mw_4_47 mw_4_49 mw_0_15 mw_1_11 mw_4_50) rfl rfl rfl (by decide +kernel) ⟨Nat.le_of_ble_eq_true rfl, Nat.le_of_ble_eq_true rfl⟩) rfl rfl (Nat.le_of_ble_eq_true rfl) dX9_copy_37 ⟨Nat.zero_le _, Nat.zero_le _⟩ hf (fun r7 m6 H locs hf hW hS => ?_)
        exact e_iret X hW hS hf dX9_copy_40
      · rw [if_neg c23] at hf
        refine lv_aload_n X.1.1 X.1.2.1 dX9_copy_26 rfl (lv_at hl 0 rfl) ?_
        refine e_getr X hW (C := RX9) (T := TX9) (N := 35) (j := 1) rfl (by decide) inX9 (by decide) (by decide) rfl (t := 90) rfl rfl mw_3_170 dX9_copy_27 ?_
        refine lv_iload_n X.1.1 X.1.2.1 dX9_copy_30 rfl (lv_at hl 3 rfl) ?_
        refine e_ild X hW (by decide) rfl dX9_copy_31 hf (fun v8 hf => ?_)
        refine lv_if_ge (tgt := 41) X.1.1 X.1.2.1 dX9_copy_32 (by decide) (fun c32 => ?_) (fun c32 => ?_)
        · rw [if_pos c32] at hf
          refine lv_aload_n X.1.1 X.1.2.1 dX9_copy_41 rfl (lv_at hl 0 rfl) ?_
          refine e_getr X hW (C := RX9) (T := TX9) (N := 35) (j := 1) rfl (by decide) inX9 (by decide) (by decide) rfl (t := 90) rfl rfl mw_3_170 dX9_copy_42 ?_
          refine lv_iload_n X.1.1 X.1.2.1 dX9_copy_45 rfl (lv_at hl 1 rfl) ?_
          refine e_ild X hW (by decide) rfl dX9_copy_46 hf (fun v9 hf => ?_)
          refine lv_aload_n X.1.1 X.1.2.1 dX9_copy_47 rfl (lv_at hl 0 rfl) ?_
          refine e_getr X hW (C := RX9) (T := TX9) (N := 35) (j := 1) rfl (by decide) inX9 (by decide) (by decide) rfl (t := 90) rfl rfl mw_3_170 dX9_copy_48 ?_
          refine lv_iload_n X.1.1 X.1.2.1 dX9_copy_51 rfl (lv_at hl 3 rfl) ?_
          refine e_ild X hW (by decide) rfl dX9_copy_52 hf (fun v10 hf => ?_)
          refine lv_icmp_eq (tgt := 62) X.1.1 X.1.2.1 dX9_copy_53 (by decide) (fun c53 => ?_) (fun c53 => ?_)
          · rw [if_pos c53] at hf
            refine lv_iload_n X.1.1 X.1.2.1 dX9_copy_62 rfl (lv_at hl 2 rfl) ?_
            refine lv_if_lt (tgt := 111) X.1.1 X.1.2.1 dX9_copy_63 (by decide) (fun c63 => ?_) (fun c63 => ?_)
            · rw [if_pos c63] at hf
              refine lv_aload_n X.1.1 X.1.2.1 dX9_copy_111 rfl (lv_at hl 0 rfl) ?_
              refine lv_iconst (v := 2) X.1.1 X.1.2.1 dX9_copy_112 (by decide) ?_
              refine e_vi (rest := []) (As := [.int 2]) X hl.1 hW hS (C := RX9) (T := TX9) (N := 35) rfl (by decide) (ctfX9_met X.2.2.2.2 F 2 m3) (cwV (rm := rmX9_met) 1 X.1.2.2.2.2 (gd_V mw_4_47 mw_4_49 mw_0_15 mw_1_11 mw_4_50) rfl rfl rfl (by decide +kernel) ⟨Nat.le_of_ble_eq_true rfl, Nat.le_of_ble_eq_true rfl⟩) rfl rfl (Nat.le_of_ble_eq_true rfl) dX9_copy_113 ⟨Nat.zero_le _, Nat.zero_le _⟩ hf (fun r12 m11 H locs hf hW hS => ?_)
              exact e_iret X hW hS hf dX9_copy_116
            · rw [if_neg c63] at hf
              refine lv_iload X.1.1 X.1.2.1 dX9_copy_66 (lv_at hl 4 rfl) ?_
              refine lv_if_lt (tgt := 111) X.1.1 X.1.2.1 dX9_copy_68 (by decide) (fun c68 => ?_) (fun c68 => ?_)
              · rw [if_pos c68] at hf
                refine lv_aload_n X.1.1 X.1.2.1 dX9_copy_111 rfl (lv_at hl 0 rfl) ?_
                refine lv_iconst (v := 2) X.1.1 X.1.2.1 dX9_copy_112 (by decide) ?_
                refine e_vi (rest := []) (As := [.int 2]) X hl.1 hW hS (C := RX9) (T := TX9) (N := 35) rfl (by decide) (ctfX9_met X.2.2.2.2 F 2 m3) (cwV (rm := rmX9_met) 1 X.1.2.2.2.2 (gd_V mw_4_47 mw_4_49 mw_0_15 mw_1_11 mw_4_50) rfl rfl rfl (by decide +kernel) ⟨Nat.le_of_ble_eq_true rfl, Nat.le_of_ble_eq_true rfl⟩) rfl rfl (Nat.le_of_ble_eq_true rfl) dX9_copy_113 ⟨Nat.zero_le _, Nat.zero_le _⟩ hf (fun r14 m13 H locs hf hW hS => ?_)
                exact e_iret X hW hS hf dX9_copy_116
              · rw [if_neg c68] at hf
                refine lv_iload X.1.1 X.1.2.1 dX9_copy_71 (lv_at hl 5 rfl) ?_
                refine lv_if_lt (tgt := 111) X.1.1 X.1.2.1 dX9_copy_73 (by decide) (fun c73 => ?_) (fun c73 => ?_)
                · rw [if_pos c73] at hf
                  refine lv_aload_n X.1.1 X.1.2.1 dX9_copy_111 rfl (lv_at hl 0 rfl) ?_
                  refine lv_iconst (v := 2) X.1.1 X.1.2.1 dX9_copy_112 (by decide) ?_
                  refine e_vi (rest := []) (As := [.int 2]) X hl.1 hW hS (C := RX9) (T := TX9) (N := 35) rfl (by decide) (ctfX9_met X.2.2.2.2 F 2 m3) (cwV (rm := rmX9_met) 1 X.1.2.2.2.2 (gd_V mw_4_47 mw_4_49 mw_0_15 mw_1_11 mw_4_50) rfl rfl rfl (by decide +kernel) ⟨Nat.le_of_ble_eq_true rfl, Nat.le_of_ble_eq_true rfl⟩) rfl rfl (Nat.le_of_ble_eq_true rfl) dX9_copy_113 ⟨Nat.zero_le _, Nat.zero_le _⟩ hf (fun r16 m15 H locs hf hW hS => ?_)
                  exact e_iret X hW hS hf dX9_copy_116
                · rw [if_neg c73] at hf
                  refine lv_iload_n X.1.1 X.1.2.1 dX9_copy_76 rfl (lv_at hl 2 rfl) ?_
                  refine lv_i2l X.1.1 X.1.2.1 dX9_copy_77 rfl ?_
                  refine lv_iload X.1.1 X.1.2.1 dX9_copy_78 (lv_at hl 5 rfl) ?_
                  refine lv_i2l X.1.1 X.1.2.1 dX9_copy_80 rfl ?_
                  refine lv_ladd X.1.1 X.1.2.1 dX9_copy_81 ?_
                  refine lv_aload_n X.1.1 X.1.2.1 dX9_copy_82 rfl (lv_at hl 0 rfl) ?_
                  refine e_getr X hW (C := RX9) (T := TX9) (N := 35) (j := 2) rfl (by decide) inX9 (by decide) (by decide) rfl (t := 91) rfl rfl mw_3_171 dX9_copy_83 ?_
                  refine lv_iload_n X.1.1 X.1.2.1 dX9_copy_86 rfl (lv_at hl 1 rfl) ?_
                  refine e_ild X hW (by decide) rfl dX9_copy_87 hf (fun v17 hf => ?_)
                  refine lv_i2l X.1.1 X.1.2.1 dX9_copy_88 rfl ?_
                  refine W.lcmp X.1.1 X.1.2.1 dX9_copy_89 ?_
                  refine lv_if_gt (tgt := 111) X.1.1 X.1.2.1 dX9_copy_90 (by decide) (fun c90 => ?_) (fun c90 => ?_)
                  · replace c90 := lc_gt.mp c90
                    rw [if_pos c90] at hf
                    refine lv_aload_n X.1.1 X.1.2.1 dX9_copy_111 rfl (lv_at hl 0 rfl) ?_
                    refine lv_iconst (v := 2) X.1.1 X.1.2.1 dX9_copy_112 (by decide) ?_
                    refine e_vi (rest := []) (As := [.int 2]) X hl.1 hW hS (C := RX9) (T := TX9) (N := 35) rfl (by decide) (ctfX9_met X.2.2.2.2 F 2 m3) (cwV (rm := rmX9_met) 1 X.1.2.2.2.2 (gd_V mw_4_47 mw_4_49 mw_0_15 mw_1_11 mw_4_50) rfl rfl rfl (by decide +kernel) ⟨Nat.le_of_ble_eq_true rfl, Nat.le_of_ble_eq_true rfl⟩) rfl rfl (Nat.le_of_ble_eq_true rfl) dX9_copy_113 ⟨Nat.zero_le _, Nat.zero_le _⟩ hf (fun r19 m18 H locs hf hW hS => ?_)
                    exact e_iret X hW hS hf dX9_copy_116
                  · replace c90 := mt lc_gt.mpr c90
                    rw [if_neg c90] at hf
                    refine lv_iload X.1.1 X.1.2.1 dX9_copy_93 (lv_at hl 4 rfl) ?_
                    refine lv_i2l X.1.1 X.1.2.1 dX9_copy_95 rfl ?_
                    refine lv_iload X.1.1 X.1.2.1 dX9_copy_96 (lv_at hl 5 rfl) ?_
                    refine lv_i2l X.1.1 X.1.2.1 dX9_copy_98 rfl ?_
                    refine lv_ladd X.1.1 X.1.2.1 dX9_copy_99 ?_
                    refine lv_aload_n X.1.1 X.1.2.1 dX9_copy_100 rfl (lv_at hl 0 rfl) ?_
                    refine e_getr X hW (C := RX9) (T := TX9) (N := 35) (j := 2) rfl (by decide) inX9 (by decide) (by decide) rfl (t := 91) rfl rfl mw_3_171 dX9_copy_101 ?_
                    refine lv_iload_n X.1.1 X.1.2.1 dX9_copy_104 rfl (lv_at hl 3 rfl) ?_
                    refine e_ild X hW (by decide) rfl dX9_copy_105 hf (fun v20 hf => ?_)
                    refine lv_i2l X.1.1 X.1.2.1 dX9_copy_106 rfl ?_
                    refine W.lcmp X.1.1 X.1.2.1 dX9_copy_107 ?_
                    refine lv_if_le (tgt := 117) X.1.1 X.1.2.1 dX9_copy_108 (by decide) (fun c108 => ?_) (fun c108 => ?_)
                    · replace c108 := lc_le.mp c108
                      rw [if_pos c108] at hf
                      refine lv_iconst (v := 0) X.1.1 X.1.2.1 dX9_copy_117 (by decide) ?_
                      refine lv_istore (lv' := [(6, .int 0), (0, .ref (E.1 89)), (1, .int x1), (2, .int x2), (3, .int x3), (4, .int x4), (5, .int x5)]) X.1.1 X.1.2.1 dX9_copy_118 hl (by decide) rfl (fun ls hl => ?_)
                      exact wfX9_copy_120 X  F x1 x2 x3 x4 x5 0 m3 H locs ls hf hW hS (lv_sub hl [1, 2, 3, 4, 5, 6, 0] rfl)
                    · replace c108 := mt lc_le.mpr c108
                      rw [if_neg c108] at hf
                      refine lv_aload_n X.1.1 X.1.2.1 dX9_copy_111 rfl (lv_at hl 0 rfl) ?_
                      refine lv_iconst (v := 2) X.1.1 X.1.2.1 dX9_copy_112 (by decide) ?_
                      refine e_vi (rest := []) (As := [.int 2]) X hl.1 hW hS (C := RX9) (T := TX9) (N := 35) rfl (by decide) (ctfX9_met X.2.2.2.2 F 2 m3) (cwV (rm := rmX9_met) 1 X.1.2.2.2.2 (gd_V mw_4_47 mw_4_49 mw_0_15 mw_1_11 mw_4_50) rfl rfl rfl (by decide +kernel) ⟨Nat.le_of_ble_eq_true rfl, Nat.le_of_ble_eq_true rfl⟩) rfl rfl (Nat.le_of_ble_eq_true rfl) dX9_copy_113 ⟨Nat.zero_le _, Nat.zero_le _⟩ hf (fun r22 m21 H locs hf hW hS => ?_)
                      exact e_iret X hW hS hf dX9_copy_116
          · rw [if_neg c53] at hf
            refine lv_aload_n X.1.1 X.1.2.1 dX9_copy_56 rfl (lv_at hl 0 rfl) ?_
            refine lv_iconst (v := 4) X.1.1 X.1.2.1 dX9_copy_57 (by decide) ?_
            refine e_vi (rest := []) (As := [.int 4]) X hl.1 hW hS (C := RX9) (T := TX9) (N := 35) rfl (by decide) (ctfX9_met X.2.2.2.2 F 4 m3) (cwV (rm := rmX9_met) 1 X.1.2.2.2.2 (gd_V mw_4_47 mw_4_49 mw_0_15 mw_1_11 mw_4_50) rfl rfl rfl (by decide +kernel) ⟨Nat.le_of_ble_eq_true rfl, Nat.le_of_ble_eq_true rfl⟩) rfl rfl (Nat.le_of_ble_eq_true rfl) dX9_copy_58 ⟨Nat.zero_le _, Nat.zero_le _⟩ hf (fun r24 m23 H locs hf hW hS => ?_)
            exact e_iret X hW hS hf dX9_copy_61
        · rw [if_neg c32] at hf
          refine lv_aload_n X.1.1 X.1.2.1 dX9_copy_35 rfl (lv_at hl 0 rfl) ?_
          refine lv_iconst (v := 1) X.1.1 X.1.2.1 dX9_copy_36 (by decide) ?_
          refine e_vi (rest := []) (As := [.int 1]) X hl.1 hW hS (C := RX9) (T := TX9) (N := 35) rfl (by decide) (ctfX9_met X.2.2.2.2 F 1 m3) (cwV (rm := rmX9_met) 1 X.1.2.2.2.2 (gd_V mw_4_47 mw_4_49 mw_0_15 mw_1_11 mw_4_50) rfl rfl rfl (by decide +kernel) ⟨Nat.le_of_ble_eq_true rfl, Nat.le_of_ble_eq_true rfl⟩) rfl rfl (Nat.le_of_ble_eq_true rfl) dX9_copy_37 ⟨Nat.zero_le _, Nat.zero_le _⟩ hf (fun r26 m25 H locs hf hW hS => ?_)
          exact e_iret X hW hS hf dX9_copy_40
    · rw [if_pos c11] at hf
      refine lv_bipush (v := (-2)) X.1.1 X.1.2.1 dX9_copy_14 (by decide) ?_
      exact e_iret X hW hS hf dX9_copy_16
-- OvenHouseModel.copyAll
def rmX9_copyAll : Room := { frames := 0, cells := 0, slots := 0, locals := 0 }
set_option maxRecDepth 100000 in
set_option maxHeartbeats 4000000 in
theorem wfX9_copyAll_14_b {p : Program} {l : Launch} {e : Env} {s : State} {m : MethodId} {args : Array Value} {below : List Frame} {meth : Method} {c : Code} {E : Gv} {F : Nat}  {u : Mem} (X : Fx p m c cX9_copyAll 4 s args (Cond.code yX9_copyAll cX9_copyAll 4 none) "OvenHouseModel" meth none E)  (rec14 : Int32 → Int32 → Int32 → Mem → Option Mem) (hrec14 : ∀ (y1 : Int32) (y2 : Int32) (y3 : Int32) (μ : Mem) (H : Heap) (locs : List Loc) (ls : Array Slot), rec14 y1 y2 y3 μ = some u → Wo E μ H → va_S (AE E) s.heap H locs → lv_has ls 4 [(0, .ref (E.1 89)), (1, .int y1), (2, .int y2), (3, .int y3)] → W0 p l e rmX9_copyAll s m args below meth c H locs (QcN E u) E (F0 m 14 ls [])) (y1 : Int32) (y2 : Int32) (y3 : Int32) (μ : Mem) (H : Heap) (locs : List Loc) (ls : Array Slot) (hf : fX9_copyAll_14_b F  rec14 y1 y2 y3 μ = some u) (hW : Wo E μ H) (hS : va_S (AE E) s.heap H locs) (hl : lv_has ls 4 [(0, .ref (E.1 89)), (1, .int y1), (2, .int y2), (3, .int y3)]) : W0 p l e rmX9_copyAll s m args below meth c H locs (QcN E u) E (F0 m 14 ls []) := by
  unfold fX9_copyAll_14_b at hf
  refine lv_iload_n X.1.1 X.1.2.1 dX9_copyAll_14 rfl (lv_at hl 3 rfl) ?_
  refine lv_aload_n X.1.1 X.1.2.1 dX9_copyAll_15 rfl (lv_at hl 0 rfl) ?_
  refine e_getr X hW (C := RX9) (T := TX9) (N := 35) (j := 5) rfl (by decide) inX9 (by decide) (by decide) rfl (t := 94) rfl rfl mw_3_174 dX9_copyAll_16 ?_
  refine lv_iload_n X.1.1 X.1.2.1 dX9_copyAll_19 rfl (lv_at hl 1 rfl) ?_
  refine e_ild X hW (by decide) rfl dX9_copyAll_20 hf (fun v3 hf => ?_)
  refine lv_icmp_ge (tgt := 140) X.1.1 X.1.2.1 dX9_copyAll_21 (by decide) (fun c21 => ?_) (fun c21 => ?_)
  · rw [if_pos c21] at hf
    exact e_vret X hW hS hf dX9_copyAll_140
  · rw [if_neg c21] at hf
    refine lv_aload_n X.1.1 X.1.2.1 dX9_copyAll_24 rfl (lv_at hl 0 rfl) ?_
    refine e_getr X hW (C := RX9) (T := TX9) (N := 35) (j := 6) rfl (by decide) inX9 (by decide) (by decide) rfl (t := 95) rfl rfl mw_3_175 dX9_copyAll_25 ?_
    refine lv_bipush (v := 40) X.1.1 X.1.2.1 dX9_copyAll_28 (by decide) ?_
    refine lv_iload_n X.1.1 X.1.2.1 dX9_copyAll_30 rfl (lv_at hl 2 rfl) ?_
    refine lv_imul X.1.1 X.1.2.1 dX9_copyAll_31 ?_
    refine lv_iload_n X.1.1 X.1.2.1 dX9_copyAll_32 rfl (lv_at hl 3 rfl) ?_
    refine lv_iadd X.1.1 X.1.2.1 dX9_copyAll_33 ?_
    refine lv_aload_n X.1.1 X.1.2.1 dX9_copyAll_34 rfl (lv_at hl 0 rfl) ?_
    refine e_getr X hW (C := RX9) (T := TX9) (N := 35) (j := 6) rfl (by decide) inX9 (by decide) (by decide) rfl (t := 95) rfl rfl mw_3_175 dX9_copyAll_35 ?_
    refine lv_bipush (v := 40) X.1.1 X.1.2.1 dX9_copyAll_38 (by decide) ?_
    refine lv_iload_n X.1.1 X.1.2.1 dX9_copyAll_40 rfl (lv_at hl 1 rfl) ?_
    refine lv_imul X.1.1 X.1.2.1 dX9_copyAll_41 ?_
    refine lv_iload_n X.1.1 X.1.2.1 dX9_copyAll_42 rfl (lv_at hl 3 rfl) ?_
    refine lv_iadd X.1.1 X.1.2.1 dX9_copyAll_43 ?_
    refine e_ild X hW (by decide) rfl dX9_copyAll_44 hf (fun v4 hf => ?_)
    refine e_ist X hW hS (by decide) rfl dX9_copyAll_45 hf (fun m5 H locs hf hW hS => ?_)
    refine lv_aload_n X.1.1 X.1.2.1 dX9_copyAll_46 rfl (lv_at hl 0 rfl) ?_
    refine e_getr X hW (C := RX9) (T := TX9) (N := 35) (j := 7) rfl (by decide) inX9 (by decide) (by decide) rfl (t := 96) rfl rfl mw_3_176 dX9_copyAll_47 ?_
    refine lv_bipush (v := 40) X.1.1 X.1.2.1 dX9_copyAll_50 (by decide) ?_
    refine lv_iload_n X.1.1 X.1.2.1 dX9_copyAll_52 rfl (lv_at hl 2 rfl) ?_
    refine lv_imul X.1.1 X.1.2.1 dX9_copyAll_53 ?_
    refine lv_iload_n X.1.1 X.1.2.1 dX9_copyAll_54 rfl (lv_at hl 3 rfl) ?_
    refine lv_iadd X.1.1 X.1.2.1 dX9_copyAll_55 ?_
    refine lv_aload_n X.1.1 X.1.2.1 dX9_copyAll_56 rfl (lv_at hl 0 rfl) ?_
    refine e_getr X hW (C := RX9) (T := TX9) (N := 35) (j := 7) rfl (by decide) inX9 (by decide) (by decide) rfl (t := 96) rfl rfl mw_3_176 dX9_copyAll_57 ?_
    refine lv_bipush (v := 40) X.1.1 X.1.2.1 dX9_copyAll_60 (by decide) ?_
    refine lv_iload_n X.1.1 X.1.2.1 dX9_copyAll_62 rfl (lv_at hl 1 rfl) ?_
    refine lv_imul X.1.1 X.1.2.1 dX9_copyAll_63 ?_
    refine lv_iload_n X.1.1 X.1.2.1 dX9_copyAll_64 rfl (lv_at hl 3 rfl) ?_
    refine lv_iadd X.1.1 X.1.2.1 dX9_copyAll_65 ?_
    refine e_ild X hW (by decide) rfl dX9_copyAll_66 hf (fun v6 hf => ?_)
    refine e_ist X hW hS (by decide) rfl dX9_copyAll_67 hf (fun m7 H locs hf hW hS => ?_)
    refine lv_aload_n X.1.1 X.1.2.1 dX9_copyAll_68 rfl (lv_at hl 0 rfl) ?_
    refine e_getr X hW (C := RX9) (T := TX9) (N := 35) (j := 8) rfl (by decide) inX9 (by decide) (by decide) rfl (t := 97) rfl rfl mw_3_177 dX9_copyAll_69 ?_
    refine lv_bipush (v := 40) X.1.1 X.1.2.1 dX9_copyAll_72 (by decide) ?_
    refine lv_iload_n X.1.1 X.1.2.1 dX9_copyAll_74 rfl (lv_at hl 2 rfl) ?_
    refine lv_imul X.1.1 X.1.2.1 dX9_copyAll_75 ?_
    refine lv_iload_n X.1.1 X.1.2.1 dX9_copyAll_76 rfl (lv_at hl 3 rfl) ?_
    refine lv_iadd X.1.1 X.1.2.1 dX9_copyAll_77 ?_
    refine lv_aload_n X.1.1 X.1.2.1 dX9_copyAll_78 rfl (lv_at hl 0 rfl) ?_
    refine e_getr X hW (C := RX9) (T := TX9) (N := 35) (j := 8) rfl (by decide) inX9 (by decide) (by decide) rfl (t := 97) rfl rfl mw_3_177 dX9_copyAll_79 ?_
    refine lv_bipush (v := 40) X.1.1 X.1.2.1 dX9_copyAll_82 (by decide) ?_
    refine lv_iload_n X.1.1 X.1.2.1 dX9_copyAll_84 rfl (lv_at hl 1 rfl) ?_
    refine lv_imul X.1.1 X.1.2.1 dX9_copyAll_85 ?_
    refine lv_iload_n X.1.1 X.1.2.1 dX9_copyAll_86 rfl (lv_at hl 3 rfl) ?_
    refine lv_iadd X.1.1 X.1.2.1 dX9_copyAll_87 ?_
    refine e_ild X hW (by decide) rfl dX9_copyAll_88 hf (fun v8 hf => ?_)
    refine e_ist X hW hS (by decide) rfl dX9_copyAll_89 hf (fun m9 H locs hf hW hS => ?_)
    refine lv_aload_n X.1.1 X.1.2.1 dX9_copyAll_90 rfl (lv_at hl 0 rfl) ?_
    refine e_getr X hW (C := RX9) (T := TX9) (N := 35) (j := 9) rfl (by decide) inX9 (by decide) (by decide) rfl (t := 98) rfl rfl mw_3_178 dX9_copyAll_91 ?_
    refine lv_bipush (v := 40) X.1.1 X.1.2.1 dX9_copyAll_94 (by decide) ?_
    refine lv_iload_n X.1.1 X.1.2.1 dX9_copyAll_96 rfl (lv_at hl 2 rfl) ?_
    refine lv_imul X.1.1 X.1.2.1 dX9_copyAll_97 ?_
    refine lv_iload_n X.1.1 X.1.2.1 dX9_copyAll_98 rfl (lv_at hl 3 rfl) ?_
    refine lv_iadd X.1.1 X.1.2.1 dX9_copyAll_99 ?_
    refine lv_aload_n X.1.1 X.1.2.1 dX9_copyAll_100 rfl (lv_at hl 0 rfl) ?_
    refine e_getr X hW (C := RX9) (T := TX9) (N := 35) (j := 9) rfl (by decide) inX9 (by decide) (by decide) rfl (t := 98) rfl rfl mw_3_178 dX9_copyAll_101 ?_
    refine lv_bipush (v := 40) X.1.1 X.1.2.1 dX9_copyAll_104 (by decide) ?_
    refine lv_iload_n X.1.1 X.1.2.1 dX9_copyAll_106 rfl (lv_at hl 1 rfl) ?_
    refine lv_imul X.1.1 X.1.2.1 dX9_copyAll_107 ?_
    refine lv_iload_n X.1.1 X.1.2.1 dX9_copyAll_108 rfl (lv_at hl 3 rfl) ?_
    refine lv_iadd X.1.1 X.1.2.1 dX9_copyAll_109 ?_
    refine e_ild X hW (by decide) rfl dX9_copyAll_110 hf (fun v10 hf => ?_)
    refine e_ist X hW hS (by decide) rfl dX9_copyAll_111 hf (fun m11 H locs hf hW hS => ?_)
    refine lv_aload_n X.1.1 X.1.2.1 dX9_copyAll_112 rfl (lv_at hl 0 rfl) ?_
    refine e_getr X hW (C := RX9) (T := TX9) (N := 35) (j := 10) rfl (by decide) inX9 (by decide) (by decide) rfl (t := 99) rfl rfl mw_3_179 dX9_copyAll_113 ?_
    refine lv_bipush (v := 40) X.1.1 X.1.2.1 dX9_copyAll_116 (by decide) ?_
    refine lv_iload_n X.1.1 X.1.2.1 dX9_copyAll_118 rfl (lv_at hl 2 rfl) ?_
    refine lv_imul X.1.1 X.1.2.1 dX9_copyAll_119 ?_
    refine lv_iload_n X.1.1 X.1.2.1 dX9_copyAll_120 rfl (lv_at hl 3 rfl) ?_
    refine lv_iadd X.1.1 X.1.2.1 dX9_copyAll_121 ?_
    refine lv_aload_n X.1.1 X.1.2.1 dX9_copyAll_122 rfl (lv_at hl 0 rfl) ?_
    refine e_getr X hW (C := RX9) (T := TX9) (N := 35) (j := 10) rfl (by decide) inX9 (by decide) (by decide) rfl (t := 99) rfl rfl mw_3_179 dX9_copyAll_123 ?_
    refine lv_bipush (v := 40) X.1.1 X.1.2.1 dX9_copyAll_126 (by decide) ?_
    refine lv_iload_n X.1.1 X.1.2.1 dX9_copyAll_128 rfl (lv_at hl 1 rfl) ?_
    refine lv_imul X.1.1 X.1.2.1 dX9_copyAll_129 ?_
    refine lv_iload_n X.1.1 X.1.2.1 dX9_copyAll_130 rfl (lv_at hl 3 rfl) ?_
    refine lv_iadd X.1.1 X.1.2.1 dX9_copyAll_131 ?_
    refine e_ild X hW (by decide) rfl dX9_copyAll_132 hf (fun v12 hf => ?_)
    refine e_ist X hW hS (by decide) rfl dX9_copyAll_133 hf (fun m13 H locs hf hW hS => ?_)
    refine lv_iinc (v := (y3 + 1)) (lv' := [(3, .int (y3 + 1)), (0, .ref (E.1 89)), (1, .int y1), (2, .int y2)]) X.1.1 X.1.2.1 dX9_copyAll_134 hl (k := 3) rfl rfl (by decide) rfl (fun ls hl => ?_)
    refine lv_goto (tgt := 14) X.1.1 X.1.2.1 dX9_copyAll_137 (by decide) ?_
    exact hrec14 y1 y2 (y3 + 1) m13 H locs ls hf hW hS (lv_sub hl [1, 2, 3, 0] rfl)
theorem wfX9_copyAll_14 {p : Program} {l : Launch} {e : Env} {s : State} {m : MethodId} {args : Array Value} {below : List Frame} {meth : Method} {c : Code} {E : Gv} {F : Nat}  {u : Mem} (X : Fx p m c cX9_copyAll 4 s args (Cond.code yX9_copyAll cX9_copyAll 4 none) "OvenHouseModel" meth none E)  (n : Nat) : ∀ (y1 : Int32) (y2 : Int32) (y3 : Int32) (μ : Mem) (H : Heap) (locs : List Loc) (ls : Array Slot) (_ : fX9_copyAll_14 F   n y1 y2 y3 μ = some u) (_ : Wo E μ H) (_ : va_S (AE E) s.heap H locs) (_ : lv_has ls 4 [(0, .ref (E.1 89)), (1, .int y1), (2, .int y2), (3, .int y3)]), W0 p l e rmX9_copyAll s m args below meth c H locs (QcN E u) E (F0 m 14 ls []) := by
  induction n with
  | zero => intro y1 y2 y3 μ H locs ls hf hW hS hl; cases hf
  | succ n ih => intro y1 y2 y3 μ H locs ls hf hW hS hl; exact wfX9_copyAll_14_b X  _ ih y1 y2 y3 μ H locs ls hf hW hS hl
set_option maxRecDepth 100000 in
set_option maxHeartbeats 4000000 in
theorem ctfX9_copyAll {l : Launch} {E : Gv} (hD : Do E) (F : Nat) (x1 : Int32) (x2 : Int32)  (μ : Mem) : CtV l yX9_copyAll ((Cond.code yX9_copyAll cX9_copyAll 4 none) :: GG) rmX9_copyAll E [.ref (E.1 89), .int x1, .int x2] μ (fX9_copyAll F x1 x2 μ) := by
  intro u hf
  refine of_entry (cc := cX9_copyAll) (maxL := 4) (ret := none) (by decide +kernel) rfl hD (Nat.le_of_ble_eq_true rfl) (fun p e s m args below meth c X H locs hW hS ls hl => ?_)
  have hl : lv_has ls 4 [(0, .ref (E.1 89)), (1, .int x1), (2, .int x2)] := hl
  unfold fX9_copyAll at hf
  refine lv_aload_n X.1.1 X.1.2.1 dX9_copyAll_0 rfl (lv_at hl 0 rfl) ?_
  refine e_getr X hW (C := RX9) (T := TX9) (N := 35) (j := 5) rfl (by decide) inX9 (by decide) (by decide) rfl (t := 94) rfl rfl mw_3_174 dX9_copyAll_1 ?_
  refine lv_iload_n X.1.1 X.1.2.1 dX9_copyAll_4 rfl (lv_at hl 2 rfl) ?_
  refine lv_aload_n X.1.1 X.1.2.1 dX9_copyAll_5 rfl (lv_at hl 0 rfl) ?_
  refine e_getr X hW (C := RX9) (T := TX9) (N := 35) (j := 5) rfl (by decide) inX9 (by decide) (by decide) rfl (t := 94) rfl rfl mw_3_174 dX9_copyAll_6 ?_
  refine lv_iload_n X.1.1 X.1.2.1 dX9_copyAll_9 rfl (lv_at hl 1 rfl) ?_
  refine e_ild X hW (by decide) rfl dX9_copyAll_10 hf (fun v1 hf => ?_)
  refine e_ist X hW hS (by decide) rfl dX9_copyAll_11 hf (fun m2 H locs hf hW hS => ?_)
  refine lv_iconst (v := 0) X.1.1 X.1.2.1 dX9_copyAll_12 (by decide) ?_
  refine lv_istore_n (lv' := [(3, .int 0), (0, .ref (E.1 89)), (1, .int x1), (2, .int x2)]) X.1.1 X.1.2.1 dX9_copyAll_13 rfl hl (by decide) rfl (fun ls hl => ?_)
  exact wfX9_copyAll_14 X  F x1 x2 0 m2 H locs ls hf hW hS (lv_sub hl [1, 2, 3, 0] rfl)
-- OvenHouseModel.keep
def rmX9_keep : Room := { frames := 1, cells := 0, slots := 0, locals := 23 }
set_option maxRecDepth 100000 in
set_option maxHeartbeats 4000000 in
theorem wfX9_keep_34 {p : Program} {l : Launch} {e : Env} {s : State} {m : MethodId} {args : Array Value} {below : List Frame} {meth : Method} {c : Code} {E : Gv} {F : Nat}  {u : Mem} (X : Fx p m c cX9_keep 2 s args (Cond.code yX9_keep cX9_keep 2 none) "OvenHouseModel" meth none E)  (μ : Mem) (H : Heap) (locs : List Loc) (ls : Array Slot) (hf : fX9_keep_34 F    μ = some u) (hW : Wo E μ H) (hS : va_S (AE E) s.heap H locs) (hl : lv_has ls 2 [(0, .ref (E.1 89))]) : W0 p l e rmX9_keep s m args below meth c H locs (QcN E u) E (F0 m 34 ls []) := by
  unfold fX9_keep_34 at hf
  refine lv_aload_n X.1.1 X.1.2.1 dX9_keep_34 rfl (lv_at hl 0 rfl) ?_
  refine lv_dup X.1.1 X.1.2.1 dX9_keep_35 rfl ?_
  refine e_geti X hW (C := RX9) (T := TX9) (N := 35) (j := 11) rfl (by decide) inX9 (by decide) (by decide) rfl rfl mw_3_180 dX9_keep_36 ?_
  refine lv_iconst (v := 1) X.1.1 X.1.2.1 dX9_keep_39 (by decide) ?_
  refine lv_iadd X.1.1 X.1.2.1 dX9_keep_40 ?_
  refine e_put X hW hS (C := RX9) (T := TX9) (N := 35) (j := 11) (tyF := tyX9) rfl (by decide) inX9 tyX9_ok nmX9 (by decide) (by decide) rfl rfl mw_3_180 rfl rfl rfl dX9_keep_41 hf (fun m1 H locs hf hW hS => ?_)
  refine lv_aload_n X.1.1 X.1.2.1 dX9_keep_44 rfl (lv_at hl 0 rfl) ?_
  refine lv_iconst (v := 0) X.1.1 X.1.2.1 dX9_keep_45 (by decide) ?_
  refine lv_aload_n X.1.1 X.1.2.1 dX9_keep_46 rfl (lv_at hl 0 rfl) ?_
  refine e_geti X hW (C := RX9) (T := TX9) (N := 35) (j := 11) rfl (by decide) inX9 (by decide) (by decide) rfl rfl mw_3_180 dX9_keep_47 ?_
  refine e_vv (rest := []) (As := [.int 0, .int (m1 89 11)]) X hl.1 hW hS (C := RX9) (T := TX9) (N := 35) rfl (by decide) (ctfX9_copyAll X.2.2.2.2 F 0 (m1 89 11) m1) (cwV (rm := rmX9_copyAll) 2 X.1.2.2.2.2 (gd_V mw_4_76 mw_4_78 mw_0_17 mw_1_11 mw_4_79) rfl rfl rfl (by decide +kernel) ⟨Nat.le_of_ble_eq_true rfl, Nat.le_of_ble_eq_true rfl⟩) rfl rfl (Nat.le_of_ble_eq_true rfl) dX9_keep_50 ⟨Nat.zero_le _, Nat.zero_le _⟩ hf (fun m2 H locs hf hW hS => ?_)
  exact e_vret X hW hS hf dX9_keep_53
set_option maxRecDepth 100000 in
set_option maxHeartbeats 4000000 in
theorem wfX9_keep_10_b {p : Program} {l : Launch} {e : Env} {s : State} {m : MethodId} {args : Array Value} {below : List Frame} {meth : Method} {c : Code} {E : Gv} {F : Nat}  {u : Mem} (X : Fx p m c cX9_keep 2 s args (Cond.code yX9_keep cX9_keep 2 none) "OvenHouseModel" meth none E)  (rec10 : Int32 → Mem → Option Mem) (hrec10 : ∀ (y1 : Int32) (μ : Mem) (H : Heap) (locs : List Loc) (ls : Array Slot), rec10 y1 μ = some u → Wo E μ H → va_S (AE E) s.heap H locs → lv_has ls 2 [(0, .ref (E.1 89)), (1, .int y1)] → W0 p l e rmX9_keep s m args below meth c H locs (QcN E u) E (F0 m 10 ls [])) (y1 : Int32) (μ : Mem) (H : Heap) (locs : List Loc) (ls : Array Slot) (hf : fX9_keep_10_b F  rec10 y1 μ = some u) (hW : Wo E μ H) (hS : va_S (AE E) s.heap H locs) (hl : lv_has ls 2 [(0, .ref (E.1 89)), (1, .int y1)]) : W0 p l e rmX9_keep s m args below meth c H locs (QcN E u) E (F0 m 10 ls []) := by
  unfold fX9_keep_10_b at hf
  refine lv_iload_n X.1.1 X.1.2.1 dX9_keep_10 rfl (lv_at hl 1 rfl) ?_
  refine lv_iconst (v := 5) X.1.1 X.1.2.1 dX9_keep_11 (by decide) ?_
  refine lv_icmp_ge (tgt := 29) X.1.1 X.1.2.1 dX9_keep_12 (by decide) (fun c12 => ?_) (fun c12 => ?_)
  · rw [if_pos c12] at hf
    refine lv_aload_n X.1.1 X.1.2.1 dX9_keep_29 rfl (lv_at hl 0 rfl) ?_
    refine lv_iconst (v := 4) X.1.1 X.1.2.1 dX9_keep_30 (by decide) ?_
    refine e_put X hW hS (C := RX9) (T := TX9) (N := 35) (j := 11) (tyF := tyX9) rfl (by decide) inX9 tyX9_ok nmX9 (by decide) (by decide) rfl rfl mw_3_180 rfl rfl rfl dX9_keep_31 hf (fun m3 H locs hf hW hS => ?_)
    exact wfX9_keep_34 X   m3 H locs ls hf hW hS (lv_sub hl [0] rfl)
  · rw [if_neg c12] at hf
    refine lv_aload_n X.1.1 X.1.2.1 dX9_keep_15 rfl (lv_at hl 0 rfl) ?_
    refine lv_iload_n X.1.1 X.1.2.1 dX9_keep_16 rfl (lv_at hl 1 rfl) ?_
    refine lv_iconst (v := 1) X.1.1 X.1.2.1 dX9_keep_17 (by decide) ?_
    refine lv_iadd X.1.1 X.1.2.1 dX9_keep_18 ?_
    refine lv_iload_n X.1.1 X.1.2.1 dX9_keep_19 rfl (lv_at hl 1 rfl) ?_
    refine e_vv (rest := []) (As := [.int (y1 + 1), .int y1]) X hl.1 hW hS (C := RX9) (T := TX9) (N := 35) rfl (by decide) (ctfX9_copyAll X.2.2.2.2 F (y1 + 1) y1 μ) (cwV (rm := rmX9_copyAll) 2 X.1.2.2.2.2 (gd_V mw_4_76 mw_4_78 mw_0_17 mw_1_11 mw_4_79) rfl rfl rfl (by decide +kernel) ⟨Nat.le_of_ble_eq_true rfl, Nat.le_of_ble_eq_true rfl⟩) rfl rfl (Nat.le_of_ble_eq_true rfl) dX9_keep_20 ⟨Nat.zero_le _, Nat.zero_le _⟩ hf (fun m4 H locs hf hW hS => ?_)
    refine lv_iinc (v := (y1 + 1)) (lv' := [(1, .int (y1 + 1)), (0, .ref (E.1 89))]) X.1.1 X.1.2.1 dX9_keep_23 hl (k := 1) rfl rfl (by decide) rfl (fun ls hl => ?_)
    refine lv_goto (tgt := 10) X.1.1 X.1.2.1 dX9_keep_26 (by decide) ?_
    exact hrec10 (y1 + 1) m4 H locs ls hf hW hS (lv_sub hl [1, 0] rfl)
theorem wfX9_keep_10 {p : Program} {l : Launch} {e : Env} {s : State} {m : MethodId} {args : Array Value} {below : List Frame} {meth : Method} {c : Code} {E : Gv} {F : Nat}  {u : Mem} (X : Fx p m c cX9_keep 2 s args (Cond.code yX9_keep cX9_keep 2 none) "OvenHouseModel" meth none E)  (n : Nat) : ∀ (y1 : Int32) (μ : Mem) (H : Heap) (locs : List Loc) (ls : Array Slot) (_ : fX9_keep_10 F   n y1 μ = some u) (_ : Wo E μ H) (_ : va_S (AE E) s.heap H locs) (_ : lv_has ls 2 [(0, .ref (E.1 89)), (1, .int y1)]), W0 p l e rmX9_keep s m args below meth c H locs (QcN E u) E (F0 m 10 ls []) := by
  induction n with
  | zero => intro y1 μ H locs ls hf hW hS hl; cases hf
  | succ n ih => intro y1 μ H locs ls hf hW hS hl; exact wfX9_keep_10_b X  _ ih y1 μ H locs ls hf hW hS hl
set_option maxRecDepth 100000 in
set_option maxHeartbeats 4000000 in
theorem ctfX9_keep {l : Launch} {E : Gv} (hD : Do E) (F : Nat)  (μ : Mem) : CtV l yX9_keep ((Cond.code yX9_keep cX9_keep 2 none) :: GG) rmX9_keep E [.ref (E.1 89)] μ (fX9_keep F μ) := by
  intro u hf
  refine of_entry (cc := cX9_keep) (maxL := 2) (ret := none) (by decide +kernel) rfl hD (Nat.le_of_ble_eq_true rfl) (fun p e s m args below meth c X H locs hW hS ls hl => ?_)
  have hl : lv_has ls 2 [(0, .ref (E.1 89))] := hl
  unfold fX9_keep at hf
  refine lv_aload_n X.1.1 X.1.2.1 dX9_keep_0 rfl (lv_at hl 0 rfl) ?_
  refine e_geti X hW (C := RX9) (T := TX9) (N := 35) (j := 11) rfl (by decide) inX9 (by decide) (by decide) rfl rfl mw_3_180 dX9_keep_1 ?_
  refine lv_iconst (v := 5) X.1.1 X.1.2.1 dX9_keep_4 (by decide) ?_
  refine lv_icmp_ne (tgt := 34) X.1.1 X.1.2.1 dX9_keep_5 (by decide) (fun c5 => ?_) (fun c5 => ?_)
  · rw [if_neg c5] at hf
    exact wfX9_keep_34 X   μ H locs ls hf hW hS (lv_sub hl [0] rfl)
  · rw [if_pos c5] at hf
    refine lv_iconst (v := 1) X.1.1 X.1.2.1 dX9_keep_8 (by decide) ?_
    refine lv_istore_n (lv' := [(1, .int 1), (0, .ref (E.1 89))]) X.1.1 X.1.2.1 dX9_keep_9 rfl hl (by decide) rfl (fun ls hl => ?_)
    exact wfX9_keep_10 X  F 1 μ H locs ls hf hW hS (lv_sub hl [1, 0] rfl)
-- OvenHouseModel.undo
def rmX9_undo : Room := { frames := 1, cells := 0, slots := 0, locals := 23 }
set_option maxRecDepth 100000 in
set_option maxHeartbeats 4000000 in
theorem ctfX9_undo {l : Launch} {E : Gv} (hD : Do E) (F : Nat)  (μ : Mem) : CtI l yX9_undo ((Cond.code yX9_undo cX9_undo 1 (some .int)) :: GG) rmX9_undo E [.ref (E.1 89)] μ (fX9_undo F μ) := by
  intro r u hf
  refine of_entry (cc := cX9_undo) (maxL := 1) (ret := (some .int)) (by decide +kernel) rfl hD (Nat.le_of_ble_eq_true rfl) (fun p e s m args below meth c X H locs hW hS ls hl => ?_)
  have hl : lv_has ls 1 [(0, .ref (E.1 89))] := hl
  unfold fX9_undo at hf
  refine lv_aload_n X.1.1 X.1.2.1 dX9_undo_0 rfl (lv_at hl 0 rfl) ?_
  refine e_geti X hW (C := RX9) (T := TX9) (N := 35) (j := 11) rfl (by decide) inX9 (by decide) (by decide) rfl rfl mw_3_180 dX9_undo_1 ?_
  refine lv_if_ne (tgt := 10) X.1.1 X.1.2.1 dX9_undo_4 (by decide) (fun c4 => ?_) (fun c4 => ?_)
  · rw [if_neg c4] at hf
    refine lv_aload_n X.1.1 X.1.2.1 dX9_undo_10 rfl (lv_at hl 0 rfl) ?_
    refine lv_aload_n X.1.1 X.1.2.1 dX9_undo_11 rfl (lv_at hl 0 rfl) ?_
    refine e_geti X hW (C := RX9) (T := TX9) (N := 35) (j := 11) rfl (by decide) inX9 (by decide) (by decide) rfl rfl mw_3_180 dX9_undo_12 ?_
    refine lv_iconst (v := 0) X.1.1 X.1.2.1 dX9_undo_15 (by decide) ?_
    refine e_vv (rest := []) (As := [.int (μ 89 11), .int 0]) X hl.1 hW hS (C := RX9) (T := TX9) (N := 35) rfl (by decide) (ctfX9_copyAll X.2.2.2.2 F (μ 89 11) 0 μ) (cwV (rm := rmX9_copyAll) 2 X.1.2.2.2.2 (gd_V mw_4_76 mw_4_78 mw_0_17 mw_1_11 mw_4_79) rfl rfl rfl (by decide +kernel) ⟨Nat.le_of_ble_eq_true rfl, Nat.le_of_ble_eq_true rfl⟩) rfl rfl (Nat.le_of_ble_eq_true rfl) dX9_undo_16 ⟨Nat.zero_le _, Nat.zero_le _⟩ hf (fun m1 H locs hf hW hS => ?_)
    refine lv_aload_n X.1.1 X.1.2.1 dX9_undo_19 rfl (lv_at hl 0 rfl) ?_
    refine lv_dup X.1.1 X.1.2.1 dX9_undo_20 rfl ?_
    refine e_geti X hW (C := RX9) (T := TX9) (N := 35) (j := 11) rfl (by decide) inX9 (by decide) (by decide) rfl rfl mw_3_180 dX9_undo_21 ?_
    refine lv_iconst (v := 1) X.1.1 X.1.2.1 dX9_undo_24 (by decide) ?_
    refine lv_isub X.1.1 X.1.2.1 dX9_undo_25 ?_
    refine e_put X hW hS (C := RX9) (T := TX9) (N := 35) (j := 11) (tyF := tyX9) rfl (by decide) inX9 tyX9_ok nmX9 (by decide) (by decide) rfl rfl mw_3_180 rfl rfl rfl dX9_undo_26 hf (fun m2 H locs hf hW hS => ?_)
    refine lv_aload_n X.1.1 X.1.2.1 dX9_undo_29 rfl (lv_at hl 0 rfl) ?_
    refine lv_iconst (v := 0) X.1.1 X.1.2.1 dX9_undo_30 (by decide) ?_
    refine e_put X hW hS (C := RX9) (T := TX9) (N := 35) (j := 15) (tyF := tyX9) rfl (by decide) inX9 tyX9_ok nmX9 (by decide) (by decide) rfl rfl mw_3_184 rfl rfl rfl dX9_undo_31 hf (fun m3 H locs hf hW hS => ?_)
    refine lv_aload_n X.1.1 X.1.2.1 dX9_undo_34 rfl (lv_at hl 0 rfl) ?_
    refine e_geti X hW (C := RX9) (T := TX9) (N := 35) (j := 11) rfl (by decide) inX9 (by decide) (by decide) rfl rfl mw_3_180 dX9_undo_35 ?_
    exact e_iret X hW hS hf dX9_undo_38
  · rw [if_pos c4] at hf
    refine lv_bipush (v := (-5)) X.1.1 X.1.2.1 dX9_undo_7 (by decide) ?_
    exact e_iret X hW hS hf dX9_undo_9
-- OvenHouseModel.come
def rmX9_come : Room := { frames := 0, cells := 0, slots := 0, locals := 0 }
set_option maxRecDepth 100000 in
set_option maxHeartbeats 4000000 in
theorem ctfX9_come {l : Launch} {E : Gv} (hD : Do E) (F : Nat) (x1 : Int32) (x2 : Int32)  (μ : Mem) : CtV l yX9_come ((Cond.code yX9_come cX9_come 4 none) :: GG) rmX9_come E [.ref (E.1 89), .int x1, .int x2] μ (fX9_come F x1 x2 μ) := by
  intro u hf
  refine of_entry (cc := cX9_come) (maxL := 4) (ret := none) (by decide +kernel) rfl hD (Nat.le_of_ble_eq_true rfl) (fun p e s m args below meth c X H locs hW hS ls hl => ?_)
  have hl : lv_has ls 4 [(0, .ref (E.1 89)), (1, .int x1), (2, .int x2)] := hl
  unfold fX9_come at hf
  refine lv_aload_n X.1.1 X.1.2.1 dX9_come_0 rfl (lv_at hl 0 rfl) ?_
  refine e_getr X hW (C := RX9) (T := TX9) (N := 35) (j := 5) rfl (by decide) inX9 (by decide) (by decide) rfl (t := 94) rfl rfl mw_3_174 dX9_come_1 ?_
  refine lv_iconst (v := 0) X.1.1 X.1.2.1 dX9_come_4 (by decide) ?_
  refine e_ild X hW (by decide) rfl dX9_come_5 hf (fun v1 hf => ?_)
  refine lv_istore_n (lv' := [(3, .int v1), (0, .ref (E.1 89)), (1, .int x1), (2, .int x2)]) X.1.1 X.1.2.1 dX9_come_6 rfl hl (by decide) rfl (fun ls hl => ?_)
  refine lv_aload_n X.1.1 X.1.2.1 dX9_come_7 rfl (lv_at hl 1 rfl) ?_
  refine e_getr X hW (C := RX9) (T := TX9) (N := 35) (j := 6) rfl (by decide) inX9 (by decide) (by decide) rfl (t := 95) rfl rfl mw_3_175 dX9_come_8 ?_
  refine lv_iload_n X.1.1 X.1.2.1 dX9_come_11 rfl (lv_at hl 0 rfl) ?_
  refine lv_iload_n X.1.1 X.1.2.1 dX9_come_12 rfl (lv_at hl 2 rfl) ?_
  refine e_ist X hW hS (by decide) rfl dX9_come_13 hf (fun m2 H locs hf hW hS => ?_)
  refine lv_aload_n X.1.1 X.1.2.1 dX9_come_14 rfl (lv_at hl 1 rfl) ?_
  refine e_getr X hW (C := RX9) (T := TX9) (N := 35) (j := 7) rfl (by decide) inX9 (by decide) (by decide) rfl (t := 96) rfl rfl mw_3_176 dX9_come_15 ?_
  refine lv_iload_n X.1.1 X.1.2.1 dX9_come_18 rfl (lv_at hl 0 rfl) ?_
  refine lv_iload_n X.1.1 X.1.2.1 dX9_come_19 rfl (lv_at hl 3 rfl) ?_
  refine e_ist X hW hS (by decide) rfl dX9_come_20 hf (fun m3 H locs hf hW hS => ?_)
  refine lv_aload_n X.1.1 X.1.2.1 dX9_come_21 rfl (lv_at hl 1 rfl) ?_
  refine e_getr X hW (C := RX9) (T := TX9) (N := 35) (j := 8) rfl (by decide) inX9 (by decide) (by decide) rfl (t := 97) rfl rfl mw_3_177 dX9_come_22 ?_
  refine lv_iload_n X.1.1 X.1.2.1 dX9_come_25 rfl (lv_at hl 0 rfl) ?_
  refine lv_iconst (v := 0) X.1.1 X.1.2.1 dX9_come_26 (by decide) ?_
  refine e_ist X hW hS (by decide) rfl dX9_come_27 hf (fun m4 H locs hf hW hS => ?_)
  refine lv_aload_n X.1.1 X.1.2.1 dX9_come_28 rfl (lv_at hl 1 rfl) ?_
  refine e_getr X hW (C := RX9) (T := TX9) (N := 35) (j := 9) rfl (by decide) inX9 (by decide) (by decide) rfl (t := 98) rfl rfl mw_3_178 dX9_come_29 ?_
  refine lv_iload_n X.1.1 X.1.2.1 dX9_come_32 rfl (lv_at hl 0 rfl) ?_
  refine lv_iconst (v := 0) X.1.1 X.1.2.1 dX9_come_33 (by decide) ?_
  refine e_ist X hW hS (by decide) rfl dX9_come_34 hf (fun m5 H locs hf hW hS => ?_)
  refine lv_aload_n X.1.1 X.1.2.1 dX9_come_35 rfl (lv_at hl 1 rfl) ?_
  refine e_getr X hW (C := RX9) (T := TX9) (N := 35) (j := 10) rfl (by decide) inX9 (by decide) (by decide) rfl (t := 99) rfl rfl mw_3_179 dX9_come_36 ?_
  refine lv_iload_n X.1.1 X.1.2.1 dX9_come_39 rfl (lv_at hl 0 rfl) ?_
  refine lv_iload_n X.1.1 X.1.2.1 dX9_come_40 rfl (lv_at hl 0 rfl) ?_
  refine e_ist X hW hS (by decide) rfl dX9_come_41 hf (fun m6 H locs hf hW hS => ?_)
  refine lv_aload_n X.1.1 X.1.2.1 dX9_come_42 rfl (lv_at hl 1 rfl) ?_
  refine e_getr X hW (C := RX9) (T := TX9) (N := 35) (j := 5) rfl (by decide) inX9 (by decide) (by decide) rfl (t := 94) rfl rfl mw_3_174 dX9_come_43 ?_
  refine lv_iconst (v := 0) X.1.1 X.1.2.1 dX9_come_46 (by decide) ?_
  refine lv_dup2_11 X.1.1 X.1.2.1 dX9_come_47 rfl rfl ?_
  refine e_ild X hW (by decide) rfl dX9_come_48 hf (fun v7 hf => ?_)
  refine lv_iconst (v := 1) X.1.1 X.1.2.1 dX9_come_49 (by decide) ?_
  refine lv_iadd X.1.1 X.1.2.1 dX9_come_50 ?_
  refine e_ist X hW hS (by decide) rfl dX9_come_51 hf (fun m8 H locs hf hW hS => ?_)
  refine lv_aload_n X.1.1 X.1.2.1 dX9_come_52 rfl (lv_at hl 1 rfl) ?_
  refine lv_iconst (v := 0) X.1.1 X.1.2.1 dX9_come_53 (by decide) ?_
  refine e_put X hW hS (C := RX9) (T := TX9) (N := 35) (j := 15) (tyF := tyX9) rfl (by decide) inX9 tyX9_ok nmX9 (by decide) (by decide) rfl rfl mw_3_184 rfl rfl rfl dX9_come_54 hf (fun m9 H locs hf hW hS => ?_)
  exact e_vret X hW hS hf dX9_come_57
