-- OvenHouseModel.joined
def rmX9_joined : Room := { frames := 3, cells := 0, slots := 0, locals := 70 }
set_option maxRecDepth 100000 in
set_option maxHeartbeats 4000000 in
theorem wfX9_joined_140_b {p : Program} {l : Launch} {e : Env} {s : State} {m : MethodId} {args : Array Value} {below : List Frame} {meth : Method} {c : Code} {E : Gv} {F : Nat}  {r : Int32} {u : Mem} (X : Fx p m c cX9_joined 6 s args (Cond.code yX9_joined cX9_joined 6 (some .int)) "OvenHouseModel" meth (some .int) E)  (rec106 : Int32 → Mem → Option (Int32 × Mem)) (hrec106 : ∀ (y1 : Int32) (μ : Mem) (H : Heap) (locs : List Loc) (ls : Array Slot), rec106 y1 μ = some (r, u) → Wo E μ H → va_S (AE E) s.heap H locs → lv_has ls 6 [(0, .ref (E.1 89)), (1, .int y1)] → W0 p l e rmX9_joined s m args below meth c H locs (QcI E r u) E (F0 m 106 ls [])) (rec140 : Int32 → Int32 → Mem → Option (Int32 × Mem)) (hrec140 : ∀ (y1 : Int32) (y2 : Int32) (μ : Mem) (H : Heap) (locs : List Loc) (ls : Array Slot), rec140 y1 y2 μ = some (r, u) → Wo E μ H → va_S (AE E) s.heap H locs → lv_has ls 6 [(0, .ref (E.1 89)), (1, .int y1), (2, .int y2)] → W0 p l e rmX9_joined s m args below meth c H locs (QcI E r u) E (F0 m 140 ls [])) (y1 : Int32) (y2 : Int32) (μ : Mem) (H : Heap) (locs : List Loc) (ls : Array Slot) (hf : fX9_joined_140_b F  rec106 rec140 y1 y2 μ = some (r, u)) (hW : Wo E μ H) (hS : va_S (AE E) s.heap H locs) (hl : lv_has ls 6 [(0, .ref (E.1 89)), (1, .int y1), (2, .int y2)]) : W0 p l e rmX9_joined s m args below meth c H locs (QcI E r u) E (F0 m 140 ls []) := by
  unfold fX9_joined_140_b at hf
  refine lv_aload_n X.1.1 X.1.2.1 dX9_joined_140 rfl (lv_at hl 0 rfl) ?_
  refine e_getr X hW (C := RX9) (T := TX9) (N := 35) (j := 28) rfl (by decide) inX9 (by decide) (by decide) rfl (t := 111) rfl rfl mw_3_197 dX9_joined_141 ?_
  refine lv_iload_n X.1.1 X.1.2.1 dX9_joined_144 rfl (lv_at hl 2 rfl) ?_
  refine e_ild X hW (by decide) rfl dX9_joined_145 hf (fun v28 hf => ?_)
  refine lv_iconst (v := (-1)) X.1.1 X.1.2.1 dX9_joined_146 (by decide) ?_
  refine lv_icmp_ne (tgt := 167) X.1.1 X.1.2.1 dX9_joined_147 (by decide) (fun c147 => ?_) (fun c147 => ?_)
  · rw [if_neg c147] at hf
    refine lv_iinc (v := (y1 + 1)) (lv' := [(1, .int (y1 + 1)), (0, .ref (E.1 89)), (2, .int y2)]) X.1.1 X.1.2.1 dX9_joined_167 hl (k := 1) rfl rfl (by decide) rfl (fun ls hl => ?_)
    refine lv_goto (tgt := 106) X.1.1 X.1.2.1 dX9_joined_170 (by decide) ?_
    exact hrec106 (y1 + 1) μ H locs ls hf hW hS (lv_sub hl [1, 0] rfl)
  · rw [if_pos c147] at hf
    refine lv_aload_n X.1.1 X.1.2.1 dX9_joined_150 rfl (lv_at hl 0 rfl) ?_
    refine e_getr X hW (C := RX9) (T := TX9) (N := 35) (j := 28) rfl (by decide) inX9 (by decide) (by decide) rfl (t := 111) rfl rfl mw_3_197 dX9_joined_151 ?_
    refine lv_iload_n X.1.1 X.1.2.1 dX9_joined_154 rfl (lv_at hl 2 rfl) ?_
    refine lv_iload_n X.1.1 X.1.2.1 dX9_joined_155 rfl (lv_at hl 1 rfl) ?_
    refine e_ist X hW hS (by decide) rfl dX9_joined_156 hf (fun m29 H locs hf hW hS => ?_)
    refine lv_aload_n X.1.1 X.1.2.1 dX9_joined_157 rfl (lv_at hl 0 rfl) ?_
    refine e_getr X hW (C := RX9) (T := TX9) (N := 35) (j := 27) rfl (by decide) inX9 (by decide) (by decide) rfl (t := 110) rfl rfl mw_3_196 dX9_joined_158 ?_
    refine lv_iload_n X.1.1 X.1.2.1 dX9_joined_161 rfl (lv_at hl 2 rfl) ?_
    refine e_ild X hW (by decide) rfl dX9_joined_162 hf (fun v30 hf => ?_)
    refine lv_istore_n (lv' := [(2, .int v30), (0, .ref (E.1 89)), (1, .int y1)]) X.1.1 X.1.2.1 dX9_joined_163 rfl hl (by decide) rfl (fun ls hl => ?_)
    refine lv_goto (tgt := 140) X.1.1 X.1.2.1 dX9_joined_164 (by decide) ?_
    exact hrec140 y1 v30 m29 H locs ls hf hW hS (lv_sub hl [1, 2, 0] rfl)
theorem wfX9_joined_140 {p : Program} {l : Launch} {e : Env} {s : State} {m : MethodId} {args : Array Value} {below : List Frame} {meth : Method} {c : Code} {E : Gv} {F : Nat}  {r : Int32} {u : Mem} (X : Fx p m c cX9_joined 6 s args (Cond.code yX9_joined cX9_joined 6 (some .int)) "OvenHouseModel" meth (some .int) E)  (rec106 : Int32 → Mem → Option (Int32 × Mem)) (hrec106 : ∀ (y1 : Int32) (μ : Mem) (H : Heap) (locs : List Loc) (ls : Array Slot), rec106 y1 μ = some (r, u) → Wo E μ H → va_S (AE E) s.heap H locs → lv_has ls 6 [(0, .ref (E.1 89)), (1, .int y1)] → W0 p l e rmX9_joined s m args below meth c H locs (QcI E r u) E (F0 m 106 ls [])) (n : Nat) : ∀ (y1 : Int32) (y2 : Int32) (μ : Mem) (H : Heap) (locs : List Loc) (ls : Array Slot) (_ : fX9_joined_140 F  rec106 n y1 y2 μ = some (r, u)) (_ : Wo E μ H) (_ : va_S (AE E) s.heap H locs) (_ : lv_has ls 6 [(0, .ref (E.1 89)), (1, .int y1), (2, .int y2)]), W0 p l e rmX9_joined s m args below meth c H locs (QcI E r u) E (F0 m 140 ls []) := by
  induction n with
  | zero => intro y1 y2 μ H locs ls hf hW hS hl; cases hf
  | succ n ih => intro y1 y2 μ H locs ls hf hW hS hl; exact wfX9_joined_140_b X rec106 hrec106 _ ih y1 y2 μ H locs ls hf hW hS hl
set_option maxRecDepth 100000 in
set_option maxHeartbeats 4000000 in
theorem wfX9_joined_380_b {p : Program} {l : Launch} {e : Env} {s : State} {m : MethodId} {args : Array Value} {below : List Frame} {meth : Method} {c : Code} {E : Gv} {F : Nat}  {r : Int32} {u : Mem} (X : Fx p m c cX9_joined 6 s args (Cond.code yX9_joined cX9_joined 6 (some .int)) "OvenHouseModel" meth (some .int) E)  (rec240 : Int32 → Mem → Option (Int32 × Mem)) (hrec240 : ∀ (y1 : Int32) (μ : Mem) (H : Heap) (locs : List Loc) (ls : Array Slot), rec240 y1 μ = some (r, u) → Wo E μ H → va_S (AE E) s.heap H locs → lv_has ls 6 [(0, .ref (E.1 89)), (1, .int y1)] → W0 p l e rmX9_joined s m args below meth c H locs (QcI E r u) E (F0 m 240 ls [])) (rec380 : Int32 → Int32 → Int32 → Int32 → Mem → Option (Int32 × Mem)) (hrec380 : ∀ (y1 : Int32) (y3 : Int32) (y4 : Int32) (y5 : Int32) (μ : Mem) (H : Heap) (locs : List Loc) (ls : Array Slot), rec380 y1 y3 y4 y5 μ = some (r, u) → Wo E μ H → va_S (AE E) s.heap H locs → lv_has ls 6 [(0, .ref (E.1 89)), (1, .int y1), (3, .int y3), (4, .int y4), (5, .int y5)] → W0 p l e rmX9_joined s m args below meth c H locs (QcI E r u) E (F0 m 380 ls [])) (y1 : Int32) (y3 : Int32) (y4 : Int32) (y5 : Int32) (μ : Mem) (H : Heap) (locs : List Loc) (ls : Array Slot) (hf : fX9_joined_380_b F  rec240 rec380 y1 y3 y4 y5 μ = some (r, u)) (hW : Wo E μ H) (hS : va_S (AE E) s.heap H locs) (hl : lv_has ls 6 [(0, .ref (E.1 89)), (1, .int y1), (3, .int y3), (4, .int y4), (5, .int y5)]) : W0 p l e rmX9_joined s m args below meth c H locs (QcI E r u) E (F0 m 380 ls []) := by
  unfold fX9_joined_380_b at hf
  refine lv_iload X.1.1 X.1.2.1 dX9_joined_380 (lv_at hl 4 rfl) ?_
  refine lv_aload_n X.1.1 X.1.2.1 dX9_joined_382 rfl (lv_at hl 0 rfl) ?_
  refine e_geti X hW (C := RX9) (T := TX9) (N := 35) (j := 21) rfl (by decide) inX9 (by decide) (by decide) rfl rfl mw_3_190 dX9_joined_383 ?_
  refine lv_icmp_ge (tgt := 425) X.1.1 X.1.2.1 dX9_joined_386 (by decide) (fun c386 => ?_) (fun c386 => ?_)
  · rw [if_pos c386] at hf
    refine lv_iinc (v := (y1 + 1)) (lv' := [(1, .int (y1 + 1)), (0, .ref (E.1 89)), (3, .int y3), (4, .int y4), (5, .int y5)]) X.1.1 X.1.2.1 dX9_joined_425 hl (k := 1) rfl rfl (by decide) rfl (fun ls hl => ?_)
    refine lv_goto (tgt := 240) X.1.1 X.1.2.1 dX9_joined_428 (by decide) ?_
    exact hrec240 (y1 + 1) μ H locs ls hf hW hS (lv_sub hl [1, 0] rfl)
  · rw [if_neg c386] at hf
    refine lv_aload_n X.1.1 X.1.2.1 dX9_joined_389 rfl (lv_at hl 0 rfl) ?_
    refine e_getr X hW (C := RX9) (T := TX9) (N := 35) (j := 28) rfl (by decide) inX9 (by decide) (by decide) rfl (t := 111) rfl rfl mw_3_197 dX9_joined_390 ?_
    refine lv_iload X.1.1 X.1.2.1 dX9_joined_393 (lv_at hl 4 rfl) ?_
    refine lv_aload_n X.1.1 X.1.2.1 dX9_joined_395 rfl (lv_at hl 0 rfl) ?_
    refine e_getr X hW (C := RX9) (T := TX9) (N := 35) (j := 28) rfl (by decide) inX9 (by decide) (by decide) rfl (t := 111) rfl rfl mw_3_197 dX9_joined_396 ?_
    refine lv_iload X.1.1 X.1.2.1 dX9_joined_399 (lv_at hl 4 rfl) ?_
    refine e_ild X hW (by decide) rfl dX9_joined_401 hf (fun v59 hf => ?_)
    refine lv_iload X.1.1 X.1.2.1 dX9_joined_402 (lv_at hl 3 rfl) ?_
    refine lv_icmp_ne (tgt := 411) X.1.1 X.1.2.1 dX9_joined_404 (by decide) (fun c404 => ?_) (fun c404 => ?_)
    · rw [if_neg c404] at hf
      refine lv_aload_n X.1.1 X.1.2.1 dX9_joined_411 rfl (lv_at hl 0 rfl) ?_
      refine e_getr X hW (C := RX9) (T := TX9) (N := 35) (j := 28) rfl (by decide) inX9 (by decide) (by decide) rfl (t := 111) rfl rfl mw_3_197 dX9_joined_412 ?_
      refine lv_iload X.1.1 X.1.2.1 dX9_joined_415 (lv_at hl 4 rfl) ?_
      refine e_ild X hW (by decide) rfl dX9_joined_417 hf (fun v60 hf => ?_)
      refine e_ist X hW hS (by decide) rfl dX9_joined_418 hf (fun m61 H locs hf hW hS => ?_)
      refine lv_iinc (v := (y5 + 1)) (lv' := [(5, .int (y5 + 1)), (0, .ref (E.1 89)), (1, .int y1), (3, .int y3), (4, .int y4)]) X.1.1 X.1.2.1 dX9_joined_419 hl (k := 4) rfl rfl (by decide) rfl (fun ls hl => ?_)
      refine lv_goto (tgt := 380) X.1.1 X.1.2.1 dX9_joined_422 (by decide) ?_
      exact hrec380 y1 y3 y4 (y5 + 1) m61 H locs ls hf hW hS (lv_sub hl [1, 2, 3, 4, 0] rfl)
    · rw [if_pos c404] at hf
      refine lv_iload_n X.1.1 X.1.2.1 dX9_joined_407 rfl (lv_at hl 2 rfl) ?_
      refine lv_goto (tgt := 418) X.1.1 X.1.2.1 dX9_joined_408 (by decide) ?_
      refine e_ist X hW hS (by decide) rfl dX9_joined_418 hf (fun m62 H locs hf hW hS => ?_)
      refine lv_iinc (v := (y5 + 1)) (lv' := [(5, .int (y5 + 1)), (0, .ref (E.1 89)), (1, .int y1), (3, .int y3), (4, .int y4)]) X.1.1 X.1.2.1 dX9_joined_419 hl (k := 4) rfl rfl (by decide) rfl (fun ls hl => ?_)
      refine lv_goto (tgt := 380) X.1.1 X.1.2.1 dX9_joined_422 (by decide) ?_
      exact hrec380 y1 y3 y4 (y5 + 1) m62 H locs ls hf hW hS (lv_sub hl [1, 2, 3, 4, 0] rfl)
theorem wfX9_joined_380 {p : Program} {l : Launch} {e : Env} {s : State} {m : MethodId} {args : Array Value} {below : List Frame} {meth : Method} {c : Code} {E : Gv} {F : Nat}  {r : Int32} {u : Mem} (X : Fx p m c cX9_joined 6 s args (Cond.code yX9_joined cX9_joined 6 (some .int)) "OvenHouseModel" meth (some .int) E)  (rec240 : Int32 → Mem → Option (Int32 × Mem)) (hrec240 : ∀ (y1 : Int32) (μ : Mem) (H : Heap) (locs : List Loc) (ls : Array Slot), rec240 y1 μ = some (r, u) → Wo E μ H → va_S (AE E) s.heap H locs → lv_has ls 6 [(0, .ref (E.1 89)), (1, .int y1)] → W0 p l e rmX9_joined s m args below meth c H locs (QcI E r u) E (F0 m 240 ls [])) (n : Nat) : ∀ (y1 : Int32) (y3 : Int32) (y4 : Int32) (y5 : Int32) (μ : Mem) (H : Heap) (locs : List Loc) (ls : Array Slot) (_ : fX9_joined_380 F  rec240 n y1 y3 y4 y5 μ = some (r, u)) (_ : Wo E μ H) (_ : va_S (AE E) s.heap H locs) (_ : lv_has ls 6 [(0, .ref (E.1 89)), (1, .int y1), (3, .int y3), (4, .int y4), (5, .int y5)]), W0 p l e rmX9_joined s m args below meth c H locs (QcI E r u) E (F0 m 380 ls []) := by
  induction n with
  | zero => intro y1 y3 y4 y5 μ H locs ls hf hW hS hl; cases hf
  | succ n ih => intro y1 y3 y4 y5 μ H locs ls hf hW hS hl; exact wfX9_joined_380_b X rec240 hrec240 _ ih y1 y3 y4 y5 μ H locs ls hf hW hS hl
set_option maxRecDepth 100000 in
set_option maxHeartbeats 4000000 in
theorem wfX9_joined_254_b {p : Program} {l : Launch} {e : Env} {s : State} {m : MethodId} {args : Array Value} {below : List Frame} {meth : Method} {c : Code} {E : Gv} {F : Nat}  {r : Int32} {u : Mem} (X : Fx p m c cX9_joined 6 s args (Cond.code yX9_joined cX9_joined 6 (some .int)) "OvenHouseModel" meth (some .int) E)  (rec240 : Int32 → Mem → Option (Int32 × Mem)) (hrec240 : ∀ (y1 : Int32) (μ : Mem) (H : Heap) (locs : List Loc) (ls : Array Slot), rec240 y1 μ = some (r, u) → Wo E μ H → va_S (AE E) s.heap H locs → lv_has ls 6 [(0, .ref (E.1 89)), (1, .int y1)] → W0 p l e rmX9_joined s m args below meth c H locs (QcI E r u) E (F0 m 240 ls [])) (rec254 : Int32 → Int32 → Int32 → Mem → Option (Int32 × Mem)) (hrec254 : ∀ (y1 : Int32) (y2 : Int32) (y3 : Int32) (μ : Mem) (H : Heap) (locs : List Loc) (ls : Array Slot), rec254 y1 y2 y3 μ = some (r, u) → Wo E μ H → va_S (AE E) s.heap H locs → lv_has ls 6 [(0, .ref (E.1 89)), (1, .int y1), (2, .int y2), (3, .int y3)] → W0 p l e rmX9_joined s m args below meth c H locs (QcI E r u) E (F0 m 254 ls [])) (y1 : Int32) (y2 : Int32) (y3 : Int32) (μ : Mem) (H : Heap) (locs : List Loc) (ls : Array Slot) (hf : fX9_joined_254_b F  rec240 rec254 y1 y2 y3 μ = some (r, u)) (hW : Wo E μ H) (hS : va_S (AE E) s.heap H locs) (hl : lv_has ls 6 [(0, .ref (E.1 89)), (1, .int y1), (2, .int y2), (3, .int y3)]) : W0 p l e rmX9_joined s m args below meth c H locs (QcI E r u) E (F0 m 254 ls []) := by
  unfold fX9_joined_254_b at hf
  refine lv_iload_n X.1.1 X.1.2.1 dX9_joined_254 rfl (lv_at hl 3 rfl) ?_
  refine lv_iconst (v := 1) X.1.1 X.1.2.1 dX9_joined_255 (by decide) ?_
  refine lv_iadd X.1.1 X.1.2.1 dX9_joined_256 ?_
  refine lv_aload_n X.1.1 X.1.2.1 dX9_joined_257 rfl (lv_at hl 0 rfl) ?_
  refine e_geti X hW (C := RX9) (T := TX9) (N := 35) (j := 21) rfl (by decide) inX9 (by decide) (by decide) rfl rfl mw_3_190 dX9_joined_258 ?_
  refine lv_icmp_ge (tgt := 305) X.1.1 X.1.2.1 dX9_joined_261 (by decide) (fun c261 => ?_) (fun c261 => ?_)
  · rw [if_pos c261] at hf
    refine lv_aload_n X.1.1 X.1.2.1 dX9_joined_305 rfl (lv_at hl 0 rfl) ?_
    refine e_getr X hW (C := RX9) (T := TX9) (N := 35) (j := 30) rfl (by decide) inX9 (by decide) (by decide) rfl (t := 113) rfl rfl mw_3_199 dX9_joined_306 ?_
    refine lv_iload_n X.1.1 X.1.2.1 dX9_joined_309 rfl (lv_at hl 2 rfl) ?_
    refine lv_iconst (v := 1) X.1.1 X.1.2.1 dX9_joined_310 (by decide) ?_
    refine e_zst X hW hS (by decide) rfl dX9_joined_311 hf (fun m37 H locs hf hW hS => ?_)
    refine lv_aload_n X.1.1 X.1.2.1 dX9_joined_312 rfl (lv_at hl 0 rfl) ?_
    refine e_getr X hW (C := RX9) (T := TX9) (N := 35) (j := 28) rfl (by decide) inX9 (by decide) (by decide) rfl (t := 111) rfl rfl mw_3_197 dX9_joined_313 ?_
    refine lv_aload_n X.1.1 X.1.2.1 dX9_joined_316 rfl (lv_at hl 0 rfl) ?_
    refine e_getr X hW (C := RX9) (T := TX9) (N := 35) (j := 25) rfl (by decide) inX9 (by decide) (by decide) rfl (t := 108) rfl rfl mw_3_194 dX9_joined_317 ?_
    refine lv_iload_n X.1.1 X.1.2.1 dX9_joined_320 rfl (lv_at hl 2 rfl) ?_
    refine e_ild X hW (by decide) rfl dX9_joined_321 hf (fun v38 hf => ?_)
    refine e_ild X hW (by decide) rfl dX9_joined_322 hf (fun v39 hf => ?_)
    refine lv_istore_n (lv' := [(3, .int v39), (0, .ref (E.1 89)), (1, .int y1), (2, .int y2)]) X.1.1 X.1.2.1 dX9_joined_323 rfl hl (by decide) rfl (fun ls hl => ?_)
    refine lv_aload_n X.1.1 X.1.2.1 dX9_joined_324 rfl (lv_at hl 1 rfl) ?_
    refine e_getr X hW (C := RX9) (T := TX9) (N := 35) (j := 28) rfl (by decide) inX9 (by decide) (by decide) rfl (t := 111) rfl rfl mw_3_197 dX9_joined_325 ?_
    refine lv_aload_n X.1.1 X.1.2.1 dX9_joined_328 rfl (lv_at hl 1 rfl) ?_
    refine e_getr X hW (C := RX9) (T := TX9) (N := 35) (j := 25) rfl (by decide) inX9 (by decide) (by decide) rfl (t := 108) rfl rfl mw_3_194 dX9_joined_329 ?_
    refine lv_iload_n X.1.1 X.1.2.1 dX9_joined_332 rfl (lv_at hl 3 rfl) ?_
    refine lv_iconst (v := 1) X.1.1 X.1.2.1 dX9_joined_333 (by decide) ?_
    refine lv_iadd X.1.1 X.1.2.1 dX9_joined_334 ?_
    refine e_ild X hW (by decide) rfl dX9_joined_335 hf (fun v40 hf => ?_)
    refine e_ild X hW (by decide) rfl dX9_joined_336 hf (fun v41 hf => ?_)
    refine lv_istore (lv' := [(4, .int v41), (3, .int v39), (0, .ref (E.1 89)), (1, .int y1), (2, .int y2)]) X.1.1 X.1.2.1 dX9_joined_337 hl (by decide) rfl (fun ls hl => ?_)
    refine lv_iload_n X.1.1 X.1.2.1 dX9_joined_339 rfl (lv_at hl 1 rfl) ?_
    refine lv_iload X.1.1 X.1.2.1 dX9_joined_340 (lv_at hl 0 rfl) ?_
    refine lv_icmp_eq (tgt := 425) X.1.1 X.1.2.1 dX9_joined_342 (by decide) (fun c342 => ?_) (fun c342 => ?_)
    · rw [if_pos c342] at hf
      refine lv_iinc (v := (y1 + 1)) (lv' := [(1, .int (y1 + 1)), (4, .int v41), (3, .int v39), (0, .ref (E.1 89)), (2, .int y2)]) X.1.1 X.1.2.1 dX9_joined_425 hl (k := 3) rfl rfl (by decide) rfl (fun ls hl => ?_)
      refine lv_goto (tgt := 240) X.1.1 X.1.2.1 dX9_joined_428 (by decide) ?_
      exact hrec240 (y1 + 1) m37 H locs ls hf hW hS (lv_sub hl [3, 0] rfl)
    · rw [if_neg c342] at hf
      refine lv_aload_n X.1.1 X.1.2.1 dX9_joined_345 rfl (lv_at hl 2 rfl) ?_
      refine e_getr X hW (C := RX9) (T := TX9) (N := 35) (j := 31) rfl (by decide) inX9 (by decide) (by decide) rfl (t := 114) rfl rfl mw_3_200 dX9_joined_346 ?_
      refine lv_iload_n X.1.1 X.1.2.1 dX9_joined_349 rfl (lv_at hl 4 rfl) ?_
      refine lv_iconst (v := 1) X.1.1 X.1.2.1 dX9_joined_350 (by decide) ?_
      refine e_zst X hW hS (by decide) rfl dX9_joined_351 hf (fun m42 H locs hf hW hS => ?_)
      refine lv_aload_n X.1.1 X.1.2.1 dX9_joined_352 rfl (lv_at hl 2 rfl) ?_
      refine e_getr X hW (C := RX9) (T := TX9) (N := 35) (j := 32) rfl (by decide) inX9 (by decide) (by decide) rfl (t := 115) rfl rfl mw_3_201 dX9_joined_353 ?_
      refine lv_iconst (v := 2) X.1.1 X.1.2.1 dX9_joined_356 (by decide) ?_
      refine lv_dup2_11 X.1.1 X.1.2.1 dX9_joined_357 rfl rfl ?_
      refine e_ild X hW (by decide) rfl dX9_joined_358 hf (fun v43 hf => ?_)
      refine lv_iconst (v := 1) X.1.1 X.1.2.1 dX9_joined_359 (by decide) ?_
      refine lv_iadd X.1.1 X.1.2.1 dX9_joined_360 ?_
      refine e_ist X hW hS (by decide) rfl dX9_joined_361 hf (fun m44 H locs hf hW hS => ?_)
      refine lv_aload_n X.1.1 X.1.2.1 dX9_joined_362 rfl (lv_at hl 2 rfl) ?_
      refine e_getr X hW (C := RX9) (T := TX9) (N := 35) (j := 32) rfl (by decide) inX9 (by decide) (by decide) rfl (t := 115) rfl rfl mw_3_201 dX9_joined_363 ?_
      refine lv_iconst (v := 3) X.1.1 X.1.2.1 dX9_joined_366 (by decide) ?_
      refine lv_dup2_11 X.1.1 X.1.2.1 dX9_joined_367 rfl rfl ?_
      refine e_ild X hW (by decide) rfl dX9_joined_368 hf (fun v45 hf => ?_)
      refine lv_aload_n X.1.1 X.1.2.1 dX9_joined_369 rfl (lv_at hl 2 rfl) ?_
      refine e_getr X hW (C := RX9) (T := TX9) (N := 35) (j := 29) rfl (by decide) inX9 (by decide) (by decide) rfl (t := 112) rfl rfl mw_3_198 dX9_joined_370 ?_
      refine lv_iload_n X.1.1 X.1.2.1 dX9_joined_373 rfl (lv_at hl 4 rfl) ?_
      refine e_ild X hW (by decide) rfl dX9_joined_374 hf (fun v46 hf => ?_)
      refine lv_iadd X.1.1 X.1.2.1 dX9_joined_375 ?_
      refine e_ist X hW hS (by decide) rfl dX9_joined_376 hf (fun m47 H locs hf hW hS => ?_)
      refine lv_iconst (v := 0) X.1.1 X.1.2.1 dX9_joined_377 (by decide) ?_
      refine lv_istore (lv' := [(5, .int 0), (4, .int v41), (3, .int v39), (0, .ref (E.1 89)), (1, .int y1), (2, .int y2)]) X.1.1 X.1.2.1 dX9_joined_378 hl (by decide) rfl (fun ls hl => ?_)
      exact wfX9_joined_380 X rec240 hrec240 F y1 v39 v41 0 m47 H locs ls hf hW hS (lv_sub hl [3, 4, 2, 1, 0] rfl)
  · rw [if_neg c261] at hf
    refine lv_aload_n X.1.1 X.1.2.1 dX9_joined_264 rfl (lv_at hl 0 rfl) ?_
    refine e_getr X hW (C := RX9) (T := TX9) (N := 35) (j := 30) rfl (by decide) inX9 (by decide) (by decide) rfl (t := 113) rfl rfl mw_3_199 dX9_joined_265 ?_
    refine lv_iload_n X.1.1 X.1.2.1 dX9_joined_268 rfl (lv_at hl 3 rfl) ?_
    refine e_zld X hW (by decide) rfl dX9_joined_269 hf (fun v48 hf => ?_)
    refine lv_if_ne (tgt := 297) X.1.1 X.1.2.1 dX9_joined_270 (by decide) (fun c270 => ?_) (fun c270 => ?_)
    · rw [if_neg c270] at hf
      refine lv_iload_n X.1.1 X.1.2.1 dX9_joined_297 rfl (lv_at hl 2 rfl) ?_
      refine lv_istore_n (lv' := [(2, .int y2), (0, .ref (E.1 89)), (1, .int y1), (3, .int y3)]) X.1.1 X.1.2.1 dX9_joined_298 rfl hl (by decide) rfl (fun ls hl => ?_)
      refine lv_iinc (v := (y3 + 1)) (lv' := [(3, .int (y3 + 1)), (2, .int y2), (0, .ref (E.1 89)), (1, .int y1)]) X.1.1 X.1.2.1 dX9_joined_299 hl (k := 3) rfl rfl (by decide) rfl (fun ls hl => ?_)
      refine lv_goto (tgt := 254) X.1.1 X.1.2.1 dX9_joined_302 (by decide) ?_
      exact hrec254 y1 y2 (y3 + 1) μ H locs ls hf hW hS (lv_sub hl [2, 3, 1, 0] rfl)
    · rw [if_pos c270] at hf
      refine lv_iload_n X.1.1 X.1.2.1 dX9_joined_273 rfl (lv_at hl 2 rfl) ?_
      refine lv_iconst (v := (-1)) X.1.1 X.1.2.1 dX9_joined_274 (by decide) ?_
      refine lv_icmp_eq (tgt := 293) X.1.1 X.1.2.1 dX9_joined_275 (by decide) (fun c275 => ?_) (fun c275 => ?_)
      · rw [if_pos c275] at hf
        refine lv_iload_n X.1.1 X.1.2.1 dX9_joined_293 rfl (lv_at hl 3 rfl) ?_
        refine lv_goto (tgt := 298) X.1.1 X.1.2.1 dX9_joined_294 (by decide) ?_
        refine lv_istore_n (lv' := [(2, .int y3), (0, .ref (E.1 89)), (1, .int y1), (3, .int y3)]) X.1.1 X.1.2.1 dX9_joined_298 rfl hl (by decide) rfl (fun ls hl => ?_)
        refine lv_iinc (v := (y3 + 1)) (lv' := [(3, .int (y3 + 1)), (2, .int y3), (0, .ref (E.1 89)), (1, .int y1)]) X.1.1 X.1.2.1 dX9_joined_299 hl (k := 3) rfl rfl (by decide) rfl (fun ls hl => ?_)
        refine lv_goto (tgt := 254) X.1.1 X.1.2.1 dX9_joined_302 (by decide) ?_
        exact hrec254 y1 y3 (y3 + 1) μ H locs ls hf hW hS (lv_sub hl [2, 3, 1, 0] rfl)
      · rw [if_neg c275] at hf
        refine lv_aload_n X.1.1 X.1.2.1 dX9_joined_278 rfl (lv_at hl 0 rfl) ?_
        refine e_getr X hW (C := RX9) (T := TX9) (N := 35) (j := 29) rfl (by decide) inX9 (by decide) (by decide) rfl (t := 112) rfl rfl mw_3_198 dX9_joined_279 ?_
        refine lv_iload_n X.1.1 X.1.2.1 dX9_joined_282 rfl (lv_at hl 3 rfl) ?_
        refine e_ild X hW (by decide) rfl dX9_joined_283 hf (fun v49 hf => ?_)
        refine lv_aload_n X.1.1 X.1.2.1 dX9_joined_284 rfl (lv_at hl 0 rfl) ?_
        refine e_getr X hW (C := RX9) (T := TX9) (N := 35) (j := 29) rfl (by decide) inX9 (by decide) (by decide) rfl (t := 112) rfl rfl mw_3_198 dX9_joined_285 ?_
        refine lv_iload_n X.1.1 X.1.2.1 dX9_joined_288 rfl (lv_at hl 2 rfl) ?_
        refine e_ild X hW (by decide) rfl dX9_joined_289 hf (fun v50 hf => ?_)
        refine lv_icmp_ge (tgt := 297) X.1.1 X.1.2.1 dX9_joined_290 (by decide) (fun c290 => ?_) (fun c290 => ?_)
        · rw [if_pos c290] at hf
          refine lv_iload_n X.1.1 X.1.2.1 dX9_joined_297 rfl (lv_at hl 2 rfl) ?_
          refine lv_istore_n (lv' := [(2, .int y2), (0, .ref (E.1 89)), (1, .int y1), (3, .int y3)]) X.1.1 X.1.2.1 dX9_joined_298 rfl hl (by decide) rfl (fun ls hl => ?_)
          refine lv_iinc (v := (y3 + 1)) (lv' := [(3, .int (y3 + 1)), (2, .int y2), (0, .ref (E.1 89)), (1, .int y1)]) X.1.1 X.1.2.1 dX9_joined_299 hl (k := 3) rfl rfl (by decide) rfl (fun ls hl => ?_)
          refine lv_goto (tgt := 254) X.1.1 X.1.2.1 dX9_joined_302 (by decide) ?_
          exact hrec254 y1 y2 (y3 + 1) μ H locs ls hf hW hS (lv_sub hl [2, 3, 1, 0] rfl)
        · rw [if_neg c290] at hf
          refine lv_iload_n X.1.1 X.1.2.1 dX9_joined_293 rfl (lv_at hl 3 rfl) ?_
          refine lv_goto (tgt := 298) X.1.1 X.1.2.1 dX9_joined_294 (by decide) ?_
          refine lv_istore_n (lv' := [(2, .int y3), (0, .ref (E.1 89)), (1, .int y1), (3, .int y3)]) X.1.1 X.1.2.1 dX9_joined_298 rfl hl (by decide) rfl (fun ls hl => ?_)
          refine lv_iinc (v := (y3 + 1)) (lv' := [(3, .int (y3 + 1)), (2, .int y3), (0, .ref (E.1 89)), (1, .int y1)]) X.1.1 X.1.2.1 dX9_joined_299 hl (k := 3) rfl rfl (by decide) rfl (fun ls hl => ?_)
          refine lv_goto (tgt := 254) X.1.1 X.1.2.1 dX9_joined_302 (by decide) ?_
          exact hrec254 y1 y3 (y3 + 1) μ H locs ls hf hW hS (lv_sub hl [2, 3, 1, 0] rfl)
theorem wfX9_joined_254 {p : Program} {l : Launch} {e : Env} {s : State} {m : MethodId} {args : Array Value} {below : List Frame} {meth : Method} {c : Code} {E : Gv} {F : Nat}  {r : Int32} {u : Mem} (X : Fx p m c cX9_joined 6 s args (Cond.code yX9_joined cX9_joined 6 (some .int)) "OvenHouseModel" meth (some .int) E)  (rec240 : Int32 → Mem → Option (Int32 × Mem)) (hrec240 : ∀ (y1 : Int32) (μ : Mem) (H : Heap) (locs : List Loc) (ls : Array Slot), rec240 y1 μ = some (r, u) → Wo E μ H → va_S (AE E) s.heap H locs → lv_has ls 6 [(0, .ref (E.1 89)), (1, .int y1)] → W0 p l e rmX9_joined s m args below meth c H locs (QcI E r u) E (F0 m 240 ls [])) (n : Nat) : ∀ (y1 : Int32) (y2 : Int32) (y3 : Int32) (μ : Mem) (H : Heap) (locs : List Loc) (ls : Array Slot) (_ : fX9_joined_254 F  rec240 n y1 y2 y3 μ = some (r, u)) (_ : Wo E μ H) (_ : va_S (AE E) s.heap H locs) (_ : lv_has ls 6 [(0, .ref (E.1 89)), (1, .int y1), (2, .int y2), (3, .int y3)]), W0 p l e rmX9_joined s m args below meth c H locs (QcI E r u) E (F0 m 254 ls []) := by
  induction n with
  | zero => intro y1 y2 y3 μ H locs ls hf hW hS hl; cases hf
  | succ n ih => intro y1 y2 y3 μ H locs ls hf hW hS hl; exact wfX9_joined_254_b X rec240 hrec240 _ ih y1 y2 y3 μ H locs ls hf hW hS hl
set_option maxRecDepth 100000 in
set_option maxHeartbeats 4000000 in
theorem wfX9_joined_489_b {p : Program} {l : Launch} {e : Env} {s : State} {m : MethodId} {args : Array Value} {below : List Frame} {meth : Method} {c : Code} {E : Gv} {F : Nat}  {r : Int32} {u : Mem} (X : Fx p m c cX9_joined 6 s args (Cond.code yX9_joined cX9_joined 6 (some .int)) "OvenHouseModel" meth (some .int) E)  (rec489 : Int32 → Mem → Option (Int32 × Mem)) (hrec489 : ∀ (y1 : Int32) (μ : Mem) (H : Heap) (locs : List Loc) (ls : Array Slot), rec489 y1 μ = some (r, u) → Wo E μ H → va_S (AE E) s.heap H locs → lv_has ls 6 [(0, .ref (E.1 89)), (1, .int y1)] → W0 p l e rmX9_joined s m args below meth c H locs (QcI E r u) E (F0 m 489 ls [])) (y1 : Int32) (μ : Mem) (H : Heap) (locs : List Loc) (ls : Array Slot) (hf : fX9_joined_489_b F  rec489 y1 μ = some (r, u)) (hW : Wo E μ H) (hS : va_S (AE E) s.heap H locs) (hl : lv_has ls 6 [(0, .ref (E.1 89)), (1, .int y1)]) : W0 p l e rmX9_joined s m args below meth c H locs (QcI E r u) E (F0 m 489 ls []) := by
  unfold fX9_joined_489_b at hf
  refine lv_iload_n X.1.1 X.1.2.1 dX9_joined_489 rfl (lv_at hl 1 rfl) ?_
  refine lv_iconst (v := 1) X.1.1 X.1.2.1 dX9_joined_490 (by decide) ?_
  refine lv_iadd X.1.1 X.1.2.1 dX9_joined_491 ?_
  refine lv_aload_n X.1.1 X.1.2.1 dX9_joined_492 rfl (lv_at hl 0 rfl) ?_
  refine e_geti X hW (C := RX9) (T := TX9) (N := 35) (j := 21) rfl (by decide) inX9 (by decide) (by decide) rfl rfl mw_3_190 dX9_joined_493 ?_
  refine lv_icmp_ge (tgt := 544) X.1.1 X.1.2.1 dX9_joined_496 (by decide) (fun c496 => ?_) (fun c496 => ?_)
  · rw [if_pos c496] at hf
    refine lv_aload_n X.1.1 X.1.2.1 dX9_joined_544 rfl (lv_at hl 0 rfl) ?_
    refine e_vi (rest := []) (As := []) X hl.1 hW hS (C := RX9) (T := TX9) (N := 35) rfl (by decide) (ctfX9_ringCost X.2.2.2.2 F μ) (cwV (rm := rmX9_ringCost) 0 X.1.2.2.2.2 (gd_V mw_4_202 mw_4_204 mw_0_31 mw_1_11 mw_4_205) rfl rfl rfl (by decide +kernel) ⟨Nat.le_of_ble_eq_true rfl, Nat.le_of_ble_eq_true rfl⟩) rfl rfl (Nat.le_of_ble_eq_true rfl) dX9_joined_545 ⟨Nat.zero_le _, Nat.zero_le _⟩ hf (fun r52 m51 H locs hf hW hS => ?_)
    exact e_iret X hW hS hf dX9_joined_548
  · rw [if_neg c496] at hf
    refine lv_aload_n X.1.1 X.1.2.1 dX9_joined_499 rfl (lv_at hl 0 rfl) ?_
    refine e_getr X hW (C := RX9) (T := TX9) (N := 35) (j := 31) rfl (by decide) inX9 (by decide) (by decide) rfl (t := 114) rfl rfl mw_3_200 dX9_joined_500 ?_
    refine lv_iload_n X.1.1 X.1.2.1 dX9_joined_503 rfl (lv_at hl 1 rfl) ?_
    refine e_zld X hW (by decide) rfl dX9_joined_504 hf (fun v53 hf => ?_)
    refine lv_if_eq (tgt := 538) X.1.1 X.1.2.1 dX9_joined_505 (by decide) (fun c505 => ?_) (fun c505 => ?_)
    · rw [if_pos c505] at hf
      refine lv_iinc (v := (y1 + 1)) (lv' := [(1, .int (y1 + 1)), (0, .ref (E.1 89))]) X.1.1 X.1.2.1 dX9_joined_538 hl (k := 1) rfl rfl (by decide) rfl (fun ls hl => ?_)
      refine lv_goto (tgt := 489) X.1.1 X.1.2.1 dX9_joined_541 (by decide) ?_
      exact hrec489 (y1 + 1) μ H locs ls hf hW hS (lv_sub hl [1, 0] rfl)
    · rw [if_neg c505] at hf
      refine lv_aload_n X.1.1 X.1.2.1 dX9_joined_508 rfl (lv_at hl 0 rfl) ?_
      refine e_getr X hW (C := RX9) (T := TX9) (N := 35) (j := 24) rfl (by decide) inX9 (by decide) (by decide) rfl (t := 107) rfl rfl mw_3_193 dX9_joined_509 ?_
      refine lv_aload_n X.1.1 X.1.2.1 dX9_joined_512 rfl (lv_at hl 0 rfl) ?_
      refine e_getr X hW (C := RX9) (T := TX9) (N := 35) (j := 25) rfl (by decide) inX9 (by decide) (by decide) rfl (t := 108) rfl rfl mw_3_194 dX9_joined_513 ?_
      refine lv_iload_n X.1.1 X.1.2.1 dX9_joined_516 rfl (lv_at hl 1 rfl) ?_
      refine e_ild X hW (by decide) rfl dX9_joined_517 hf (fun v54 hf => ?_)
      refine e_ild X hW (by decide) rfl dX9_joined_518 hf (fun v55 hf => ?_)
      refine lv_aload_n X.1.1 X.1.2.1 dX9_joined_519 rfl (lv_at hl 0 rfl) ?_
      refine e_getr X hW (C := RX9) (T := TX9) (N := 35) (j := 23) rfl (by decide) inX9 (by decide) (by decide) rfl (t := 106) rfl rfl mw_3_192 dX9_joined_520 ?_
      refine lv_aload_n X.1.1 X.1.2.1 dX9_joined_523 rfl (lv_at hl 0 rfl) ?_
      refine e_getr X hW (C := RX9) (T := TX9) (N := 35) (j := 26) rfl (by decide) inX9 (by decide) (by decide) rfl (t := 109) rfl rfl mw_3_195 dX9_joined_524 ?_
      refine lv_iload_n X.1.1 X.1.2.1 dX9_joined_527 rfl (lv_at hl 1 rfl) ?_
      refine e_ild X hW (by decide) rfl dX9_joined_528 hf (fun v56 hf => ?_)
      refine e_ild X hW (by decide) rfl dX9_joined_529 hf (fun v57 hf => ?_)
      refine lv_icmp_le (tgt := 538) X.1.1 X.1.2.1 dX9_joined_530 (by decide) (fun c530 => ?_) (fun c530 => ?_)
      · rw [if_pos c530] at hf
        refine lv_iinc (v := (y1 + 1)) (lv' := [(1, .int (y1 + 1)), (0, .ref (E.1 89))]) X.1.1 X.1.2.1 dX9_joined_538 hl (k := 1) rfl rfl (by decide) rfl (fun ls hl => ?_)
        refine lv_goto (tgt := 489) X.1.1 X.1.2.1 dX9_joined_541 (by decide) ?_
        exact hrec489 (y1 + 1) μ H locs ls hf hW hS (lv_sub hl [1, 0] rfl)
      · rw [if_neg c530] at hf
        refine lv_aload_n X.1.1 X.1.2.1 dX9_joined_533 rfl (lv_at hl 0 rfl) ?_
        refine lv_iload_n X.1.1 X.1.2.1 dX9_joined_534 rfl (lv_at hl 1 rfl) ?_
        refine e_vv (rest := []) (As := [.int y1]) X hl.1 hW hS (C := RX9) (T := TX9) (N := 35) rfl (by decide) (ctfX9_exchange X.2.2.2.2 F y1 μ) (cwV (rm := rmX9_exchange) 1 X.1.2.2.2.2 (gd_V mw_4_222 mw_4_224 mw_0_36 mw_1_11 mw_4_225) rfl rfl rfl (by decide +kernel) ⟨Nat.le_of_ble_eq_true rfl, Nat.le_of_ble_eq_true rfl⟩) rfl rfl (Nat.le_of_ble_eq_true rfl) dX9_joined_535 ⟨Nat.zero_le _, Nat.zero_le _⟩ hf (fun m58 H locs hf hW hS => ?_)
        refine lv_iinc (v := (y1 + 1)) (lv' := [(1, .int (y1 + 1)), (0, .ref (E.1 89))]) X.1.1 X.1.2.1 dX9_joined_538 hl (k := 1) rfl rfl (by decide) rfl (fun ls hl => ?_)
        refine lv_goto (tgt := 489) X.1.1 X.1.2.1 dX9_joined_541 (by decide) ?_
        exact hrec489 (y1 + 1) m58 H locs ls hf hW hS (lv_sub hl [1, 0] rfl)
theorem wfX9_joined_489 {p : Program} {l : Launch} {e : Env} {s : State} {m : MethodId} {args : Array Value} {below : List Frame} {meth : Method} {c : Code} {E : Gv} {F : Nat}  {r : Int32} {u : Mem} (X : Fx p m c cX9_joined 6 s args (Cond.code yX9_joined cX9_joined 6 (some .int)) "OvenHouseModel" meth (some .int) E)  (n : Nat) : ∀ (y1 : Int32) (μ : Mem) (H : Heap) (locs : List Loc) (ls : Array Slot) (_ : fX9_joined_489 F   n y1 μ = some (r, u)) (_ : Wo E μ H) (_ : va_S (AE E) s.heap H locs) (_ : lv_has ls 6 [(0, .ref (E.1 89)), (1, .int y1)]), W0 p l e rmX9_joined s m args below meth c H locs (QcI E r u) E (F0 m 489 ls []) := by
  induction n with
  | zero => intro y1 μ H locs ls hf hW hS hl; cases hf
  | succ n ih => intro y1 μ H locs ls hf hW hS hl; exact wfX9_joined_489_b X  _ ih y1 μ H locs ls hf hW hS hl
set_option maxRecDepth 100000 in
set_option maxHeartbeats 4000000 in
theorem wfX9_joined_438_b {p : Program} {l : Launch} {e : Env} {s : State} {m : MethodId} {args : Array Value} {below : List Frame} {meth : Method} {c : Code} {E : Gv} {F : Nat}  {r : Int32} {u : Mem} (X : Fx p m c cX9_joined 6 s args (Cond.code yX9_joined cX9_joined 6 (some .int)) "OvenHouseModel" meth (some .int) E)  (rec438 : Int32 → Mem → Option (Int32 × Mem)) (hrec438 : ∀ (y1 : Int32) (μ : Mem) (H : Heap) (locs : List Loc) (ls : Array Slot), rec438 y1 μ = some (r, u) → Wo E μ H → va_S (AE E) s.heap H locs → lv_has ls 6 [(0, .ref (E.1 89)), (1, .int y1)] → W0 p l e rmX9_joined s m args below meth c H locs (QcI E r u) E (F0 m 438 ls [])) (y1 : Int32) (μ : Mem) (H : Heap) (locs : List Loc) (ls : Array Slot) (hf : fX9_joined_438_b F  rec438 y1 μ = some (r, u)) (hW : Wo E μ H) (hS : va_S (AE E) s.heap H locs) (hl : lv_has ls 6 [(0, .ref (E.1 89)), (1, .int y1)]) : W0 p l e rmX9_joined s m args below meth c H locs (QcI E r u) E (F0 m 438 ls []) := by
  unfold fX9_joined_438_b at hf
  refine lv_iload_n X.1.1 X.1.2.1 dX9_joined_438 rfl (lv_at hl 1 rfl) ?_
  refine lv_if_lt (tgt := 487) X.1.1 X.1.2.1 dX9_joined_439 (by decide) (fun c439 => ?_) (fun c439 => ?_)
  · rw [if_pos c439] at hf
    refine lv_iconst (v := 0) X.1.1 X.1.2.1 dX9_joined_487 (by decide) ?_
    refine lv_istore_n (lv' := [(1, .int 0), (0, .ref (E.1 89))]) X.1.1 X.1.2.1 dX9_joined_488 rfl hl (by decide) rfl (fun ls hl => ?_)
    exact wfX9_joined_489 X  F 0 μ H locs ls hf hW hS (lv_sub hl [1, 0] rfl)
  · rw [if_neg c439] at hf
    refine lv_aload_n X.1.1 X.1.2.1 dX9_joined_442 rfl (lv_at hl 0 rfl) ?_
    refine e_getr X hW (C := RX9) (T := TX9) (N := 35) (j := 31) rfl (by decide) inX9 (by decide) (by decide) rfl (t := 114) rfl rfl mw_3_200 dX9_joined_443 ?_
    refine lv_iload_n X.1.1 X.1.2.1 dX9_joined_446 rfl (lv_at hl 1 rfl) ?_
    refine e_zld X hW (by decide) rfl dX9_joined_447 hf (fun v31 hf => ?_)
    refine lv_if_eq (tgt := 481) X.1.1 X.1.2.1 dX9_joined_448 (by decide) (fun c448 => ?_) (fun c448 => ?_)
    · rw [if_pos c448] at hf
      refine lv_iinc (v := (y1 + (-1))) (lv' := [(1, .int (y1 + (-1))), (0, .ref (E.1 89))]) X.1.1 X.1.2.1 dX9_joined_481 hl (k := 1) rfl rfl (by decide) rfl (fun ls hl => ?_)
      refine lv_goto (tgt := 438) X.1.1 X.1.2.1 dX9_joined_484 (by decide) ?_
      exact hrec438 (y1 + (-1)) μ H locs ls hf hW hS (lv_sub hl [1, 0] rfl)
    · rw [if_neg c448] at hf
      refine lv_aload_n X.1.1 X.1.2.1 dX9_joined_451 rfl (lv_at hl 0 rfl) ?_
      refine e_getr X hW (C := RX9) (T := TX9) (N := 35) (j := 24) rfl (by decide) inX9 (by decide) (by decide) rfl (t := 107) rfl rfl mw_3_193 dX9_joined_452 ?_
      refine lv_aload_n X.1.1 X.1.2.1 dX9_joined_455 rfl (lv_at hl 0 rfl) ?_
      refine e_getr X hW (C := RX9) (T := TX9) (N := 35) (j := 25) rfl (by decide) inX9 (by decide) (by decide) rfl (t := 108) rfl rfl mw_3_194 dX9_joined_456 ?_
      refine lv_iload_n X.1.1 X.1.2.1 dX9_joined_459 rfl (lv_at hl 1 rfl) ?_
      refine e_ild X hW (by decide) rfl dX9_joined_460 hf (fun v32 hf => ?_)
      refine e_ild X hW (by decide) rfl dX9_joined_461 hf (fun v33 hf => ?_)
      refine lv_aload_n X.1.1 X.1.2.1 dX9_joined_462 rfl (lv_at hl 0 rfl) ?_
      refine e_getr X hW (C := RX9) (T := TX9) (N := 35) (j := 23) rfl (by decide) inX9 (by decide) (by decide) rfl (t := 106) rfl rfl mw_3_192 dX9_joined_463 ?_
      refine lv_aload_n X.1.1 X.1.2.1 dX9_joined_466 rfl (lv_at hl 0 rfl) ?_
      refine e_getr X hW (C := RX9) (T := TX9) (N := 35) (j := 26) rfl (by decide) inX9 (by decide) (by decide) rfl (t := 109) rfl rfl mw_3_195 dX9_joined_467 ?_
      refine lv_iload_n X.1.1 X.1.2.1 dX9_joined_470 rfl (lv_at hl 1 rfl) ?_
      refine e_ild X hW (by decide) rfl dX9_joined_471 hf (fun v34 hf => ?_)
      refine e_ild X hW (by decide) rfl dX9_joined_472 hf (fun v35 hf => ?_)
      refine lv_icmp_gt (tgt := 481) X.1.1 X.1.2.1 dX9_joined_473 (by decide) (fun c473 => ?_) (fun c473 => ?_)
      · rw [if_pos c473] at hf
        refine lv_iinc (v := (y1 + (-1))) (lv' := [(1, .int (y1 + (-1))), (0, .ref (E.1 89))]) X.1.1 X.1.2.1 dX9_joined_481 hl (k := 1) rfl rfl (by decide) rfl (fun ls hl => ?_)
        refine lv_goto (tgt := 438) X.1.1 X.1.2.1 dX9_joined_484 (by decide) ?_
        exact hrec438 (y1 + (-1)) μ H locs ls hf hW hS (lv_sub hl [1, 0] rfl)
      · rw [if_neg c473] at hf
        refine lv_aload_n X.1.1 X.1.2.1 dX9_joined_476 rfl (lv_at hl 0 rfl) ?_
        refine lv_iload_n X.1.1 X.1.2.1 dX9_joined_477 rfl (lv_at hl 1 rfl) ?_
        refine e_vv (rest := []) (As := [.int y1]) X hl.1 hW hS (C := RX9) (T := TX9) (N := 35) rfl (by decide) (ctfX9_exchange X.2.2.2.2 F y1 μ) (cwV (rm := rmX9_exchange) 1 X.1.2.2.2.2 (gd_V mw_4_222 mw_4_224 mw_0_36 mw_1_11 mw_4_225) rfl rfl rfl (by decide +kernel) ⟨Nat.le_of_ble_eq_true rfl, Nat.le_of_ble_eq_true rfl⟩) rfl rfl (Nat.le_of_ble_eq_true rfl) dX9_joined_478 ⟨Nat.zero_le _, Nat.zero_le _⟩ hf (fun m36 H locs hf hW hS => ?_)
        refine lv_iinc (v := (y1 + (-1))) (lv' := [(1, .int (y1 + (-1))), (0, .ref (E.1 89))]) X.1.1 X.1.2.1 dX9_joined_481 hl (k := 1) rfl rfl (by decide) rfl (fun ls hl => ?_)
        refine lv_goto (tgt := 438) X.1.1 X.1.2.1 dX9_joined_484 (by decide) ?_
        exact hrec438 (y1 + (-1)) m36 H locs ls hf hW hS (lv_sub hl [1, 0] rfl)
theorem wfX9_joined_438 {p : Program} {l : Launch} {e : Env} {s : State} {m : MethodId} {args : Array Value} {below : List Frame} {meth : Method} {c : Code} {E : Gv} {F : Nat}  {r : Int32} {u : Mem} (X : Fx p m c cX9_joined 6 s args (Cond.code yX9_joined cX9_joined 6 (some .int)) "OvenHouseModel" meth (some .int) E)  (n : Nat) : ∀ (y1 : Int32) (μ : Mem) (H : Heap) (locs : List Loc) (ls : Array Slot) (_ : fX9_joined_438 F   n y1 μ = some (r, u)) (_ : Wo E μ H) (_ : va_S (AE E) s.heap H locs) (_ : lv_has ls 6 [(0, .ref (E.1 89)), (1, .int y1)]), W0 p l e rmX9_joined s m args below meth c H locs (QcI E r u) E (F0 m 438 ls []) := by
  induction n with
  | zero => intro y1 μ H locs ls hf hW hS hl; cases hf
  | succ n ih => intro y1 μ H locs ls hf hW hS hl; exact wfX9_joined_438_b X  _ ih y1 μ H locs ls hf hW hS hl
set_option maxRecDepth 100000 in
set_option maxHeartbeats 4000000 in
theorem wfX9_joined_240_b {p : Program} {l : Launch} {e : Env} {s : State} {m : MethodId} {args : Array Value} {below : List Frame} {meth : Method} {c : Code} {E : Gv} {F : Nat}  {r : Int32} {u : Mem} (X : Fx p m c cX9_joined 6 s args (Cond.code yX9_joined cX9_joined 6 (some .int)) "OvenHouseModel" meth (some .int) E)  (rec240 : Int32 → Mem → Option (Int32 × Mem)) (hrec240 : ∀ (y1 : Int32) (μ : Mem) (H : Heap) (locs : List Loc) (ls : Array Slot), rec240 y1 μ = some (r, u) → Wo E μ H → va_S (AE E) s.heap H locs → lv_has ls 6 [(0, .ref (E.1 89)), (1, .int y1)] → W0 p l e rmX9_joined s m args below meth c H locs (QcI E r u) E (F0 m 240 ls [])) (y1 : Int32) (μ : Mem) (H : Heap) (locs : List Loc) (ls : Array Slot) (hf : fX9_joined_240_b F  rec240 y1 μ = some (r, u)) (hW : Wo E μ H) (hS : va_S (AE E) s.heap H locs) (hl : lv_has ls 6 [(0, .ref (E.1 89)), (1, .int y1)]) : W0 p l e rmX9_joined s m args below meth c H locs (QcI E r u) E (F0 m 240 ls []) := by
  unfold fX9_joined_240_b at hf
  refine lv_iload_n X.1.1 X.1.2.1 dX9_joined_240 rfl (lv_at hl 1 rfl) ?_
  refine lv_iconst (v := 1) X.1.1 X.1.2.1 dX9_joined_241 (by decide) ?_
  refine lv_iadd X.1.1 X.1.2.1 dX9_joined_242 ?_
  refine lv_aload_n X.1.1 X.1.2.1 dX9_joined_243 rfl (lv_at hl 0 rfl) ?_
  refine e_geti X hW (C := RX9) (T := TX9) (N := 35) (j := 21) rfl (by decide) inX9 (by decide) (by decide) rfl rfl mw_3_190 dX9_joined_244 ?_
  refine lv_icmp_ge (tgt := 431) X.1.1 X.1.2.1 dX9_joined_247 (by decide) (fun c247 => ?_) (fun c247 => ?_)
  · rw [if_pos c247] at hf
    refine lv_aload_n X.1.1 X.1.2.1 dX9_joined_431 rfl (lv_at hl 0 rfl) ?_
    refine e_geti X hW (C := RX9) (T := TX9) (N := 35) (j := 21) rfl (by decide) inX9 (by decide) (by decide) rfl rfl mw_3_190 dX9_joined_432 ?_
    refine lv_iconst (v := 2) X.1.1 X.1.2.1 dX9_joined_435 (by decide) ?_
    refine lv_isub X.1.1 X.1.2.1 dX9_joined_436 ?_
    refine lv_istore_n (lv' := [(1, .int ((μ 89 21) - 2)), (0, .ref (E.1 89))]) X.1.1 X.1.2.1 dX9_joined_437 rfl hl (by decide) rfl (fun ls hl => ?_)
    exact wfX9_joined_438 X  F ((μ 89 21) - 2) μ H locs ls hf hW hS (lv_sub hl [1, 0] rfl)
  · rw [if_neg c247] at hf
    refine lv_iconst (v := (-1)) X.1.1 X.1.2.1 dX9_joined_250 (by decide) ?_
    refine lv_istore_n (lv' := [(2, .int (-1)), (0, .ref (E.1 89)), (1, .int y1)]) X.1.1 X.1.2.1 dX9_joined_251 rfl hl (by decide) rfl (fun ls hl => ?_)
    refine lv_iconst (v := 0) X.1.1 X.1.2.1 dX9_joined_252 (by decide) ?_
    refine lv_istore_n (lv' := [(3, .int 0), (2, .int (-1)), (0, .ref (E.1 89)), (1, .int y1)]) X.1.1 X.1.2.1 dX9_joined_253 rfl hl (by decide) rfl (fun ls hl => ?_)
    exact wfX9_joined_254 X rec240 hrec240 F y1 (-1) 0 μ H locs ls hf hW hS (lv_sub hl [2, 3, 1, 0] rfl)
theorem wfX9_joined_240 {p : Program} {l : Launch} {e : Env} {s : State} {m : MethodId} {args : Array Value} {below : List Frame} {meth : Method} {c : Code} {E : Gv} {F : Nat}  {r : Int32} {u : Mem} (X : Fx p m c cX9_joined 6 s args (Cond.code yX9_joined cX9_joined 6 (some .int)) "OvenHouseModel" meth (some .int) E)  (n : Nat) : ∀ (y1 : Int32) (μ : Mem) (H : Heap) (locs : List Loc) (ls : Array Slot) (_ : fX9_joined_240 F   n y1 μ = some (r, u)) (_ : Wo E μ H) (_ : va_S (AE E) s.heap H locs) (_ : lv_has ls 6 [(0, .ref (E.1 89)), (1, .int y1)]), W0 p l e rmX9_joined s m args below meth c H locs (QcI E r u) E (F0 m 240 ls []) := by
  induction n with
  | zero => intro y1 μ H locs ls hf hW hS hl; cases hf
  | succ n ih => intro y1 μ H locs ls hf hW hS hl; exact wfX9_joined_240_b X  _ ih y1 μ H locs ls hf hW hS hl
set_option maxRecDepth 100000 in
set_option maxHeartbeats 4000000 in
theorem wfX9_joined_185_b {p : Program} {l : Launch} {e : Env} {s : State} {m : MethodId} {args : Array Value} {below : List Frame} {meth : Method} {c : Code} {E : Gv} {F : Nat}  {r : Int32} {u : Mem} (X : Fx p m c cX9_joined 6 s args (Cond.code yX9_joined cX9_joined 6 (some .int)) "OvenHouseModel" meth (some .int) E)  (rec185 : Int32 → Mem → Option (Int32 × Mem)) (hrec185 : ∀ (y1 : Int32) (μ : Mem) (H : Heap) (locs : List Loc) (ls : Array Slot), rec185 y1 μ = some (r, u) → Wo E μ H → va_S (AE E) s.heap H locs → lv_has ls 6 [(0, .ref (E.1 89)), (1, .int y1)] → W0 p l e rmX9_joined s m args below meth c H locs (QcI E r u) E (F0 m 185 ls [])) (y1 : Int32) (μ : Mem) (H : Heap) (locs : List Loc) (ls : Array Slot) (hf : fX9_joined_185_b F  rec185 y1 μ = some (r, u)) (hW : Wo E μ H) (hS : va_S (AE E) s.heap H locs) (hl : lv_has ls 6 [(0, .ref (E.1 89)), (1, .int y1)]) : W0 p l e rmX9_joined s m args below meth c H locs (QcI E r u) E (F0 m 185 ls []) := by
  unfold fX9_joined_185_b at hf
  refine lv_iload_n X.1.1 X.1.2.1 dX9_joined_185 rfl (lv_at hl 1 rfl) ?_
  refine lv_iconst (v := 1) X.1.1 X.1.2.1 dX9_joined_186 (by decide) ?_
  refine lv_iadd X.1.1 X.1.2.1 dX9_joined_187 ?_
  refine lv_aload_n X.1.1 X.1.2.1 dX9_joined_188 rfl (lv_at hl 0 rfl) ?_
  refine e_geti X hW (C := RX9) (T := TX9) (N := 35) (j := 21) rfl (by decide) inX9 (by decide) (by decide) rfl rfl mw_3_190 dX9_joined_189 ?_
  refine lv_icmp_ge (tgt := 238) X.1.1 X.1.2.1 dX9_joined_192 (by decide) (fun c192 => ?_) (fun c192 => ?_)
  · rw [if_pos c192] at hf
    refine lv_iconst (v := 0) X.1.1 X.1.2.1 dX9_joined_238 (by decide) ?_
    refine lv_istore_n (lv' := [(1, .int 0), (0, .ref (E.1 89))]) X.1.1 X.1.2.1 dX9_joined_239 rfl hl (by decide) rfl (fun ls hl => ?_)
    exact wfX9_joined_240 X  F 0 μ H locs ls hf hW hS (lv_sub hl [1, 0] rfl)
  · rw [if_neg c192] at hf
    refine lv_aload_n X.1.1 X.1.2.1 dX9_joined_195 rfl (lv_at hl 0 rfl) ?_
    refine lv_iload_n X.1.1 X.1.2.1 dX9_joined_196 rfl (lv_at hl 1 rfl) ?_
    refine e_vi (rest := []) (As := [.int y1]) X hl.1 hW hS (C := RX9) (T := TX9) (N := 35) rfl (by decide) (ctfX9_higher X.2.2.2.2 F y1 μ) (cwV (rm := rmX9_higher) 1 X.1.2.2.2.2 (gd_V mw_4_214 mw_4_216 mw_0_34 mw_1_11 mw_4_217) rfl rfl rfl (by decide +kernel) ⟨Nat.le_of_ble_eq_true rfl, Nat.le_of_ble_eq_true rfl⟩) rfl rfl (Nat.le_of_ble_eq_true rfl) dX9_joined_197 ⟨Nat.zero_le _, Nat.zero_le _⟩ hf (fun r21 m20 H locs hf hW hS => ?_)
    refine lv_istore_n (lv' := [(2, .int r21), (0, .ref (E.1 89)), (1, .int y1)]) X.1.1 X.1.2.1 dX9_joined_200 rfl hl (by decide) rfl (fun ls hl => ?_)
    refine lv_aload_n X.1.1 X.1.2.1 dX9_joined_201 rfl (lv_at hl 1 rfl) ?_
    refine lv_iload_n X.1.1 X.1.2.1 dX9_joined_202 rfl (lv_at hl 2 rfl) ?_
    refine lv_iconst (v := 1) X.1.1 X.1.2.1 dX9_joined_203 (by decide) ?_
    refine lv_iadd X.1.1 X.1.2.1 dX9_joined_204 ?_
    refine e_vi (rest := []) (As := [.int (y1 + 1)]) X hl.1 hW hS (C := RX9) (T := TX9) (N := 35) rfl (by decide) (ctfX9_lower X.2.2.2.2 F (y1 + 1) m20) (cwV (rm := rmX9_lower) 1 X.1.2.2.2.2 (gd_V mw_4_218 mw_4_220 mw_0_35 mw_1_11 mw_4_221) rfl rfl rfl (by decide +kernel) ⟨Nat.le_of_ble_eq_true rfl, Nat.le_of_ble_eq_true rfl⟩) rfl rfl (Nat.le_of_ble_eq_true rfl) dX9_joined_205 ⟨Nat.zero_le _, Nat.zero_le _⟩ hf (fun r23 m22 H locs hf hW hS => ?_)
    refine lv_istore_n (lv' := [(3, .int r23), (2, .int r21), (0, .ref (E.1 89)), (1, .int y1)]) X.1.1 X.1.2.1 dX9_joined_208 rfl hl (by decide) rfl (fun ls hl => ?_)
    refine lv_aload_n X.1.1 X.1.2.1 dX9_joined_209 rfl (lv_at hl 2 rfl) ?_
    refine e_getr X hW (C := RX9) (T := TX9) (N := 35) (j := 29) rfl (by decide) inX9 (by decide) (by decide) rfl (t := 112) rfl rfl mw_3_198 dX9_joined_210 ?_
    refine lv_iload_n X.1.1 X.1.2.1 dX9_joined_213 rfl (lv_at hl 3 rfl) ?_
    refine lv_iload_n X.1.1 X.1.2.1 dX9_joined_214 rfl (lv_at hl 0 rfl) ?_
    refine lv_iload_n X.1.1 X.1.2.1 dX9_joined_215 rfl (lv_at hl 1 rfl) ?_
    refine lv_icmp_le (tgt := 230) X.1.1 X.1.2.1 dX9_joined_216 (by decide) (fun c216 => ?_) (fun c216 => ?_)
    · rw [if_pos c216] at hf
      refine lv_iconst (v := 0) X.1.1 X.1.2.1 dX9_joined_230 (by decide) ?_
      refine e_ist X hW hS (by decide) rfl dX9_joined_231 hf (fun m24 H locs hf hW hS => ?_)
      refine lv_iinc (v := (y1 + 1)) (lv' := [(1, .int (y1 + 1)), (3, .int r23), (2, .int r21), (0, .ref (E.1 89))]) X.1.1 X.1.2.1 dX9_joined_232 hl (k := 3) rfl rfl (by decide) rfl (fun ls hl => ?_)
      refine lv_goto (tgt := 185) X.1.1 X.1.2.1 dX9_joined_235 (by decide) ?_
      exact hrec185 (y1 + 1) m24 H locs ls hf hW hS (lv_sub hl [3, 0] rfl)
    · rw [if_neg c216] at hf
      refine lv_aload_n X.1.1 X.1.2.1 dX9_joined_219 rfl (lv_at hl 2 rfl) ?_
      refine lv_iload_n X.1.1 X.1.2.1 dX9_joined_220 rfl (lv_at hl 1 rfl) ?_
      refine lv_iload_n X.1.1 X.1.2.1 dX9_joined_221 rfl (lv_at hl 0 rfl) ?_
      refine lv_iconst (v := 1) X.1.1 X.1.2.1 dX9_joined_222 (by decide) ?_
      refine lv_iconst (v := 1) X.1.1 X.1.2.1 dX9_joined_223 (by decide) ?_
      refine e_vi (rest := [.int y1, .ref (E.1 112)]) (As := [.int r21, .int r23, .int 1, .int 1]) X hl.1 hW hS (C := RX9) (T := TX9) (N := 35) rfl (by decide) (ctfX9_between X.2.2.2.2 F r21 r23 1 1 m22) (cwV (rm := rmX9_between) 4 X.1.2.2.2.2 (gd_V mw_4_210 mw_4_212 mw_0_33 mw_1_11 mw_4_213) rfl rfl rfl (by decide +kernel) ⟨Nat.le_of_ble_eq_true rfl, Nat.le_of_ble_eq_true rfl⟩) rfl rfl (Nat.le_of_ble_eq_true rfl) dX9_joined_224 ⟨Nat.zero_le _, Nat.zero_le _⟩ hf (fun r26 m25 H locs hf hW hS => ?_)
      refine lv_goto (tgt := 231) X.1.1 X.1.2.1 dX9_joined_227 (by decide) ?_
      refine e_ist X hW hS (by decide) rfl dX9_joined_231 hf (fun m27 H locs hf hW hS => ?_)
      refine lv_iinc (v := (y1 + 1)) (lv' := [(1, .int (y1 + 1)), (3, .int r23), (2, .int r21), (0, .ref (E.1 89))]) X.1.1 X.1.2.1 dX9_joined_232 hl (k := 3) rfl rfl (by decide) rfl (fun ls hl => ?_)
      refine lv_goto (tgt := 185) X.1.1 X.1.2.1 dX9_joined_235 (by decide) ?_
      exact hrec185 (y1 + 1) m27 H locs ls hf hW hS (lv_sub hl [3, 0] rfl)
theorem wfX9_joined_185 {p : Program} {l : Launch} {e : Env} {s : State} {m : MethodId} {args : Array Value} {below : List Frame} {meth : Method} {c : Code} {E : Gv} {F : Nat}  {r : Int32} {u : Mem} (X : Fx p m c cX9_joined 6 s args (Cond.code yX9_joined cX9_joined 6 (some .int)) "OvenHouseModel" meth (some .int) E)  (n : Nat) : ∀ (y1 : Int32) (μ : Mem) (H : Heap) (locs : List Loc) (ls : Array Slot) (_ : fX9_joined_185 F   n y1 μ = some (r, u)) (_ : Wo E μ H) (_ : va_S (AE E) s.heap H locs) (_ : lv_has ls 6 [(0, .ref (E.1 89)), (1, .int y1)]), W0 p l e rmX9_joined s m args below meth c H locs (QcI E r u) E (F0 m 185 ls []) := by
  induction n with
  | zero => intro y1 μ H locs ls hf hW hS hl; cases hf
  | succ n ih => intro y1 μ H locs ls hf hW hS hl; exact wfX9_joined_185_b X  _ ih y1 μ H locs ls hf hW hS hl
set_option maxRecDepth 100000 in
set_option maxHeartbeats 4000000 in
theorem wfX9_joined_106_b {p : Program} {l : Launch} {e : Env} {s : State} {m : MethodId} {args : Array Value} {below : List Frame} {meth : Method} {c : Code} {E : Gv} {F : Nat}  {r : Int32} {u : Mem} (X : Fx p m c cX9_joined 6 s args (Cond.code yX9_joined cX9_joined 6 (some .int)) "OvenHouseModel" meth (some .int) E)  (rec106 : Int32 → Mem → Option (Int32 × Mem)) (hrec106 : ∀ (y1 : Int32) (μ : Mem) (H : Heap) (locs : List Loc) (ls : Array Slot), rec106 y1 μ = some (r, u) → Wo E μ H → va_S (AE E) s.heap H locs → lv_has ls 6 [(0, .ref (E.1 89)), (1, .int y1)] → W0 p l e rmX9_joined s m args below meth c H locs (QcI E r u) E (F0 m 106 ls [])) (y1 : Int32) (μ : Mem) (H : Heap) (locs : List Loc) (ls : Array Slot) (hf : fX9_joined_106_b F  rec106 y1 μ = some (r, u)) (hW : Wo E μ H) (hS : va_S (AE E) s.heap H locs) (hl : lv_has ls 6 [(0, .ref (E.1 89)), (1, .int y1)]) : W0 p l e rmX9_joined s m args below meth c H locs (QcI E r u) E (F0 m 106 ls []) := by
  unfold fX9_joined_106_b at hf
  refine lv_iload_n X.1.1 X.1.2.1 dX9_joined_106 rfl (lv_at hl 1 rfl) ?_
  refine lv_aload_n X.1.1 X.1.2.1 dX9_joined_107 rfl (lv_at hl 0 rfl) ?_
  refine e_geti X hW (C := RX9) (T := TX9) (N := 35) (j := 21) rfl (by decide) inX9 (by decide) (by decide) rfl rfl mw_3_190 dX9_joined_108 ?_
  refine lv_icmp_ge (tgt := 173) X.1.1 X.1.2.1 dX9_joined_111 (by decide) (fun c111 => ?_) (fun c111 => ?_)
  · rw [if_pos c111] at hf
    refine lv_aload_n X.1.1 X.1.2.1 dX9_joined_173 rfl (lv_at hl 0 rfl) ?_
    refine e_getr X hW (C := RX9) (T := TX9) (N := 35) (j := 32) rfl (by decide) inX9 (by decide) (by decide) rfl (t := 115) rfl rfl mw_3_201 dX9_joined_174 ?_
    refine lv_iconst (v := 1) X.1.1 X.1.2.1 dX9_joined_177 (by decide) ?_
    refine lv_aload_n X.1.1 X.1.2.1 dX9_joined_178 rfl (lv_at hl 0 rfl) ?_
    refine e_vi (rest := [.int 1, .ref (E.1 115)]) (As := []) X hl.1 hW hS (C := RX9) (T := TX9) (N := 35) rfl (by decide) (ctfX9_ringCost X.2.2.2.2 F μ) (cwV (rm := rmX9_ringCost) 0 X.1.2.2.2.2 (gd_V mw_4_202 mw_4_204 mw_0_31 mw_1_11 mw_4_205) rfl rfl rfl (by decide +kernel) ⟨Nat.le_of_ble_eq_true rfl, Nat.le_of_ble_eq_true rfl⟩) rfl rfl (Nat.le_of_ble_eq_true rfl) dX9_joined_179 ⟨Nat.zero_le _, Nat.zero_le _⟩ hf (fun r14 m13 H locs hf hW hS => ?_)
    refine e_ist X hW hS (by decide) rfl dX9_joined_182 hf (fun m15 H locs hf hW hS => ?_)
    refine lv_iconst (v := 0) X.1.1 X.1.2.1 dX9_joined_183 (by decide) ?_
    refine lv_istore_n (lv' := [(1, .int 0), (0, .ref (E.1 89))]) X.1.1 X.1.2.1 dX9_joined_184 rfl hl (by decide) rfl (fun ls hl => ?_)
    exact wfX9_joined_185 X  F 0 m15 H locs ls hf hW hS (lv_sub hl [1, 0] rfl)
  · rw [if_neg c111] at hf
    refine lv_iload_n X.1.1 X.1.2.1 dX9_joined_114 rfl (lv_at hl 1 rfl) ?_
    refine lv_istore_n (lv' := [(2, .int y1), (0, .ref (E.1 89)), (1, .int y1)]) X.1.1 X.1.2.1 dX9_joined_115 rfl hl (by decide) rfl (fun ls hl => ?_)
    refine lv_aload_n X.1.1 X.1.2.1 dX9_joined_116 rfl (lv_at hl 1 rfl) ?_
    refine e_getr X hW (C := RX9) (T := TX9) (N := 35) (j := 32) rfl (by decide) inX9 (by decide) (by decide) rfl (t := 115) rfl rfl mw_3_201 dX9_joined_117 ?_
    refine lv_iconst (v := 0) X.1.1 X.1.2.1 dX9_joined_120 (by decide) ?_
    refine lv_dup2_11 X.1.1 X.1.2.1 dX9_joined_121 rfl rfl ?_
    refine e_ild X hW (by decide) rfl dX9_joined_122 hf (fun v16 hf => ?_)
    refine lv_aload_n X.1.1 X.1.2.1 dX9_joined_123 rfl (lv_at hl 1 rfl) ?_
    refine e_getr X hW (C := RX9) (T := TX9) (N := 35) (j := 28) rfl (by decide) inX9 (by decide) (by decide) rfl (t := 111) rfl rfl mw_3_197 dX9_joined_124 ?_
    refine lv_iload_n X.1.1 X.1.2.1 dX9_joined_127 rfl (lv_at hl 2 rfl) ?_
    refine e_ild X hW (by decide) rfl dX9_joined_128 hf (fun v17 hf => ?_)
    refine lv_iconst (v := (-1)) X.1.1 X.1.2.1 dX9_joined_129 (by decide) ?_
    refine lv_icmp_ne (tgt := 137) X.1.1 X.1.2.1 dX9_joined_130 (by decide) (fun c130 => ?_) (fun c130 => ?_)
    · rw [if_neg c130] at hf
      refine lv_iconst (v := 0) X.1.1 X.1.2.1 dX9_joined_137 (by decide) ?_
      refine lv_iadd X.1.1 X.1.2.1 dX9_joined_138 ?_
      refine e_ist X hW hS (by decide) rfl dX9_joined_139 hf (fun m18 H locs hf hW hS => ?_)
      exact wfX9_joined_140 X rec106 hrec106 F y1 y1 m18 H locs ls hf hW hS (lv_sub hl [1, 2, 0] rfl)
    · rw [if_pos c130] at hf
      refine lv_iconst (v := 1) X.1.1 X.1.2.1 dX9_joined_133 (by decide) ?_
      refine lv_goto (tgt := 138) X.1.1 X.1.2.1 dX9_joined_134 (by decide) ?_
      refine lv_iadd X.1.1 X.1.2.1 dX9_joined_138 ?_
      refine e_ist X hW hS (by decide) rfl dX9_joined_139 hf (fun m19 H locs hf hW hS => ?_)
      exact wfX9_joined_140 X rec106 hrec106 F y1 y1 m19 H locs ls hf hW hS (lv_sub hl [1, 2, 0] rfl)
theorem wfX9_joined_106 {p : Program} {l : Launch} {e : Env} {s : State} {m : MethodId} {args : Array Value} {below : List Frame} {meth : Method} {c : Code} {E : Gv} {F : Nat}  {r : Int32} {u : Mem} (X : Fx p m c cX9_joined 6 s args (Cond.code yX9_joined cX9_joined 6 (some .int)) "OvenHouseModel" meth (some .int) E)  (n : Nat) : ∀ (y1 : Int32) (μ : Mem) (H : Heap) (locs : List Loc) (ls : Array Slot) (_ : fX9_joined_106 F   n y1 μ = some (r, u)) (_ : Wo E μ H) (_ : va_S (AE E) s.heap H locs) (_ : lv_has ls 6 [(0, .ref (E.1 89)), (1, .int y1)]), W0 p l e rmX9_joined s m args below meth c H locs (QcI E r u) E (F0 m 106 ls []) := by
  induction n with
  | zero => intro y1 μ H locs ls hf hW hS hl; cases hf
  | succ n ih => intro y1 μ H locs ls hf hW hS hl; exact wfX9_joined_106_b X  _ ih y1 μ H locs ls hf hW hS hl
set_option maxRecDepth 100000 in
set_option maxHeartbeats 4000000 in
theorem wfX9_joined_26_b {p : Program} {l : Launch} {e : Env} {s : State} {m : MethodId} {args : Array Value} {below : List Frame} {meth : Method} {c : Code} {E : Gv} {F : Nat}  {r : Int32} {u : Mem} (X : Fx p m c cX9_joined 6 s args (Cond.code yX9_joined cX9_joined 6 (some .int)) "OvenHouseModel" meth (some .int) E)  (rec26 : Int32 → Mem → Option (Int32 × Mem)) (hrec26 : ∀ (y1 : Int32) (μ : Mem) (H : Heap) (locs : List Loc) (ls : Array Slot), rec26 y1 μ = some (r, u) → Wo E μ H → va_S (AE E) s.heap H locs → lv_has ls 6 [(0, .ref (E.1 89)), (1, .int y1)] → W0 p l e rmX9_joined s m args below meth c H locs (QcI E r u) E (F0 m 26 ls [])) (y1 : Int32) (μ : Mem) (H : Heap) (locs : List Loc) (ls : Array Slot) (hf : fX9_joined_26_b F  rec26 y1 μ = some (r, u)) (hW : Wo E μ H) (hS : va_S (AE E) s.heap H locs) (hl : lv_has ls 6 [(0, .ref (E.1 89)), (1, .int y1)]) : W0 p l e rmX9_joined s m args below meth c H locs (QcI E r u) E (F0 m 26 ls []) := by
  unfold fX9_joined_26_b at hf
  refine lv_iload_n X.1.1 X.1.2.1 dX9_joined_26 rfl (lv_at hl 1 rfl) ?_
  refine lv_aload_n X.1.1 X.1.2.1 dX9_joined_27 rfl (lv_at hl 0 rfl) ?_
  refine e_geti X hW (C := RX9) (T := TX9) (N := 35) (j := 21) rfl (by decide) inX9 (by decide) (by decide) rfl rfl mw_3_190 dX9_joined_28 ?_
  refine lv_icmp_ge (tgt := 78) X.1.1 X.1.2.1 dX9_joined_31 (by decide) (fun c31 => ?_) (fun c31 => ?_)
  · rw [if_pos c31] at hf
    refine lv_aload_n X.1.1 X.1.2.1 dX9_joined_78 rfl (lv_at hl 0 rfl) ?_
    refine lv_iconst (v := 1) X.1.1 X.1.2.1 dX9_joined_79 (by decide) ?_
    refine e_put X hW hS (C := RX9) (T := TX9) (N := 35) (j := 33) (tyF := tyX9) rfl (by decide) inX9 tyX9_ok nmX9 (by decide) (by decide) rfl rfl mw_3_202 rfl rfl rfl dX9_joined_80 hf (fun m3 H locs hf hW hS => ?_)
    refine lv_aload_n X.1.1 X.1.2.1 dX9_joined_83 rfl (lv_at hl 0 rfl) ?_
    refine e_getr X hW (C := RX9) (T := TX9) (N := 35) (j := 32) rfl (by decide) inX9 (by decide) (by decide) rfl (t := 115) rfl rfl mw_3_201 dX9_joined_84 ?_
    refine lv_iconst (v := 0) X.1.1 X.1.2.1 dX9_joined_87 (by decide) ?_
    refine lv_iconst (v := 0) X.1.1 X.1.2.1 dX9_joined_88 (by decide) ?_
    refine e_ist X hW hS (by decide) rfl dX9_joined_89 hf (fun m4 H locs hf hW hS => ?_)
    refine lv_aload_n X.1.1 X.1.2.1 dX9_joined_90 rfl (lv_at hl 0 rfl) ?_
    refine e_getr X hW (C := RX9) (T := TX9) (N := 35) (j := 32) rfl (by decide) inX9 (by decide) (by decide) rfl (t := 115) rfl rfl mw_3_201 dX9_joined_91 ?_
    refine lv_iconst (v := 2) X.1.1 X.1.2.1 dX9_joined_94 (by decide) ?_
    refine lv_iconst (v := 0) X.1.1 X.1.2.1 dX9_joined_95 (by decide) ?_
    refine e_ist X hW hS (by decide) rfl dX9_joined_96 hf (fun m5 H locs hf hW hS => ?_)
    refine lv_aload_n X.1.1 X.1.2.1 dX9_joined_97 rfl (lv_at hl 0 rfl) ?_
    refine e_getr X hW (C := RX9) (T := TX9) (N := 35) (j := 32) rfl (by decide) inX9 (by decide) (by decide) rfl (t := 115) rfl rfl mw_3_201 dX9_joined_98 ?_
    refine lv_iconst (v := 3) X.1.1 X.1.2.1 dX9_joined_101 (by decide) ?_
    refine lv_iconst (v := 0) X.1.1 X.1.2.1 dX9_joined_102 (by decide) ?_
    refine e_ist X hW hS (by decide) rfl dX9_joined_103 hf (fun m6 H locs hf hW hS => ?_)
    refine lv_iconst (v := 0) X.1.1 X.1.2.1 dX9_joined_104 (by decide) ?_
    refine lv_istore_n (lv' := [(1, .int 0), (0, .ref (E.1 89))]) X.1.1 X.1.2.1 dX9_joined_105 rfl hl (by decide) rfl (fun ls hl => ?_)
    exact wfX9_joined_106 X  F 0 m6 H locs ls hf hW hS (lv_sub hl [1, 0] rfl)
  · rw [if_neg c31] at hf
    refine lv_aload_n X.1.1 X.1.2.1 dX9_joined_34 rfl (lv_at hl 0 rfl) ?_
    refine e_getr X hW (C := RX9) (T := TX9) (N := 35) (j := 27) rfl (by decide) inX9 (by decide) (by decide) rfl (t := 110) rfl rfl mw_3_196 dX9_joined_35 ?_
    refine lv_aload_n X.1.1 X.1.2.1 dX9_joined_38 rfl (lv_at hl 0 rfl) ?_
    refine e_getr X hW (C := RX9) (T := TX9) (N := 35) (j := 25) rfl (by decide) inX9 (by decide) (by decide) rfl (t := 108) rfl rfl mw_3_194 dX9_joined_39 ?_
    refine lv_iload_n X.1.1 X.1.2.1 dX9_joined_42 rfl (lv_at hl 1 rfl) ?_
    refine e_ild X hW (by decide) rfl dX9_joined_43 hf (fun v7 hf => ?_)
    refine lv_aload_n X.1.1 X.1.2.1 dX9_joined_44 rfl (lv_at hl 0 rfl) ?_
    refine e_getr X hW (C := RX9) (T := TX9) (N := 35) (j := 26) rfl (by decide) inX9 (by decide) (by decide) rfl (t := 109) rfl rfl mw_3_195 dX9_joined_45 ?_
    refine lv_iload_n X.1.1 X.1.2.1 dX9_joined_48 rfl (lv_at hl 1 rfl) ?_
    refine e_ild X hW (by decide) rfl dX9_joined_49 hf (fun v8 hf => ?_)
    refine e_ist X hW hS (by decide) rfl dX9_joined_50 hf (fun m9 H locs hf hW hS => ?_)
    refine lv_aload_n X.1.1 X.1.2.1 dX9_joined_51 rfl (lv_at hl 0 rfl) ?_
    refine e_getr X hW (C := RX9) (T := TX9) (N := 35) (j := 28) rfl (by decide) inX9 (by decide) (by decide) rfl (t := 111) rfl rfl mw_3_197 dX9_joined_52 ?_
    refine lv_iload_n X.1.1 X.1.2.1 dX9_joined_55 rfl (lv_at hl 1 rfl) ?_
    refine lv_iconst (v := (-1)) X.1.1 X.1.2.1 dX9_joined_56 (by decide) ?_
    refine e_ist X hW hS (by decide) rfl dX9_joined_57 hf (fun m10 H locs hf hW hS => ?_)
    refine lv_aload_n X.1.1 X.1.2.1 dX9_joined_58 rfl (lv_at hl 0 rfl) ?_
    refine e_getr X hW (C := RX9) (T := TX9) (N := 35) (j := 30) rfl (by decide) inX9 (by decide) (by decide) rfl (t := 113) rfl rfl mw_3_199 dX9_joined_59 ?_
    refine lv_iload_n X.1.1 X.1.2.1 dX9_joined_62 rfl (lv_at hl 1 rfl) ?_
    refine lv_iconst (v := 0) X.1.1 X.1.2.1 dX9_joined_63 (by decide) ?_
    refine e_zst X hW hS (by decide) rfl dX9_joined_64 hf (fun m11 H locs hf hW hS => ?_)
    refine lv_aload_n X.1.1 X.1.2.1 dX9_joined_65 rfl (lv_at hl 0 rfl) ?_
    refine e_getr X hW (C := RX9) (T := TX9) (N := 35) (j := 31) rfl (by decide) inX9 (by decide) (by decide) rfl (t := 114) rfl rfl mw_3_200 dX9_joined_66 ?_
    refine lv_iload_n X.1.1 X.1.2.1 dX9_joined_69 rfl (lv_at hl 1 rfl) ?_
    refine lv_iconst (v := 0) X.1.1 X.1.2.1 dX9_joined_70 (by decide) ?_
    refine e_zst X hW hS (by decide) rfl dX9_joined_71 hf (fun m12 H locs hf hW hS => ?_)
    refine lv_iinc (v := (y1 + 1)) (lv' := [(1, .int (y1 + 1)), (0, .ref (E.1 89))]) X.1.1 X.1.2.1 dX9_joined_72 hl (k := 1) rfl rfl (by decide) rfl (fun ls hl => ?_)
    refine lv_goto (tgt := 26) X.1.1 X.1.2.1 dX9_joined_75 (by decide) ?_
    exact hrec26 (y1 + 1) m12 H locs ls hf hW hS (lv_sub hl [1, 0] rfl)
theorem wfX9_joined_26 {p : Program} {l : Launch} {e : Env} {s : State} {m : MethodId} {args : Array Value} {below : List Frame} {meth : Method} {c : Code} {E : Gv} {F : Nat}  {r : Int32} {u : Mem} (X : Fx p m c cX9_joined 6 s args (Cond.code yX9_joined cX9_joined 6 (some .int)) "OvenHouseModel" meth (some .int) E)  (n : Nat) : ∀ (y1 : Int32) (μ : Mem) (H : Heap) (locs : List Loc) (ls : Array Slot) (_ : fX9_joined_26 F   n y1 μ = some (r, u)) (_ : Wo E μ H) (_ : va_S (AE E) s.heap H locs) (_ : lv_has ls 6 [(0, .ref (E.1 89)), (1, .int y1)]), W0 p l e rmX9_joined s m args below meth c H locs (QcI E r u) E (F0 m 26 ls []) := by
  induction n with
  | zero => intro y1 μ H locs ls hf hW hS hl; cases hf
  | succ n ih => intro y1 μ H locs ls hf hW hS hl; exact wfX9_joined_26_b X  _ ih y1 μ H locs ls hf hW hS hl
set_option maxRecDepth 100000 in
set_option maxHeartbeats 4000000 in
theorem ctfX9_joined {l : Launch} {E : Gv} (hD : Do E) (F : Nat)  (μ : Mem) : CtI l yX9_joined ((Cond.code yX9_joined cX9_joined 6 (some .int)) :: GG) rmX9_joined E [.ref (E.1 89)] μ (fX9_joined F μ) := by
  intro r u hf
  refine of_entry (cc := cX9_joined) (maxL := 6) (ret := (some .int)) (by decide +kernel) rfl hD (Nat.le_of_ble_eq_true rfl) (fun p e s m args below meth c X H locs hW hS ls hl => ?_)
  have hl : lv_has ls 6 [(0, .ref (E.1 89))] := hl
  unfold fX9_joined at hf
  refine lv_aload_n X.1.1 X.1.2.1 dX9_joined_0 rfl (lv_at hl 0 rfl) ?_
  refine lv_aload_n X.1.1 X.1.2.1 dX9_joined_1 rfl (lv_at hl 0 rfl) ?_
  refine e_getr X hW (C := RX9) (T := TX9) (N := 35) (j := 25) rfl (by decide) inX9 (by decide) (by decide) rfl (t := 108) rfl rfl mw_3_194 dX9_joined_2 ?_
  refine lv_aload_n X.1.1 X.1.2.1 dX9_joined_5 rfl (lv_at hl 0 rfl) ?_
  refine e_getr X hW (C := RX9) (T := TX9) (N := 35) (j := 24) rfl (by decide) inX9 (by decide) (by decide) rfl (t := 107) rfl rfl mw_3_193 dX9_joined_6 ?_
  refine e_vv (rest := []) (As := [.ref (E.1 108), .ref (E.1 107)]) X hl.1 hW hS (C := RX9) (T := TX9) (N := 35) rfl (by decide) (ctfX9_sorts X.2.2.2.2 F 108 107 ⟨(by decide), rfl⟩ ⟨(by decide), rfl⟩ μ) (cwV (rm := rmX9_sorts) 2 X.1.2.2.2.2 (gd_V mw_4_198 mw_4_200 mw_0_30 mw_1_11 mw_4_201) rfl rfl rfl (by decide +kernel) ⟨Nat.le_of_ble_eq_true rfl, Nat.le_of_ble_eq_true rfl⟩) rfl rfl (Nat.le_of_ble_eq_true rfl) dX9_joined_9 ⟨Nat.zero_le _, Nat.zero_le _⟩ hf (fun m1 H locs hf hW hS => ?_)
  refine lv_aload_n X.1.1 X.1.2.1 dX9_joined_12 rfl (lv_at hl 0 rfl) ?_
  refine lv_aload_n X.1.1 X.1.2.1 dX9_joined_13 rfl (lv_at hl 0 rfl) ?_
  refine e_getr X hW (C := RX9) (T := TX9) (N := 35) (j := 26) rfl (by decide) inX9 (by decide) (by decide) rfl (t := 109) rfl rfl mw_3_195 dX9_joined_14 ?_
  refine lv_aload_n X.1.1 X.1.2.1 dX9_joined_17 rfl (lv_at hl 0 rfl) ?_
  refine e_getr X hW (C := RX9) (T := TX9) (N := 35) (j := 23) rfl (by decide) inX9 (by decide) (by decide) rfl (t := 106) rfl rfl mw_3_192 dX9_joined_18 ?_
  refine e_vv (rest := []) (As := [.ref (E.1 109), .ref (E.1 106)]) X hl.1 hW hS (C := RX9) (T := TX9) (N := 35) rfl (by decide) (ctfX9_sorts X.2.2.2.2 F 109 106 ⟨(by decide), rfl⟩ ⟨(by decide), rfl⟩ m1) (cwV (rm := rmX9_sorts) 2 X.1.2.2.2.2 (gd_V mw_4_198 mw_4_200 mw_0_30 mw_1_11 mw_4_201) rfl rfl rfl (by decide +kernel) ⟨Nat.le_of_ble_eq_true rfl, Nat.le_of_ble_eq_true rfl⟩) rfl rfl (Nat.le_of_ble_eq_true rfl) dX9_joined_21 ⟨Nat.zero_le _, Nat.zero_le _⟩ hf (fun m2 H locs hf hW hS => ?_)
  refine lv_iconst (v := 0) X.1.1 X.1.2.1 dX9_joined_24 (by decide) ?_
  refine lv_istore_n (lv' := [(1, .int 0), (0, .ref (E.1 89))]) X.1.1 X.1.2.1 dX9_joined_25 rfl hl (by decide) rfl (fun ls hl => ?_)
  exact wfX9_joined_26 X  F 0 m2 H locs ls hf hW hS (lv_sub hl [1, 0] rfl)
-- OvenHouseModel.roundFrom
def rmX9_roundFrom : Room := { frames := 1, cells := 0, slots := 0, locals := 22 }
set_option maxRecDepth 100000 in
set_option maxHeartbeats 4000000 in
theorem wfX9_roundFrom_4_b {p : Program} {l : Launch} {e : Env} {s : State} {m : MethodId} {args : Array Value} {below : List Frame} {meth : Method} {c : Code} {E : Gv} {F : Nat}  {u : Mem} (X : Fx p m c cX9_roundFrom 4 s args (Cond.code yX9_roundFrom cX9_roundFrom 4 none) "OvenHouseModel" meth none E)  (rec4 : Int32 → Int32 → Mem → Option Mem) (hrec4 : ∀ (y2 : Int32) (y3 : Int32) (μ : Mem) (H : Heap) (locs : List Loc) (ls : Array Slot), rec4 y2 y3 μ = some u → Wo E μ H → va_S (AE E) s.heap H locs → lv_has ls 4 [(0, .ref (E.1 89)), (2, .int y2), (3, .int y3)] → W0 p l e rmX9_roundFrom s m args below meth c H locs (QcN E u) E (F0 m 4 ls [])) (y2 : Int32) (y3 : Int32) (μ : Mem) (H : Heap) (locs : List Loc) (ls : Array Slot) (hf : fX9_roundFrom_4_b F  rec4 y2 y3 μ = some u) (hW : Wo E μ H) (hS : va_S (AE E) s.heap H locs) (hl : lv_has ls 4 [(0, .ref (E.1 89)), (2, .int y2), (3, .int y3)]) : W0 p l e rmX9_roundFrom s m args below meth c H locs (QcN E u) E (F0 m 4 ls []) := by
  unfold fX9_roundFrom_4_b at hf
  refine lv_iload_n X.1.1 X.1.2.1 dX9_roundFrom_4 rfl (lv_at hl 2 rfl) ?_
  refine lv_aload_n X.1.1 X.1.2.1 dX9_roundFrom_5 rfl (lv_at hl 0 rfl) ?_
  refine e_getr X hW (C := RX9) (T := TX9) (N := 35) (j := 5) rfl (by decide) inX9 (by decide) (by decide) rfl (t := 94) rfl rfl mw_3_174 dX9_roundFrom_6 ?_
  refine lv_iconst (v := 0) X.1.1 X.1.2.1 dX9_roundFrom_9 (by decide) ?_
  refine e_ild X hW (by decide) rfl dX9_roundFrom_10 hf (fun v1 hf => ?_)
  refine lv_icmp_ge (tgt := 34) X.1.1 X.1.2.1 dX9_roundFrom_11 (by decide) (fun c11 => ?_) (fun c11 => ?_)
  · rw [if_pos c11] at hf
    refine lv_aload_n X.1.1 X.1.2.1 dX9_roundFrom_34 rfl (lv_at hl 0 rfl) ?_
    refine lv_aload_n X.1.1 X.1.2.1 dX9_roundFrom_35 rfl (lv_at hl 0 rfl) ?_
    refine e_getr X hW (C := RX9) (T := TX9) (N := 35) (j := 20) rfl (by decide) inX9 (by decide) (by decide) rfl (t := 105) rfl rfl mw_3_189 dX9_roundFrom_36 ?_
    refine e_vv (rest := []) (As := [.ref (E.1 105)]) X hl.1 hW hS (C := RX9) (T := TX9) (N := 35) rfl (by decide) (ctfX9_finds X.2.2.2.2 F 105 ⟨(by decide), rfl⟩ μ) (cwV (rm := rmX9_finds) 1 X.1.2.2.2.2 (gd_V mw_4_230 mw_4_232 mw_0_38 mw_1_11 mw_4_233) rfl rfl rfl (by decide +kernel) ⟨Nat.le_of_ble_eq_true rfl, Nat.le_of_ble_eq_true rfl⟩) rfl rfl (Nat.le_of_ble_eq_true rfl) dX9_roundFrom_39 ⟨Nat.zero_le _, Nat.zero_le _⟩ hf (fun m2 H locs hf hW hS => ?_)
    exact e_vret X hW hS hf dX9_roundFrom_42
  · rw [if_neg c11] at hf
    refine lv_aload_n X.1.1 X.1.2.1 dX9_roundFrom_14 rfl (lv_at hl 0 rfl) ?_
    refine e_getr X hW (C := RX9) (T := TX9) (N := 35) (j := 20) rfl (by decide) inX9 (by decide) (by decide) rfl (t := 105) rfl rfl mw_3_189 dX9_roundFrom_15 ?_
    refine lv_iload_n X.1.1 X.1.2.1 dX9_roundFrom_18 rfl (lv_at hl 2 rfl) ?_
    refine lv_iload_n X.1.1 X.1.2.1 dX9_roundFrom_19 rfl (lv_at hl 1 rfl) ?_
    refine e_ist X hW hS (by decide) rfl dX9_roundFrom_20 hf (fun m3 H locs hf hW hS => ?_)
    refine lv_aload_n X.1.1 X.1.2.1 dX9_roundFrom_21 rfl (lv_at hl 0 rfl) ?_
    refine e_getr X hW (C := RX9) (T := TX9) (N := 35) (j := 27) rfl (by decide) inX9 (by decide) (by decide) rfl (t := 110) rfl rfl mw_3_196 dX9_roundFrom_22 ?_
    refine lv_iload_n X.1.1 X.1.2.1 dX9_roundFrom_25 rfl (lv_at hl 1 rfl) ?_
    refine e_ild X hW (by decide) rfl dX9_roundFrom_26 hf (fun v4 hf => ?_)
    refine lv_istore_n (lv' := [(2, .int v4), (0, .ref (E.1 89)), (3, .int y3)]) X.1.1 X.1.2.1 dX9_roundFrom_27 rfl hl (by decide) rfl (fun ls hl => ?_)
    refine lv_iinc (v := (y3 + 1)) (lv' := [(3, .int (y3 + 1)), (2, .int v4), (0, .ref (E.1 89))]) X.1.1 X.1.2.1 dX9_roundFrom_28 hl (k := 2) rfl rfl (by decide) rfl (fun ls hl => ?_)
    refine lv_goto (tgt := 4) X.1.1 X.1.2.1 dX9_roundFrom_31 (by decide) ?_
    exact hrec4 v4 (y3 + 1) m3 H locs ls hf hW hS (lv_sub hl [2, 1, 0] rfl)
theorem wfX9_roundFrom_4 {p : Program} {l : Launch} {e : Env} {s : State} {m : MethodId} {args : Array Value} {below : List Frame} {meth : Method} {c : Code} {E : Gv} {F : Nat}  {u : Mem} (X : Fx p m c cX9_roundFrom 4 s args (Cond.code yX9_roundFrom cX9_roundFrom 4 none) "OvenHouseModel" meth none E)  (n : Nat) : ∀ (y2 : Int32) (y3 : Int32) (μ : Mem) (H : Heap) (locs : List Loc) (ls : Array Slot) (_ : fX9_roundFrom_4 F   n y2 y3 μ = some u) (_ : Wo E μ H) (_ : va_S (AE E) s.heap H locs) (_ : lv_has ls 4 [(0, .ref (E.1 89)), (2, .int y2), (3, .int y3)]), W0 p l e rmX9_roundFrom s m args below meth c H locs (QcN E u) E (F0 m 4 ls []) := by
  induction n with
  | zero => intro y2 y3 μ H locs ls hf hW hS hl; cases hf
  | succ n ih => intro y2 y3 μ H locs ls hf hW hS hl; exact wfX9_roundFrom_4_b X  _ ih y2 y3 μ H locs ls hf hW hS hl
set_option maxRecDepth 100000 in
set_option maxHeartbeats 4000000 in
theorem ctfX9_roundFrom {l : Launch} {E : Gv} (hD : Do E) (F : Nat) (x1 : Int32)  (μ : Mem) : CtV l yX9_roundFrom ((Cond.code yX9_roundFrom cX9_roundFrom 4 none) :: GG) rmX9_roundFrom E [.ref (E.1 89), .int x1] μ (fX9_roundFrom F x1 μ) := by
  intro u hf
  refine of_entry (cc := cX9_roundFrom) (maxL := 4) (ret := none) (by decide +kernel) rfl hD (Nat.le_of_ble_eq_true rfl) (fun p e s m args below meth c X H locs hW hS ls hl => ?_)
  have hl : lv_has ls 4 [(0, .ref (E.1 89)), (1, .int x1)] := hl
  unfold fX9_roundFrom at hf
  refine lv_iload_n X.1.1 X.1.2.1 dX9_roundFrom_0 rfl (lv_at hl 1 rfl) ?_
  refine lv_istore_n (lv' := [(2, .int x1), (0, .ref (E.1 89)), (1, .int x1)]) X.1.1 X.1.2.1 dX9_roundFrom_1 rfl hl (by decide) rfl (fun ls hl => ?_)
  refine lv_iconst (v := 0) X.1.1 X.1.2.1 dX9_roundFrom_2 (by decide) ?_
  refine lv_istore_n (lv' := [(3, .int 0), (2, .int x1), (0, .ref (E.1 89)), (1, .int x1)]) X.1.1 X.1.2.1 dX9_roundFrom_3 rfl hl (by decide) rfl (fun ls hl => ?_)
  exact wfX9_roundFrom_4 X  F x1 0 μ H locs ls hf hW hS (lv_sub hl [2, 1, 0] rfl)
-- OvenHouseModel.atOnce
def rmX9_atOnce : Room := { frames := 4, cells := 0, slots := 0, locals := 95 }
set_option maxRecDepth 100000 in
set_option maxHeartbeats 4000000 in
theorem wfX9_atOnce_21_b {p : Program} {l : Launch} {e : Env} {s : State} {m : MethodId} {args : Array Value} {below : List Frame} {meth : Method} {c : Code} {E : Gv} {F : Nat}  {r : Int32} {u : Mem} (X : Fx p m c cX9_atOnce 3 s args (Cond.code yX9_atOnce cX9_atOnce 3 (some .int)) "OvenHouseModel" meth (some .int) E)  (rec21 : Int32 → Int32 → Mem → Option (Int32 × Mem)) (hrec21 : ∀ (y1 : Int32) (y2 : Int32) (μ : Mem) (H : Heap) (locs : List Loc) (ls : Array Slot), rec21 y1 y2 μ = some (r, u) → Wo E μ H → va_S (AE E) s.heap H locs → lv_has ls 3 [(0, .ref (E.1 89)), (1, .int y1), (2, .int y2)] → W0 p l e rmX9_atOnce s m args below meth c H locs (QcI E r u) E (F0 m 21 ls [])) (y1 : Int32) (y2 : Int32) (μ : Mem) (H : Heap) (locs : List Loc) (ls : Array Slot) (hf : fX9_atOnce_21_b F  rec21 y1 y2 μ = some (r, u)) (hW : Wo E μ H) (hS : va_S (AE E) s.heap H locs) (hl : lv_has ls 3 [(0, .ref (E.1 89)), (1, .int y1), (2, .int y2)]) : W0 p l e rmX9_atOnce s m args below meth c H locs (QcI E r u) E (F0 m 21 ls []) := by
  unfold fX9_atOnce_21_b at hf
  refine lv_iload_n X.1.1 X.1.2.1 dX9_atOnce_21 rfl (lv_at hl 2 rfl) ?_
  refine lv_iload_n X.1.1 X.1.2.1 dX9_atOnce_22 rfl (lv_at hl 1 rfl) ?_
  refine lv_icmp_ge (tgt := 56) X.1.1 X.1.2.1 dX9_atOnce_23 (by decide) (fun c23 => ?_) (fun c23 => ?_)
  · rw [if_pos c23] at hf
    refine lv_aload_n X.1.1 X.1.2.1 dX9_atOnce_56 rfl (lv_at hl 0 rfl) ?_
    refine e_getr X hW (C := RX9) (T := TX9) (N := 35) (j := 23) rfl (by decide) inX9 (by decide) (by decide) rfl (t := 106) rfl rfl mw_3_192 dX9_atOnce_57 ?_
    refine lv_iload_n X.1.1 X.1.2.1 dX9_atOnce_60 rfl (lv_at hl 1 rfl) ?_
    refine lv_iconst (v := 0) X.1.1 X.1.2.1 dX9_atOnce_61 (by decide) ?_
    refine e_ist X hW hS (by decide) rfl dX9_atOnce_62 hf (fun m4 H locs hf hW hS => ?_)
    refine lv_aload_n X.1.1 X.1.2.1 dX9_atOnce_63 rfl (lv_at hl 0 rfl) ?_
    refine e_getr X hW (C := RX9) (T := TX9) (N := 35) (j := 24) rfl (by decide) inX9 (by decide) (by decide) rfl (t := 107) rfl rfl mw_3_193 dX9_atOnce_64 ?_
    refine lv_iload_n X.1.1 X.1.2.1 dX9_atOnce_67 rfl (lv_at hl 1 rfl) ?_
    refine lv_iconst (v := 0) X.1.1 X.1.2.1 dX9_atOnce_68 (by decide) ?_
    refine e_ist X hW hS (by decide) rfl dX9_atOnce_69 hf (fun m5 H locs hf hW hS => ?_)
    refine lv_aload_n X.1.1 X.1.2.1 dX9_atOnce_70 rfl (lv_at hl 0 rfl) ?_
    refine e_vi (rest := []) (As := []) X hl.1 hW hS (C := RX9) (T := TX9) (N := 35) rfl (by decide) (ctfX9_joined X.2.2.2.2 F m5) (cwV (rm := rmX9_joined) 0 X.1.2.2.2.2 (gd_V mw_4_194 mw_4_196 mw_0_29 mw_1_11 mw_4_197) rfl rfl rfl (by decide +kernel) ⟨Nat.le_of_ble_eq_true rfl, Nat.le_of_ble_eq_true rfl⟩) rfl rfl (Nat.le_of_ble_eq_true rfl) dX9_atOnce_71 ⟨Nat.zero_le _, Nat.zero_le _⟩ hf (fun r7 m6 H locs hf hW hS => ?_)
    refine lv_istore_n (lv' := [(2, .int r7), (0, .ref (E.1 89)), (1, .int y1)]) X.1.1 X.1.2.1 dX9_atOnce_74 rfl hl (by decide) rfl (fun ls hl => ?_)
    refine lv_aload_n X.1.1 X.1.2.1 dX9_atOnce_75 rfl (lv_at hl 1 rfl) ?_
    refine lv_aload_n X.1.1 X.1.2.1 dX9_atOnce_76 rfl (lv_at hl 1 rfl) ?_
    refine e_getr X hW (C := RX9) (T := TX9) (N := 35) (j := 27) rfl (by decide) inX9 (by decide) (by decide) rfl (t := 110) rfl rfl mw_3_196 dX9_atOnce_77 ?_
    refine lv_iload_n X.1.1 X.1.2.1 dX9_atOnce_80 rfl (lv_at hl 2 rfl) ?_
    refine e_ild X hW (by decide) rfl dX9_atOnce_81 hf (fun v8 hf => ?_)
    refine e_vv (rest := []) (As := [.int v8]) X hl.1 hW hS (C := RX9) (T := TX9) (N := 35) rfl (by decide) (ctfX9_roundFrom X.2.2.2.2 F v8 m6) (cwV (rm := rmX9_roundFrom) 1 X.1.2.2.2.2 (gd_V mw_4_226 mw_4_228 mw_0_37 mw_1_11 mw_4_229) rfl rfl rfl (by decide +kernel) ⟨Nat.le_of_ble_eq_true rfl, Nat.le_of_ble_eq_true rfl⟩) rfl rfl (Nat.le_of_ble_eq_true rfl) dX9_atOnce_82 ⟨Nat.zero_le _, Nat.zero_le _⟩ hf (fun m9 H locs hf hW hS => ?_)
    refine lv_aload_n X.1.1 X.1.2.1 dX9_atOnce_85 rfl (lv_at hl 1 rfl) ?_
    refine e_vi (rest := []) (As := []) X hl.1 hW hS (C := RX9) (T := TX9) (N := 35) rfl (by decide) (ctfX9_allBake X.2.2.2.2 F m9) (cwV (rm := rmX9_allBake) 0 X.1.2.2.2.2 (gd_V mw_4_174 mw_4_176 mw_0_26 mw_1_11 mw_4_177) rfl rfl rfl (by decide +kernel) ⟨Nat.le_of_ble_eq_true rfl, Nat.le_of_ble_eq_true rfl⟩) rfl rfl (Nat.le_of_ble_eq_true rfl) dX9_atOnce_86 ⟨Nat.zero_le _, Nat.zero_le _⟩ hf (fun r11 m10 H locs hf hW hS => ?_)
    refine lv_iload_n X.1.1 X.1.2.1 dX9_atOnce_89 rfl (lv_at hl 0 rfl) ?_
    refine lv_iadd X.1.1 X.1.2.1 dX9_atOnce_90 ?_
    exact e_iret X hW hS hf dX9_atOnce_91
  · rw [if_neg c23] at hf
    refine lv_aload_n X.1.1 X.1.2.1 dX9_atOnce_26 rfl (lv_at hl 0 rfl) ?_
    refine e_getr X hW (C := RX9) (T := TX9) (N := 35) (j := 23) rfl (by decide) inX9 (by decide) (by decide) rfl (t := 106) rfl rfl mw_3_192 dX9_atOnce_27 ?_
    refine lv_iload_n X.1.1 X.1.2.1 dX9_atOnce_30 rfl (lv_at hl 2 rfl) ?_
    refine lv_aload_n X.1.1 X.1.2.1 dX9_atOnce_31 rfl (lv_at hl 0 rfl) ?_
    refine e_getr X hW (C := RX9) (T := TX9) (N := 35) (j := 6) rfl (by decide) inX9 (by decide) (by decide) rfl (t := 95) rfl rfl mw_3_175 dX9_atOnce_32 ?_
    refine lv_iload_n X.1.1 X.1.2.1 dX9_atOnce_35 rfl (lv_at hl 2 rfl) ?_
    refine e_ild X hW (by decide) rfl dX9_atOnce_36 hf (fun v12 hf => ?_)
    refine e_ist X hW hS (by decide) rfl dX9_atOnce_37 hf (fun m13 H locs hf hW hS => ?_)
    refine lv_aload_n X.1.1 X.1.2.1 dX9_atOnce_38 rfl (lv_at hl 0 rfl) ?_
    refine e_getr X hW (C := RX9) (T := TX9) (N := 35) (j := 24) rfl (by decide) inX9 (by decide) (by decide) rfl (t := 107) rfl rfl mw_3_193 dX9_atOnce_39 ?_
    refine lv_iload_n X.1.1 X.1.2.1 dX9_atOnce_42 rfl (lv_at hl 2 rfl) ?_
    refine lv_aload_n X.1.1 X.1.2.1 dX9_atOnce_43 rfl (lv_at hl 0 rfl) ?_
    refine e_getr X hW (C := RX9) (T := TX9) (N := 35) (j := 7) rfl (by decide) inX9 (by decide) (by decide) rfl (t := 96) rfl rfl mw_3_176 dX9_atOnce_44 ?_
    refine lv_iload_n X.1.1 X.1.2.1 dX9_atOnce_47 rfl (lv_at hl 2 rfl) ?_
    refine e_ild X hW (by decide) rfl dX9_atOnce_48 hf (fun v14 hf => ?_)
    refine e_ist X hW hS (by decide) rfl dX9_atOnce_49 hf (fun m15 H locs hf hW hS => ?_)
    refine lv_iinc (v := (y2 + 1)) (lv' := [(2, .int (y2 + 1)), (0, .ref (E.1 89)), (1, .int y1)]) X.1.1 X.1.2.1 dX9_atOnce_50 hl (k := 2) rfl rfl (by decide) rfl (fun ls hl => ?_)
    refine lv_goto (tgt := 21) X.1.1 X.1.2.1 dX9_atOnce_53 (by decide) ?_
    exact hrec21 y1 (y2 + 1) m15 H locs ls hf hW hS (lv_sub hl [1, 2, 0] rfl)
theorem wfX9_atOnce_21 {p : Program} {l : Launch} {e : Env} {s : State} {m : MethodId} {args : Array Value} {below : List Frame} {meth : Method} {c : Code} {E : Gv} {F : Nat}  {r : Int32} {u : Mem} (X : Fx p m c cX9_atOnce 3 s args (Cond.code yX9_atOnce cX9_atOnce 3 (some .int)) "OvenHouseModel" meth (some .int) E)  (n : Nat) : ∀ (y1 : Int32) (y2 : Int32) (μ : Mem) (H : Heap) (locs : List Loc) (ls : Array Slot) (_ : fX9_atOnce_21 F   n y1 y2 μ = some (r, u)) (_ : Wo E μ H) (_ : va_S (AE E) s.heap H locs) (_ : lv_has ls 3 [(0, .ref (E.1 89)), (1, .int y1), (2, .int y2)]), W0 p l e rmX9_atOnce s m args below meth c H locs (QcI E r u) E (F0 m 21 ls []) := by
  induction n with
  | zero => intro y1 y2 μ H locs ls hf hW hS hl; cases hf
  | succ n ih => intro y1 y2 μ H locs ls hf hW hS hl; exact wfX9_atOnce_21_b X  _ ih y1 y2 μ H locs ls hf hW hS hl
set_option maxRecDepth 100000 in
set_option maxHeartbeats 4000000 in
theorem ctfX9_atOnce {l : Launch} {E : Gv} (hD : Do E) (F : Nat)  (μ : Mem) : CtI l yX9_atOnce ((Cond.code yX9_atOnce cX9_atOnce 3 (some .int)) :: GG) rmX9_atOnce E [.ref (E.1 89)] μ (fX9_atOnce F μ) := by
  intro r u hf
  refine of_entry (cc := cX9_atOnce) (maxL := 3) (ret := (some .int)) (by decide +kernel) rfl hD (Nat.le_of_ble_eq_true rfl) (fun p e s m args below meth c X H locs hW hS ls hl => ?_)
  have hl : lv_has ls 3 [(0, .ref (E.1 89))] := hl
  unfold fX9_atOnce at hf
  refine lv_aload_n X.1.1 X.1.2.1 dX9_atOnce_0 rfl (lv_at hl 0 rfl) ?_
  refine e_getr X hW (C := RX9) (T := TX9) (N := 35) (j := 5) rfl (by decide) inX9 (by decide) (by decide) rfl (t := 94) rfl rfl mw_3_174 dX9_atOnce_1 ?_
  refine lv_iconst (v := 0) X.1.1 X.1.2.1 dX9_atOnce_4 (by decide) ?_
  refine e_ild X hW (by decide) rfl dX9_atOnce_5 hf (fun v1 hf => ?_)
  refine lv_istore_n (lv' := [(1, .int v1), (0, .ref (E.1 89))]) X.1.1 X.1.2.1 dX9_atOnce_6 rfl hl (by decide) rfl (fun ls hl => ?_)
  refine lv_aload_n X.1.1 X.1.2.1 dX9_atOnce_7 rfl (lv_at hl 1 rfl) ?_
  refine lv_iload_n X.1.1 X.1.2.1 dX9_atOnce_8 rfl (lv_at hl 0 rfl) ?_
  refine lv_iconst (v := 1) X.1.1 X.1.2.1 dX9_atOnce_9 (by decide) ?_
  refine lv_iadd X.1.1 X.1.2.1 dX9_atOnce_10 ?_
  refine e_put X hW hS (C := RX9) (T := TX9) (N := 35) (j := 21) (tyF := tyX9) rfl (by decide) inX9 tyX9_ok nmX9 (by decide) (by decide) rfl rfl mw_3_190 rfl rfl rfl dX9_atOnce_11 hf (fun m2 H locs hf hW hS => ?_)
  refine lv_aload_n X.1.1 X.1.2.1 dX9_atOnce_14 rfl (lv_at hl 1 rfl) ?_
  refine lv_iconst (v := 0) X.1.1 X.1.2.1 dX9_atOnce_15 (by decide) ?_
  refine e_put X hW hS (C := RX9) (T := TX9) (N := 35) (j := 22) (tyF := tyX9) rfl (by decide) inX9 tyX9_ok nmX9 (by decide) (by decide) rfl rfl mw_3_191 rfl rfl rfl dX9_atOnce_16 hf (fun m3 H locs hf hW hS => ?_)
  refine lv_iconst (v := 0) X.1.1 X.1.2.1 dX9_atOnce_19 (by decide) ?_
  refine lv_istore_n (lv' := [(2, .int 0), (1, .int v1), (0, .ref (E.1 89))]) X.1.1 X.1.2.1 dX9_atOnce_20 rfl hl (by decide) rfl (fun ls hl => ?_)
  exact wfX9_atOnce_21 X  F v1 0 m3 H locs ls hf hW hS (lv_sub hl [2, 1, 0] rfl)
-- OvenHouseModel.least
def rmX9_least : Room := { frames := 5, cells := 0, slots := 0, locals := 117 }
set_option maxRecDepth 100000 in
set_option maxHeartbeats 4000000 in
theorem wfX9_least_89_b {p : Program} {l : Launch} {e : Env} {s : State} {m : MethodId} {args : Array Value} {below : List Frame} {meth : Method} {c : Code} {E : Gv} {F : Nat}  {r : Int32} {u : Mem} (X : Fx p m c cX9_least 5 s args (Cond.code yX9_least cX9_least 5 (some .int)) "OvenHouseModel" meth (some .int) E)  (rec89 : Int32 → Int32 → Int32 → Mem → Option (Int32 × Mem)) (hrec89 : ∀ (y1 : Int32) (y2 : Int32) (y3 : Int32) (μ : Mem) (H : Heap) (locs : List Loc) (ls : Array Slot), rec89 y1 y2 y3 μ = some (r, u) → Wo E μ H → va_S (AE E) s.heap H locs → lv_has ls 5 [(0, .ref (E.1 89)), (1, .int y1), (2, .int y2), (3, .int y3)] → W0 p l e rmX9_least s m args below meth c H locs (QcI E r u) E (F0 m 89 ls [])) (y1 : Int32) (y2 : Int32) (y3 : Int32) (μ : Mem) (H : Heap) (locs : List Loc) (ls : Array Slot) (hf : fX9_least_89_b F  rec89 y1 y2 y3 μ = some (r, u)) (hW : Wo E μ H) (hS : va_S (AE E) s.heap H locs) (hl : lv_has ls 5 [(0, .ref (E.1 89)), (1, .int y1), (2, .int y2), (3, .int y3)]) : W0 p l e rmX9_least s m args below meth c H locs (QcI E r u) E (F0 m 89 ls []) := by
  unfold fX9_least_89_b at hf
  refine lv_aload_n X.1.1 X.1.2.1 dX9_least_89 rfl (lv_at hl 0 rfl) ?_
  refine e_vi (rest := []) (As := []) X hl.1 hW hS (C := RX9) (T := TX9) (N := 35) rfl (by decide) (ctfX9_nextRow X.2.2.2.2 F μ) (cwV (rm := rmX9_nextRow) 0 X.1.2.2.2.2 (gd_V mw_4_238 mw_5_0 mw_0_40 mw_1_11 mw_5_1) rfl rfl rfl (by decide +kernel) ⟨Nat.le_of_ble_eq_true rfl, Nat.le_of_ble_eq_true rfl⟩) rfl rfl (Nat.le_of_ble_eq_true rfl) dX9_least_90 ⟨Nat.zero_le _, Nat.zero_le _⟩ hf (fun r15 m14 H locs hf hW hS => ?_)
  refine lv_if_eq (tgt := 128) X.1.1 X.1.2.1 dX9_least_93 (by decide) (fun c93 => ?_) (fun c93 => ?_)
  · rw [if_pos c93] at hf
    refine lv_iload_n X.1.1 X.1.2.1 dX9_least_128 rfl (lv_at hl 3 rfl) ?_
    exact e_iret X hW hS hf dX9_least_129
  · rw [if_neg c93] at hf
    refine lv_aload_n X.1.1 X.1.2.1 dX9_least_96 rfl (lv_at hl 0 rfl) ?_
    refine lv_aload_n X.1.1 X.1.2.1 dX9_least_97 rfl (lv_at hl 0 rfl) ?_
    refine e_getr X hW (C := RX9) (T := TX9) (N := 35) (j := 20) rfl (by decide) inX9 (by decide) (by decide) rfl (t := 105) rfl rfl mw_3_189 dX9_least_98 ?_
    refine lv_iload_n X.1.1 X.1.2.1 dX9_least_101 rfl (lv_at hl 1 rfl) ?_
    refine lv_iload_n X.1.1 X.1.2.1 dX9_least_102 rfl (lv_at hl 2 rfl) ?_
    refine e_vi (rest := []) (As := [.ref (E.1 105), .int y1, .int y2]) X hl.1 hW hS (C := RX9) (T := TX9) (N := 35) rfl (by decide) (ctfX9_endOf X.2.2.2.2 F 105 y1 y2 ⟨(by decide), rfl⟩ m14) (cwV (rm := rmX9_endOf) 3 X.1.2.2.2.2 (gd_V mw_4_146 mw_4_148 mw_0_25 mw_1_11 mw_4_149) rfl rfl rfl (by decide +kernel) ⟨Nat.le_of_ble_eq_true rfl, Nat.le_of_ble_eq_true rfl⟩) rfl rfl (Nat.le_of_ble_eq_true rfl) dX9_least_103 ⟨Nat.zero_le _, Nat.zero_le _⟩ hf (fun r17 m16 H locs hf hW hS => ?_)
    refine lv_istore (lv' := [(4, .int r17), (0, .ref (E.1 89)), (1, .int y1), (2, .int y2), (3, .int y3)]) X.1.1 X.1.2.1 dX9_least_106 hl (by decide) rfl (fun ls hl => ?_)
    refine lv_iload X.1.1 X.1.2.1 dX9_least_108 (lv_at hl 0 rfl) ?_
    refine lv_iload_n X.1.1 X.1.2.1 dX9_least_110 rfl (lv_at hl 4 rfl) ?_
    refine lv_icmp_ge (tgt := 125) X.1.1 X.1.2.1 dX9_least_111 (by decide) (fun c111 => ?_) (fun c111 => ?_)
    · rw [if_pos c111] at hf
      refine lv_goto (tgt := 89) X.1.1 X.1.2.1 dX9_least_125 (by decide) ?_
      exact hrec89 y1 y2 y3 m16 H locs ls hf hW hS (lv_sub hl [1, 2, 3, 4] rfl)
    · rw [if_neg c111] at hf
      refine lv_iload X.1.1 X.1.2.1 dX9_least_114 (lv_at hl 0 rfl) ?_
      refine lv_istore_n (lv' := [(3, .int r17), (4, .int r17), (0, .ref (E.1 89)), (1, .int y1), (2, .int y2)]) X.1.1 X.1.2.1 dX9_least_116 rfl hl (by decide) rfl (fun ls hl => ?_)
      refine lv_aload_n X.1.1 X.1.2.1 dX9_least_117 rfl (lv_at hl 2 rfl) ?_
      refine lv_aload_n X.1.1 X.1.2.1 dX9_least_118 rfl (lv_at hl 2 rfl) ?_
      refine e_getr X hW (C := RX9) (T := TX9) (N := 35) (j := 20) rfl (by decide) inX9 (by decide) (by decide) rfl (t := 105) rfl rfl mw_3_189 dX9_least_119 ?_
      refine e_vv (rest := []) (As := [.ref (E.1 105)]) X hl.1 hW hS (C := RX9) (T := TX9) (N := 35) rfl (by decide) (ctfX9_finds X.2.2.2.2 F 105 ⟨(by decide), rfl⟩ m16) (cwV (rm := rmX9_finds) 1 X.1.2.2.2.2 (gd_V mw_4_230 mw_4_232 mw_0_38 mw_1_11 mw_4_233) rfl rfl rfl (by decide +kernel) ⟨Nat.le_of_ble_eq_true rfl, Nat.le_of_ble_eq_true rfl⟩) rfl rfl (Nat.le_of_ble_eq_true rfl) dX9_least_122 ⟨Nat.zero_le _, Nat.zero_le _⟩ hf (fun m18 H locs hf hW hS => ?_)
      refine lv_goto (tgt := 89) X.1.1 X.1.2.1 dX9_least_125 (by decide) ?_
      exact hrec89 y1 y2 r17 m18 H locs ls hf hW hS (lv_sub hl [2, 3, 4, 0] rfl)
theorem wfX9_least_89 {p : Program} {l : Launch} {e : Env} {s : State} {m : MethodId} {args : Array Value} {below : List Frame} {meth : Method} {c : Code} {E : Gv} {F : Nat}  {r : Int32} {u : Mem} (X : Fx p m c cX9_least 5 s args (Cond.code yX9_least cX9_least 5 (some .int)) "OvenHouseModel" meth (some .int) E)  (n : Nat) : ∀ (y1 : Int32) (y2 : Int32) (y3 : Int32) (μ : Mem) (H : Heap) (locs : List Loc) (ls : Array Slot) (_ : fX9_least_89 F   n y1 y2 y3 μ = some (r, u)) (_ : Wo E μ H) (_ : va_S (AE E) s.heap H locs) (_ : lv_has ls 5 [(0, .ref (E.1 89)), (1, .int y1), (2, .int y2), (3, .int y3)]), W0 p l e rmX9_least s m args below meth c H locs (QcI E r u) E (F0 m 89 ls []) := by
  induction n with
  | zero => intro y1 y2 y3 μ H locs ls hf hW hS hl; cases hf
  | succ n ih => intro y1 y2 y3 μ H locs ls hf hW hS hl; exact wfX9_least_89_b X  _ ih y1 y2 y3 μ H locs ls hf hW hS hl
set_option maxRecDepth 100000 in
set_option maxHeartbeats 4000000 in
theorem ctfX9_least {l : Launch} {E : Gv} (hD : Do E) (F : Nat) (x1 : Int32) (x2 : Int32)  (μ : Mem) : CtI l yX9_least ((Cond.code yX9_least cX9_least 5 (some .int)) :: GG) rmX9_least E [.ref (E.1 89), .int x1, .int x2] μ (fX9_least F x1 x2 μ) := by
  intro r u hf
  refine of_entry (cc := cX9_least) (maxL := 5) (ret := (some .int)) (by decide +kernel) rfl hD (Nat.le_of_ble_eq_true rfl) (fun p e s m args below meth c X H locs hW hS ls hl => ?_)
  have hl : lv_has ls 5 [(0, .ref (E.1 89)), (1, .int x1), (2, .int x2)] := hl
  unfold fX9_least at hf
  refine lv_iload_n X.1.1 X.1.2.1 dX9_least_0 rfl (lv_at hl 1 rfl) ?_
  refine lv_iload_n X.1.1 X.1.2.1 dX9_least_1 rfl (lv_at hl 2 rfl) ?_
  refine e_si (rest := []) (As := [.int x1, .int x2]) X hl.1 hW hS (ctfX9_isLaw X.2.2.2.2 F x1 x2 μ) (cwS (rm := rmX9_isLaw) 2 X.1.2.2.2.2 (gd_S mw_4_162 mw_4_163 mw_1_11 mw_4_164) rfl rfl rfl (by decide +kernel) ⟨Nat.le_of_ble_eq_true rfl, Nat.le_of_ble_eq_true rfl⟩) rfl rfl (Nat.le_of_ble_eq_true rfl) dX9_least_2 ⟨Nat.zero_le _, Nat.zero_le _⟩ hf (fun r2 m1 H locs hf hW hS => ?_)
  refine lv_if_ne (tgt := 11) X.1.1 X.1.2.1 dX9_least_5 (by decide) (fun c5 => ?_) (fun c5 => ?_)
  · rw [if_neg c5] at hf
    refine lv_iload_n X.1.1 X.1.2.1 dX9_least_11 rfl (lv_at hl 1 rfl) ?_
    refine lv_if_ne (tgt := 20) X.1.1 X.1.2.1 dX9_least_12 (by decide) (fun c12 => ?_) (fun c12 => ?_)
    · rw [if_neg c12] at hf
      refine lv_iload_n X.1.1 X.1.2.1 dX9_least_20 rfl (lv_at hl 1 rfl) ?_
      refine lv_iconst (v := 1) X.1.1 X.1.2.1 dX9_least_21 (by decide) ?_
      refine lv_icmp_ne (tgt := 52) X.1.1 X.1.2.1 dX9_least_22 (by decide) (fun c22 => ?_) (fun c22 => ?_)
      · rw [if_neg c22] at hf
        refine lv_aload_n X.1.1 X.1.2.1 dX9_least_52 rfl (lv_at hl 0 rfl) ?_
        refine e_getr X hW (C := RX9) (T := TX9) (N := 35) (j := 5) rfl (by decide) inX9 (by decide) (by decide) rfl (t := 94) rfl rfl mw_3_174 dX9_least_53 ?_
        refine lv_iconst (v := 0) X.1.1 X.1.2.1 dX9_least_56 (by decide) ?_
        refine e_ild X hW (by decide) rfl dX9_least_57 hf (fun v3 hf => ?_)
        refine lv_bipush (v := 7) X.1.1 X.1.2.1 dX9_least_58 (by decide) ?_
        refine lv_icmp_le (tgt := 66) X.1.1 X.1.2.1 dX9_least_60 (by decide) (fun c60 => ?_) (fun c60 => ?_)
        · rw [if_pos c60] at hf
          refine lv_aload_n X.1.1 X.1.2.1 dX9_least_66 rfl (lv_at hl 0 rfl) ?_
          refine e_vv (rest := []) (As := []) X hl.1 hW hS (C := RX9) (T := TX9) (N := 35) rfl (by decide) (ctfX9_firstRow X.2.2.2.2 F m1) (cwV (rm := rmX9_firstRow) 0 X.1.2.2.2.2 (gd_V mw_4_234 mw_4_236 mw_0_39 mw_1_11 mw_4_237) rfl rfl rfl (by decide +kernel) ⟨Nat.le_of_ble_eq_true rfl, Nat.le_of_ble_eq_true rfl⟩) rfl rfl (Nat.le_of_ble_eq_true rfl) dX9_least_67 ⟨Nat.zero_le _, Nat.zero_le _⟩ hf (fun m4 H locs hf hW hS => ?_)
          refine lv_aload_n X.1.1 X.1.2.1 dX9_least_70 rfl (lv_at hl 0 rfl) ?_
          refine lv_aload_n X.1.1 X.1.2.1 dX9_least_71 rfl (lv_at hl 0 rfl) ?_
          refine e_getr X hW (C := RX9) (T := TX9) (N := 35) (j := 20) rfl (by decide) inX9 (by decide) (by decide) rfl (t := 105) rfl rfl mw_3_189 dX9_least_72 ?_
          refine lv_iload_n X.1.1 X.1.2.1 dX9_least_75 rfl (lv_at hl 1 rfl) ?_
          refine lv_iload_n X.1.1 X.1.2.1 dX9_least_76 rfl (lv_at hl 2 rfl) ?_
          refine e_vi (rest := []) (As := [.ref (E.1 105), .int x1, .int x2]) X hl.1 hW hS (C := RX9) (T := TX9) (N := 35) rfl (by decide) (ctfX9_endOf X.2.2.2.2 F 105 x1 x2 ⟨(by decide), rfl⟩ m4) (cwV (rm := rmX9_endOf) 3 X.1.2.2.2.2 (gd_V mw_4_146 mw_4_148 mw_0_25 mw_1_11 mw_4_149) rfl rfl rfl (by decide +kernel) ⟨Nat.le_of_ble_eq_true rfl, Nat.le_of_ble_eq_true rfl⟩) rfl rfl (Nat.le_of_ble_eq_true rfl) dX9_least_77 ⟨Nat.zero_le _, Nat.zero_le _⟩ hf (fun r6 m5 H locs hf hW hS => ?_)
          refine lv_istore_n (lv' := [(3, .int r6), (0, .ref (E.1 89)), (1, .int x1), (2, .int x2)]) X.1.1 X.1.2.1 dX9_least_80 rfl hl (by decide) rfl (fun ls hl => ?_)
          refine lv_aload_n X.1.1 X.1.2.1 dX9_least_81 rfl (lv_at hl 1 rfl) ?_
          refine lv_aload_n X.1.1 X.1.2.1 dX9_least_82 rfl (lv_at hl 1 rfl) ?_
          refine e_getr X hW (C := RX9) (T := TX9) (N := 35) (j := 20) rfl (by decide) inX9 (by decide) (by decide) rfl (t := 105) rfl rfl mw_3_189 dX9_least_83 ?_
          refine e_vv (rest := []) (As := [.ref (E.1 105)]) X hl.1 hW hS (C := RX9) (T := TX9) (N := 35) rfl (by decide) (ctfX9_finds X.2.2.2.2 F 105 ⟨(by decide), rfl⟩ m5) (cwV (rm := rmX9_finds) 1 X.1.2.2.2.2 (gd_V mw_4_230 mw_4_232 mw_0_38 mw_1_11 mw_4_233) rfl rfl rfl (by decide +kernel) ⟨Nat.le_of_ble_eq_true rfl, Nat.le_of_ble_eq_true rfl⟩) rfl rfl (Nat.le_of_ble_eq_true rfl) dX9_least_86 ⟨Nat.zero_le _, Nat.zero_le _⟩ hf (fun m7 H locs hf hW hS => ?_)
          exact wfX9_least_89 X  F x1 x2 r6 m7 H locs ls hf hW hS (lv_sub hl [1, 2, 3, 0] rfl)
        · rw [if_neg c60] at hf
          refine lv_bipush (v := (-4)) X.1.1 X.1.2.1 dX9_least_63 (by decide) ?_
          exact e_iret X hW hS hf dX9_least_65
      · rw [if_pos c22] at hf
        refine lv_aload_n X.1.1 X.1.2.1 dX9_least_25 rfl (lv_at hl 0 rfl) ?_
        refine lv_aload_n X.1.1 X.1.2.1 dX9_least_26 rfl (lv_at hl 0 rfl) ?_
        refine e_getr X hW (C := RX9) (T := TX9) (N := 35) (j := 20) rfl (by decide) inX9 (by decide) (by decide) rfl (t := 105) rfl rfl mw_3_189 dX9_least_27 ?_
        refine e_vv (rest := []) (As := [.ref (E.1 105)]) X hl.1 hW hS (C := RX9) (T := TX9) (N := 35) rfl (by decide) (ctfX9_byRule X.2.2.2.2 F 105 ⟨(by decide), rfl⟩ m1) (cwV (rm := rmX9_byRule) 1 X.1.2.2.2.2 (gd_V mw_4_138 mw_4_140 mw_0_23 mw_1_11 mw_4_141) rfl rfl rfl (by decide +kernel) ⟨Nat.le_of_ble_eq_true rfl, Nat.le_of_ble_eq_true rfl⟩) rfl rfl (Nat.le_of_ble_eq_true rfl) dX9_least_30 ⟨Nat.zero_le _, Nat.zero_le _⟩ hf (fun m8 H locs hf hW hS => ?_)
        refine lv_aload_n X.1.1 X.1.2.1 dX9_least_33 rfl (lv_at hl 0 rfl) ?_
        refine lv_aload_n X.1.1 X.1.2.1 dX9_least_34 rfl (lv_at hl 0 rfl) ?_
        refine e_getr X hW (C := RX9) (T := TX9) (N := 35) (j := 20) rfl (by decide) inX9 (by decide) (by decide) rfl (t := 105) rfl rfl mw_3_189 dX9_least_35 ?_
        refine e_vv (rest := []) (As := [.ref (E.1 105)]) X hl.1 hW hS (C := RX9) (T := TX9) (N := 35) rfl (by decide) (ctfX9_finds X.2.2.2.2 F 105 ⟨(by decide), rfl⟩ m8) (cwV (rm := rmX9_finds) 1 X.1.2.2.2.2 (gd_V mw_4_230 mw_4_232 mw_0_38 mw_1_11 mw_4_233) rfl rfl rfl (by decide +kernel) ⟨Nat.le_of_ble_eq_true rfl, Nat.le_of_ble_eq_true rfl⟩) rfl rfl (Nat.le_of_ble_eq_true rfl) dX9_least_38 ⟨Nat.zero_le _, Nat.zero_le _⟩ hf (fun m9 H locs hf hW hS => ?_)
        refine lv_aload_n X.1.1 X.1.2.1 dX9_least_41 rfl (lv_at hl 0 rfl) ?_
        refine lv_aload_n X.1.1 X.1.2.1 dX9_least_42 rfl (lv_at hl 0 rfl) ?_
        refine e_getr X hW (C := RX9) (T := TX9) (N := 35) (j := 20) rfl (by decide) inX9 (by decide) (by decide) rfl (t := 105) rfl rfl mw_3_189 dX9_least_43 ?_
        refine lv_iconst (v := 1) X.1.1 X.1.2.1 dX9_least_46 (by decide) ?_
        refine lv_iconst (v := 0) X.1.1 X.1.2.1 dX9_least_47 (by decide) ?_
        refine e_vi (rest := []) (As := [.ref (E.1 105), .int 1, .int 0]) X hl.1 hW hS (C := RX9) (T := TX9) (N := 35) rfl (by decide) (ctfX9_endOf X.2.2.2.2 F 105 1 0 ⟨(by decide), rfl⟩ m9) (cwV (rm := rmX9_endOf) 3 X.1.2.2.2.2 (gd_V mw_4_146 mw_4_148 mw_0_25 mw_1_11 mw_4_149) rfl rfl rfl (by decide +kernel) ⟨Nat.le_of_ble_eq_true rfl, Nat.le_of_ble_eq_true rfl⟩) rfl rfl (Nat.le_of_ble_eq_true rfl) dX9_least_48 ⟨Nat.zero_le _, Nat.zero_le _⟩ hf (fun r11 m10 H locs hf hW hS => ?_)
        exact e_iret X hW hS hf dX9_least_51
    · rw [if_pos c12] at hf
      refine lv_aload_n X.1.1 X.1.2.1 dX9_least_15 rfl (lv_at hl 0 rfl) ?_
      refine e_vi (rest := []) (As := []) X hl.1 hW hS (C := RX9) (T := TX9) (N := 35) rfl (by decide) (ctfX9_atOnce X.2.2.2.2 F m1) (cwV (rm := rmX9_atOnce) 0 X.1.2.2.2.2 (gd_V mw_4_190 mw_4_192 mw_0_28 mw_1_11 mw_4_193) rfl rfl rfl (by decide +kernel) ⟨Nat.le_of_ble_eq_true rfl, Nat.le_of_ble_eq_true rfl⟩) rfl rfl (Nat.le_of_ble_eq_true rfl) dX9_least_16 ⟨Nat.zero_le _, Nat.zero_le _⟩ hf (fun r13 m12 H locs hf hW hS => ?_)
      exact e_iret X hW hS hf dX9_least_19
  · rw [if_pos c5] at hf
    refine lv_bipush (v := (-2)) X.1.1 X.1.2.1 dX9_least_8 (by decide) ?_
    exact e_iret X hW hS hf dX9_least_10
-- OvenHouseModel.isOrder
def rmX9_isOrder : Room := { frames := 0, cells := 0, slots := 0, locals := 0 }
set_option maxRecDepth 100000 in
set_option maxHeartbeats 4000000 in
theorem wfX9_isOrder_4_b {p : Program} {l : Launch} {e : Env} {s : State} {m : MethodId} {args : Array Value} {below : List Frame} {meth : Method} {c : Code} {E : Gv} {F : Nat}  {r : Int32} {u : Mem} (X : Fx p m c cX9_isOrder 3 s args (Cond.code yX9_isOrder cX9_isOrder 3 (some .boolean)) "OvenHouseModel" meth (some .boolean) E)  (rec4 : Int32 → Int32 → Mem → Option (Int32 × Mem)) (hrec4 : ∀ (y1 : Int32) (y2 : Int32) (μ : Mem) (H : Heap) (locs : List Loc) (ls : Array Slot), rec4 y1 y2 μ = some (r, u) → Wo E μ H → va_S (AE E) s.heap H locs → lv_has ls 3 [(0, .ref (E.1 89)), (1, .int y1), (2, .int y2)] → W0 p l e rmX9_isOrder s m args below meth c H locs (QcI E r u) E (F0 m 4 ls [])) (y1 : Int32) (y2 : Int32) (μ : Mem) (H : Heap) (locs : List Loc) (ls : Array Slot) (hf : fX9_isOrder_4_b F  rec4 y1 y2 μ = some (r, u)) (hW : Wo E μ H) (hS : va_S (AE E) s.heap H locs) (hl : lv_has ls 3 [(0, .ref (E.1 89)), (1, .int y1), (2, .int y2)]) : W0 p l e rmX9_isOrder s m args below meth c H locs (QcI E r u) E (F0 m 4 ls []) := by
  unfold fX9_isOrder_4_b at hf
  refine lv_iload_n X.1.1 X.1.2.1 dX9_isOrder_4 rfl (lv_at hl 2 rfl) ?_
  refine lv_aload_n X.1.1 X.1.2.1 dX9_isOrder_5 rfl (lv_at hl 0 rfl) ?_
  refine e_getr X hW (C := RX9) (T := TX9) (N := 35) (j := 5) rfl (by decide) inX9 (by decide) (by decide) rfl (t := 94) rfl rfl mw_3_174 dX9_isOrder_6 ?_
  refine lv_iconst (v := 0) X.1.1 X.1.2.1 dX9_isOrder_9 (by decide) ?_
  refine e_ild X hW (by decide) rfl dX9_isOrder_10 hf (fun v1 hf => ?_)
  refine lv_icmp_ge (tgt := 45) X.1.1 X.1.2.1 dX9_isOrder_11 (by decide) (fun c11 => ?_) (fun c11 => ?_)
  · rw [if_pos c11] at hf
    refine lv_iload_n X.1.1 X.1.2.1 dX9_isOrder_45 rfl (lv_at hl 1 rfl) ?_
    exact e_zret X hW hS hf dX9_isOrder_46
  · rw [if_neg c11] at hf
    refine lv_iload_n X.1.1 X.1.2.1 dX9_isOrder_14 rfl (lv_at hl 1 rfl) ?_
    refine lv_if_eq (tgt := 37) X.1.1 X.1.2.1 dX9_isOrder_15 (by decide) (fun c15 => ?_) (fun c15 => ?_)
    · rw [if_pos c15] at hf
      refine lv_iconst (v := 0) X.1.1 X.1.2.1 dX9_isOrder_37 (by decide) ?_
      refine lv_istore_n (lv' := [(1, .int 0), (0, .ref (E.1 89)), (2, .int y2)]) X.1.1 X.1.2.1 dX9_isOrder_38 rfl hl (by decide) rfl (fun ls hl => ?_)
      refine lv_iinc (v := (y2 + 1)) (lv' := [(2, .int (y2 + 1)), (1, .int 0), (0, .ref (E.1 89))]) X.1.1 X.1.2.1 dX9_isOrder_39 hl (k := 2) rfl rfl (by decide) rfl (fun ls hl => ?_)
      refine lv_goto (tgt := 4) X.1.1 X.1.2.1 dX9_isOrder_42 (by decide) ?_
      exact hrec4 0 (y2 + 1) μ H locs ls hf hW hS (lv_sub hl [2, 1, 0] rfl)
    · rw [if_neg c15] at hf
      refine lv_aload_n X.1.1 X.1.2.1 dX9_isOrder_18 rfl (lv_at hl 0 rfl) ?_
      refine e_getr X hW (C := RX9) (T := TX9) (N := 35) (j := 20) rfl (by decide) inX9 (by decide) (by decide) rfl (t := 105) rfl rfl mw_3_189 dX9_isOrder_19 ?_
      refine lv_iload_n X.1.1 X.1.2.1 dX9_isOrder_22 rfl (lv_at hl 2 rfl) ?_
      refine e_ild X hW (by decide) rfl dX9_isOrder_23 hf (fun v2 hf => ?_)
      refine lv_aload_n X.1.1 X.1.2.1 dX9_isOrder_24 rfl (lv_at hl 0 rfl) ?_
      refine e_getr X hW (C := RX9) (T := TX9) (N := 35) (j := 10) rfl (by decide) inX9 (by decide) (by decide) rfl (t := 99) rfl rfl mw_3_179 dX9_isOrder_25 ?_
      refine lv_iload_n X.1.1 X.1.2.1 dX9_isOrder_28 rfl (lv_at hl 2 rfl) ?_
      refine e_ild X hW (by decide) rfl dX9_isOrder_29 hf (fun v3 hf => ?_)
      refine lv_icmp_ne (tgt := 37) X.1.1 X.1.2.1 dX9_isOrder_30 (by decide) (fun c30 => ?_) (fun c30 => ?_)
      · rw [if_neg c30] at hf
        refine lv_iconst (v := 0) X.1.1 X.1.2.1 dX9_isOrder_37 (by decide) ?_
        refine lv_istore_n (lv' := [(1, .int 0), (0, .ref (E.1 89)), (2, .int y2)]) X.1.1 X.1.2.1 dX9_isOrder_38 rfl hl (by decide) rfl (fun ls hl => ?_)
        refine lv_iinc (v := (y2 + 1)) (lv' := [(2, .int (y2 + 1)), (1, .int 0), (0, .ref (E.1 89))]) X.1.1 X.1.2.1 dX9_isOrder_39 hl (k := 2) rfl rfl (by decide) rfl (fun ls hl => ?_)
        refine lv_goto (tgt := 4) X.1.1 X.1.2.1 dX9_isOrder_42 (by decide) ?_
        exact hrec4 0 (y2 + 1) μ H locs ls hf hW hS (lv_sub hl [2, 1, 0] rfl)
      · rw [if_pos c30] at hf
        refine lv_iconst (v := 1) X.1.1 X.1.2.1 dX9_isOrder_33 (by decide) ?_
        refine lv_goto (tgt := 38) X.1.1 X.1.2.1 dX9_isOrder_34 (by decide) ?_
        refine lv_istore_n (lv' := [(1, .int 1), (0, .ref (E.1 89)), (2, .int y2)]) X.1.1 X.1.2.1 dX9_isOrder_38 rfl hl (by decide) rfl (fun ls hl => ?_)
        refine lv_iinc (v := (y2 + 1)) (lv' := [(2, .int (y2 + 1)), (1, .int 1), (0, .ref (E.1 89))]) X.1.1 X.1.2.1 dX9_isOrder_39 hl (k := 2) rfl rfl (by decide) rfl (fun ls hl => ?_)
        refine lv_goto (tgt := 4) X.1.1 X.1.2.1 dX9_isOrder_42 (by decide) ?_
        exact hrec4 1 (y2 + 1) μ H locs ls hf hW hS (lv_sub hl [2, 1, 0] rfl)
theorem wfX9_isOrder_4 {p : Program} {l : Launch} {e : Env} {s : State} {m : MethodId} {args : Array Value} {below : List Frame} {meth : Method} {c : Code} {E : Gv} {F : Nat}  {r : Int32} {u : Mem} (X : Fx p m c cX9_isOrder 3 s args (Cond.code yX9_isOrder cX9_isOrder 3 (some .boolean)) "OvenHouseModel" meth (some .boolean) E)  (n : Nat) : ∀ (y1 : Int32) (y2 : Int32) (μ : Mem) (H : Heap) (locs : List Loc) (ls : Array Slot) (_ : fX9_isOrder_4 F   n y1 y2 μ = some (r, u)) (_ : Wo E μ H) (_ : va_S (AE E) s.heap H locs) (_ : lv_has ls 3 [(0, .ref (E.1 89)), (1, .int y1), (2, .int y2)]), W0 p l e rmX9_isOrder s m args below meth c H locs (QcI E r u) E (F0 m 4 ls []) := by
  induction n with
  | zero => intro y1 y2 μ H locs ls hf hW hS hl; cases hf
  | succ n ih => intro y1 y2 μ H locs ls hf hW hS hl; exact wfX9_isOrder_4_b X  _ ih y1 y2 μ H locs ls hf hW hS hl
set_option maxRecDepth 100000 in
set_option maxHeartbeats 4000000 in
theorem ctfX9_isOrder {l : Launch} {E : Gv} (hD : Do E) (F : Nat)  (μ : Mem) : CtI l yX9_isOrder ((Cond.code yX9_isOrder cX9_isOrder 3 (some .boolean)) :: GG) rmX9_isOrder E [.ref (E.1 89)] μ (fX9_isOrder F μ) := by
  intro r u hf
  refine of_entry (cc := cX9_isOrder) (maxL := 3) (ret := (some .boolean)) (by decide +kernel) rfl hD (Nat.le_of_ble_eq_true rfl) (fun p e s m args below meth c X H locs hW hS ls hl => ?_)
  have hl : lv_has ls 3 [(0, .ref (E.1 89))] := hl
  unfold fX9_isOrder at hf
  refine lv_iconst (v := 1) X.1.1 X.1.2.1 dX9_isOrder_0 (by decide) ?_
  refine lv_istore_n (lv' := [(1, .int 1), (0, .ref (E.1 89))]) X.1.1 X.1.2.1 dX9_isOrder_1 rfl hl (by decide) rfl (fun ls hl => ?_)
  refine lv_iconst (v := 0) X.1.1 X.1.2.1 dX9_isOrder_2 (by decide) ?_
  refine lv_istore_n (lv' := [(2, .int 0), (1, .int 1), (0, .ref (E.1 89))]) X.1.1 X.1.2.1 dX9_isOrder_3 rfl hl (by decide) rfl (fun ls hl => ?_)
  exact wfX9_isOrder_4 X  F 1 0 μ H locs ls hf hW hS (lv_sub hl [2, 1, 0] rfl)
-- OvenHouseModel.second
def rmX9_second : Room := { frames := 2, cells := 0, slots := 0, locals := 46 }
set_option maxRecDepth 100000 in
set_option maxHeartbeats 4000000 in
theorem wfX9_second_46_b {p : Program} {l : Launch} {e : Env} {s : State} {m : MethodId} {args : Array Value} {below : List Frame} {meth : Method} {c : Code} {E : Gv} {F : Nat}  {r : Int32} {u : Mem} (X : Fx p m c cX9_second 6 s args (Cond.code yX9_second cX9_second 6 (some .int)) "OvenHouseModel" meth (some .int) E)  (rec46 : Int32 → Int32 → Int32 → Int32 → Mem → Option (Int32 × Mem)) (hrec46 : ∀ (y1 : Int32) (y2 : Int32) (y3 : Int32) (y4 : Int32) (μ : Mem) (H : Heap) (locs : List Loc) (ls : Array Slot), rec46 y1 y2 y3 y4 μ = some (r, u) → Wo E μ H → va_S (AE E) s.heap H locs → lv_has ls 6 [(0, .ref (E.1 89)), (1, .int y1), (2, .int y2), (3, .int y3), (4, .int y4)] → W0 p l e rmX9_second s m args below meth c H locs (QcI E r u) E (F0 m 46 ls [])) (y1 : Int32) (y2 : Int32) (y3 : Int32) (y4 : Int32) (μ : Mem) (H : Heap) (locs : List Loc) (ls : Array Slot) (hf : fX9_second_46_b F  rec46 y1 y2 y3 y4 μ = some (r, u)) (hW : Wo E μ H) (hS : va_S (AE E) s.heap H locs) (hl : lv_has ls 6 [(0, .ref (E.1 89)), (1, .int y1), (2, .int y2), (3, .int y3), (4, .int y4)]) : W0 p l e rmX9_second s m args below meth c H locs (QcI E r u) E (F0 m 46 ls []) := by
  unfold fX9_second_46_b at hf
  refine lv_iload X.1.1 X.1.2.1 dX9_second_46 (lv_at hl 4 rfl) ?_
  refine lv_if_eq (tgt := 96) X.1.1 X.1.2.1 dX9_second_48 (by decide) (fun c48 => ?_) (fun c48 => ?_)
  · rw [if_pos c48] at hf
    refine lv_iload_n X.1.1 X.1.2.1 dX9_second_96 rfl (lv_at hl 3 rfl) ?_
    exact e_iret X hW hS hf dX9_second_97
  · rw [if_neg c48] at hf
    refine lv_aload_n X.1.1 X.1.2.1 dX9_second_51 rfl (lv_at hl 0 rfl) ?_
    refine e_vi (rest := []) (As := []) X hl.1 hW hS (C := RX9) (T := TX9) (N := 35) rfl (by decide) (ctfX9_isOrder X.2.2.2.2 F μ) (cwV (rm := rmX9_isOrder) 0 X.1.2.2.2.2 (gd_V mw_5_6 mw_5_8 mw_0_41 mw_1_11 mw_5_9) rfl rfl rfl (by decide +kernel) ⟨Nat.le_of_ble_eq_true rfl, Nat.le_of_ble_eq_true rfl⟩) rfl rfl (Nat.le_of_ble_eq_true rfl) dX9_second_52 ⟨Nat.zero_le _, Nat.zero_le _⟩ hf (fun r7 m6 H locs hf hW hS => ?_)
    refine lv_if_ne (tgt := 87) X.1.1 X.1.2.1 dX9_second_55 (by decide) (fun c55 => ?_) (fun c55 => ?_)
    · rw [if_neg c55] at hf
      refine lv_aload_n X.1.1 X.1.2.1 dX9_second_87 rfl (lv_at hl 0 rfl) ?_
      refine e_vi (rest := []) (As := []) X hl.1 hW hS (C := RX9) (T := TX9) (N := 35) rfl (by decide) (ctfX9_nextRow X.2.2.2.2 F m6) (cwV (rm := rmX9_nextRow) 0 X.1.2.2.2.2 (gd_V mw_4_238 mw_5_0 mw_0_40 mw_1_11 mw_5_1) rfl rfl rfl (by decide +kernel) ⟨Nat.le_of_ble_eq_true rfl, Nat.le_of_ble_eq_true rfl⟩) rfl rfl (Nat.le_of_ble_eq_true rfl) dX9_second_88 ⟨Nat.zero_le _, Nat.zero_le _⟩ hf (fun r9 m8 H locs hf hW hS => ?_)
      refine lv_istore (lv' := [(4, .int r9), (0, .ref (E.1 89)), (1, .int y1), (2, .int y2), (3, .int y3)]) X.1.1 X.1.2.1 dX9_second_91 hl (by decide) rfl (fun ls hl => ?_)
      refine lv_goto (tgt := 46) X.1.1 X.1.2.1 dX9_second_93 (by decide) ?_
      exact hrec46 y1 y2 y3 r9 m8 H locs ls hf hW hS (lv_sub hl [1, 2, 3, 4, 0] rfl)
    · rw [if_pos c55] at hf
      refine lv_aload_n X.1.1 X.1.2.1 dX9_second_58 rfl (lv_at hl 0 rfl) ?_
      refine lv_aload_n X.1.1 X.1.2.1 dX9_second_59 rfl (lv_at hl 0 rfl) ?_
      refine e_getr X hW (C := RX9) (T := TX9) (N := 35) (j := 20) rfl (by decide) inX9 (by decide) (by decide) rfl (t := 105) rfl rfl mw_3_189 dX9_second_60 ?_
      refine lv_iload_n X.1.1 X.1.2.1 dX9_second_63 rfl (lv_at hl 1 rfl) ?_
      refine lv_iload_n X.1.1 X.1.2.1 dX9_second_64 rfl (lv_at hl 2 rfl) ?_
      refine e_vi (rest := []) (As := [.ref (E.1 105), .int y1, .int y2]) X hl.1 hW hS (C := RX9) (T := TX9) (N := 35) rfl (by decide) (ctfX9_endOf X.2.2.2.2 F 105 y1 y2 ⟨(by decide), rfl⟩ m6) (cwV (rm := rmX9_endOf) 3 X.1.2.2.2.2 (gd_V mw_4_146 mw_4_148 mw_0_25 mw_1_11 mw_4_149) rfl rfl rfl (by decide +kernel) ⟨Nat.le_of_ble_eq_true rfl, Nat.le_of_ble_eq_true rfl⟩) rfl rfl (Nat.le_of_ble_eq_true rfl) dX9_second_65 ⟨Nat.zero_le _, Nat.zero_le _⟩ hf (fun r11 m10 H locs hf hW hS => ?_)
      refine lv_istore (lv' := [(5, .int r11), (0, .ref (E.1 89)), (1, .int y1), (2, .int y2), (3, .int y3), (4, .int y4)]) X.1.1 X.1.2.1 dX9_second_68 hl (by decide) rfl (fun ls hl => ?_)
      refine lv_iload_n X.1.1 X.1.2.1 dX9_second_70 rfl (lv_at hl 4 rfl) ?_
      refine lv_if_lt (tgt := 80) X.1.1 X.1.2.1 dX9_second_71 (by decide) (fun c71 => ?_) (fun c71 => ?_)
      · rw [if_pos c71] at hf
        refine lv_iload X.1.1 X.1.2.1 dX9_second_80 (lv_at hl 0 rfl) ?_
        refine lv_goto (tgt := 86) X.1.1 X.1.2.1 dX9_second_82 (by decide) ?_
        refine lv_istore_n (lv' := [(3, .int r11), (5, .int r11), (0, .ref (E.1 89)), (1, .int y1), (2, .int y2), (4, .int y4)]) X.1.1 X.1.2.1 dX9_second_86 rfl hl (by decide) rfl (fun ls hl => ?_)
        refine lv_aload_n X.1.1 X.1.2.1 dX9_second_87 rfl (lv_at hl 2 rfl) ?_
        refine e_vi (rest := []) (As := []) X hl.1 hW hS (C := RX9) (T := TX9) (N := 35) rfl (by decide) (ctfX9_nextRow X.2.2.2.2 F m10) (cwV (rm := rmX9_nextRow) 0 X.1.2.2.2.2 (gd_V mw_4_238 mw_5_0 mw_0_40 mw_1_11 mw_5_1) rfl rfl rfl (by decide +kernel) ⟨Nat.le_of_ble_eq_true rfl, Nat.le_of_ble_eq_true rfl⟩) rfl rfl (Nat.le_of_ble_eq_true rfl) dX9_second_88 ⟨Nat.zero_le _, Nat.zero_le _⟩ hf (fun r13 m12 H locs hf hW hS => ?_)
        refine lv_istore (lv' := [(4, .int r13), (3, .int r11), (5, .int r11), (0, .ref (E.1 89)), (1, .int y1), (2, .int y2)]) X.1.1 X.1.2.1 dX9_second_91 hl (by decide) rfl (fun ls hl => ?_)
        refine lv_goto (tgt := 46) X.1.1 X.1.2.1 dX9_second_93 (by decide) ?_
        exact hrec46 y1 y2 r11 r13 m12 H locs ls hf hW hS (lv_sub hl [3, 4, 5, 1, 0] rfl)
      · rw [if_neg c71] at hf
        refine lv_iload X.1.1 X.1.2.1 dX9_second_74 (lv_at hl 0 rfl) ?_
        refine lv_iload_n X.1.1 X.1.2.1 dX9_second_76 rfl (lv_at hl 4 rfl) ?_
        refine lv_icmp_ge (tgt := 85) X.1.1 X.1.2.1 dX9_second_77 (by decide) (fun c77 => ?_) (fun c77 => ?_)
        · rw [if_pos c77] at hf
          refine lv_iload_n X.1.1 X.1.2.1 dX9_second_85 rfl (lv_at hl 4 rfl) ?_
          refine lv_istore_n (lv' := [(3, .int y3), (5, .int r11), (0, .ref (E.1 89)), (1, .int y1), (2, .int y2), (4, .int y4)]) X.1.1 X.1.2.1 dX9_second_86 rfl hl (by decide) rfl (fun ls hl => ?_)
          refine lv_aload_n X.1.1 X.1.2.1 dX9_second_87 rfl (lv_at hl 2 rfl) ?_
          refine e_vi (rest := []) (As := []) X hl.1 hW hS (C := RX9) (T := TX9) (N := 35) rfl (by decide) (ctfX9_nextRow X.2.2.2.2 F m10) (cwV (rm := rmX9_nextRow) 0 X.1.2.2.2.2 (gd_V mw_4_238 mw_5_0 mw_0_40 mw_1_11 mw_5_1) rfl rfl rfl (by decide +kernel) ⟨Nat.le_of_ble_eq_true rfl, Nat.le_of_ble_eq_true rfl⟩) rfl rfl (Nat.le_of_ble_eq_true rfl) dX9_second_88 ⟨Nat.zero_le _, Nat.zero_le _⟩ hf (fun r15 m14 H locs hf hW hS => ?_)
          refine lv_istore (lv' := [(4, .int r15), (3, .int y3), (5, .int r11), (0, .ref (E.1 89)), (1, .int y1), (2, .int y2)]) X.1.1 X.1.2.1 dX9_second_91 hl (by decide) rfl (fun ls hl => ?_)
          refine lv_goto (tgt := 46) X.1.1 X.1.2.1 dX9_second_93 (by decide) ?_
          exact hrec46 y1 y2 y3 r15 m14 H locs ls hf hW hS (lv_sub hl [3, 4, 5, 1, 0] rfl)
        · rw [if_neg c77] at hf
          refine lv_iload X.1.1 X.1.2.1 dX9_second_80 (lv_at hl 0 rfl) ?_
          refine lv_goto (tgt := 86) X.1.1 X.1.2.1 dX9_second_82 (by decide) ?_
          refine lv_istore_n (lv' := [(3, .int r11), (5, .int r11), (0, .ref (E.1 89)), (1, .int y1), (2, .int y2), (4, .int y4)]) X.1.1 X.1.2.1 dX9_second_86 rfl hl (by decide) rfl (fun ls hl => ?_)
          refine lv_aload_n X.1.1 X.1.2.1 dX9_second_87 rfl (lv_at hl 2 rfl) ?_
          refine e_vi (rest := []) (As := []) X hl.1 hW hS (C := RX9) (T := TX9) (N := 35) rfl (by decide) (ctfX9_nextRow X.2.2.2.2 F m10) (cwV (rm := rmX9_nextRow) 0 X.1.2.2.2.2 (gd_V mw_4_238 mw_5_0 mw_0_40 mw_1_11 mw_5_1) rfl rfl rfl (by decide +kernel) ⟨Nat.le_of_ble_eq_true rfl, Nat.le_of_ble_eq_true rfl⟩) rfl rfl (Nat.le_of_ble_eq_true rfl) dX9_second_88 ⟨Nat.zero_le _, Nat.zero_le _⟩ hf (fun r17 m16 H locs hf hW hS => ?_)
          refine lv_istore (lv' := [(4, .int r17), (3, .int r11), (5, .int r11), (0, .ref (E.1 89)), (1, .int y1), (2, .int y2)]) X.1.1 X.1.2.1 dX9_second_91 hl (by decide) rfl (fun ls hl => ?_)
          refine lv_goto (tgt := 46) X.1.1 X.1.2.1 dX9_second_93 (by decide) ?_
          exact hrec46 y1 y2 r11 r17 m16 H locs ls hf hW hS (lv_sub hl [3, 4, 5, 1, 0] rfl)
theorem wfX9_second_46 {p : Program} {l : Launch} {e : Env} {s : State} {m : MethodId} {args : Array Value} {below : List Frame} {meth : Method} {c : Code} {E : Gv} {F : Nat}  {r : Int32} {u : Mem} (X : Fx p m c cX9_second 6 s args (Cond.code yX9_second cX9_second 6 (some .int)) "OvenHouseModel" meth (some .int) E)  (n : Nat) : ∀ (y1 : Int32) (y2 : Int32) (y3 : Int32) (y4 : Int32) (μ : Mem) (H : Heap) (locs : List Loc) (ls : Array Slot) (_ : fX9_second_46 F   n y1 y2 y3 y4 μ = some (r, u)) (_ : Wo E μ H) (_ : va_S (AE E) s.heap H locs) (_ : lv_has ls 6 [(0, .ref (E.1 89)), (1, .int y1), (2, .int y2), (3, .int y3), (4, .int y4)]), W0 p l e rmX9_second s m args below meth c H locs (QcI E r u) E (F0 m 46 ls []) := by
  induction n with
  | zero => intro y1 y2 y3 y4 μ H locs ls hf hW hS hl; cases hf
  | succ n ih => intro y1 y2 y3 y4 μ H locs ls hf hW hS hl; exact wfX9_second_46_b X  _ ih y1 y2 y3 y4 μ H locs ls hf hW hS hl
set_option maxRecDepth 100000 in
set_option maxHeartbeats 4000000 in
theorem ctfX9_second {l : Launch} {E : Gv} (hD : Do E) (F : Nat) (x1 : Int32) (x2 : Int32)  (μ : Mem) : CtI l yX9_second ((Cond.code yX9_second cX9_second 6 (some .int)) :: GG) rmX9_second E [.ref (E.1 89), .int x1, .int x2] μ (fX9_second F x1 x2 μ) := by
  intro r u hf
  refine of_entry (cc := cX9_second) (maxL := 6) (ret := (some .int)) (by decide +kernel) rfl hD (Nat.le_of_ble_eq_true rfl) (fun p e s m args below meth c X H locs hW hS ls hl => ?_)
  have hl : lv_has ls 6 [(0, .ref (E.1 89)), (1, .int x1), (2, .int x2)] := hl
  unfold fX9_second at hf
  refine lv_iload_n X.1.1 X.1.2.1 dX9_second_0 rfl (lv_at hl 1 rfl) ?_
  refine lv_iload_n X.1.1 X.1.2.1 dX9_second_1 rfl (lv_at hl 2 rfl) ?_
  refine e_si (rest := []) (As := [.int x1, .int x2]) X hl.1 hW hS (ctfX9_isLaw X.2.2.2.2 F x1 x2 μ) (cwS (rm := rmX9_isLaw) 2 X.1.2.2.2.2 (gd_S mw_4_162 mw_4_163 mw_1_11 mw_4_164) rfl rfl rfl (by decide +kernel) ⟨Nat.le_of_ble_eq_true rfl, Nat.le_of_ble_eq_true rfl⟩) rfl rfl (Nat.le_of_ble_eq_true rfl) dX9_second_2 ⟨Nat.zero_le _, Nat.zero_le _⟩ hf (fun r2 m1 H locs hf hW hS => ?_)
  refine lv_if_ne (tgt := 11) X.1.1 X.1.2.1 dX9_second_5 (by decide) (fun c5 => ?_) (fun c5 => ?_)
  · rw [if_neg c5] at hf
    refine lv_aload_n X.1.1 X.1.2.1 dX9_second_11 rfl (lv_at hl 0 rfl) ?_
    refine e_getr X hW (C := RX9) (T := TX9) (N := 35) (j := 5) rfl (by decide) inX9 (by decide) (by decide) rfl (t := 94) rfl rfl mw_3_174 dX9_second_12 ?_
    refine lv_iconst (v := 0) X.1.1 X.1.2.1 dX9_second_15 (by decide) ?_
    refine e_ild X hW (by decide) rfl dX9_second_16 hf (fun v3 hf => ?_)
    refine lv_iconst (v := 2) X.1.1 X.1.2.1 dX9_second_17 (by decide) ?_
    refine lv_icmp_ge (tgt := 23) X.1.1 X.1.2.1 dX9_second_18 (by decide) (fun c18 => ?_) (fun c18 => ?_)
    · rw [if_pos c18] at hf
      refine lv_aload_n X.1.1 X.1.2.1 dX9_second_23 rfl (lv_at hl 0 rfl) ?_
      refine e_getr X hW (C := RX9) (T := TX9) (N := 35) (j := 5) rfl (by decide) inX9 (by decide) (by decide) rfl (t := 94) rfl rfl mw_3_174 dX9_second_24 ?_
      refine lv_iconst (v := 0) X.1.1 X.1.2.1 dX9_second_27 (by decide) ?_
      refine e_ild X hW (by decide) rfl dX9_second_28 hf (fun v4 hf => ?_)
      refine lv_bipush (v := 7) X.1.1 X.1.2.1 dX9_second_29 (by decide) ?_
      refine lv_icmp_le (tgt := 37) X.1.1 X.1.2.1 dX9_second_31 (by decide) (fun c31 => ?_) (fun c31 => ?_)
      · rw [if_pos c31] at hf
        refine lv_iconst (v := (-1)) X.1.1 X.1.2.1 dX9_second_37 (by decide) ?_
        refine lv_istore_n (lv' := [(3, .int (-1)), (0, .ref (E.1 89)), (1, .int x1), (2, .int x2)]) X.1.1 X.1.2.1 dX9_second_38 rfl hl (by decide) rfl (fun ls hl => ?_)
        refine lv_aload_n X.1.1 X.1.2.1 dX9_second_39 rfl (lv_at hl 1 rfl) ?_
        refine e_vv (rest := []) (As := []) X hl.1 hW hS (C := RX9) (T := TX9) (N := 35) rfl (by decide) (ctfX9_firstRow X.2.2.2.2 F m1) (cwV (rm := rmX9_firstRow) 0 X.1.2.2.2.2 (gd_V mw_4_234 mw_4_236 mw_0_39 mw_1_11 mw_4_237) rfl rfl rfl (by decide +kernel) ⟨Nat.le_of_ble_eq_true rfl, Nat.le_of_ble_eq_true rfl⟩) rfl rfl (Nat.le_of_ble_eq_true rfl) dX9_second_40 ⟨Nat.zero_le _, Nat.zero_le _⟩ hf (fun m5 H locs hf hW hS => ?_)
        refine lv_iconst (v := 1) X.1.1 X.1.2.1 dX9_second_43 (by decide) ?_
        refine lv_istore (lv' := [(4, .int 1), (3, .int (-1)), (0, .ref (E.1 89)), (1, .int x1), (2, .int x2)]) X.1.1 X.1.2.1 dX9_second_44 hl (by decide) rfl (fun ls hl => ?_)
        exact wfX9_second_46 X  F x1 x2 (-1) 1 m5 H locs ls hf hW hS (lv_sub hl [2, 3, 4, 1, 0] rfl)
      · rw [if_neg c31] at hf
        refine lv_bipush (v := (-4)) X.1.1 X.1.2.1 dX9_second_34 (by decide) ?_
        exact e_iret X hW hS hf dX9_second_36
    · rw [if_neg c18] at hf
      refine lv_iconst (v := (-1)) X.1.1 X.1.2.1 dX9_second_21 (by decide) ?_
      exact e_iret X hW hS hf dX9_second_22
  · rw [if_pos c5] at hf
    refine lv_bipush (v := (-2)) X.1.1 X.1.2.1 dX9_second_8 (by decide) ?_
    exact e_iret X hW hS hf dX9_second_10
-- OvenHouseModel.better
def rmX9_better : Room := { frames := 2, cells := 0, slots := 0, locals := 46 }
set_option maxRecDepth 100000 in
set_option maxHeartbeats 4000000 in
theorem wfX9_better_43_b {p : Program} {l : Launch} {e : Env} {s : State} {m : MethodId} {args : Array Value} {below : List Frame} {meth : Method} {c : Code} {E : Gv} {F : Nat}  {r : Int32} {u : Mem} (X : Fx p m c cX9_better 9 s args (Cond.code yX9_better cX9_better 9 (some .int)) "OvenHouseModel" meth (some .int) E)  (rec32 : Int32 → Int32 → Int32 → Int32 → Int32 → Mem → Option (Int32 × Mem)) (hrec32 : ∀ (y1 : Int32) (y2 : Int32) (y3 : Int32) (y4 : Int32) (y5 : Int32) (μ : Mem) (H : Heap) (locs : List Loc) (ls : Array Slot), rec32 y1 y2 y3 y4 y5 μ = some (r, u) → Wo E μ H → va_S (AE E) s.heap H locs → lv_has ls 9 [(0, .ref (E.1 89)), (1, .int y1), (2, .int y2), (3, .int y3), (4, .int y4), (5, .int y5)] → W0 p l e rmX9_better s m args below meth c H locs (QcI E r u) E (F0 m 32 ls [])) (rec43 : Int32 → Int32 → Int32 → Int32 → Int32 → Int32 → Mem → Option (Int32 × Mem)) (hrec43 : ∀ (y1 : Int32) (y2 : Int32) (y3 : Int32) (y4 : Int32) (y5 : Int32) (y6 : Int32) (μ : Mem) (H : Heap) (locs : List Loc) (ls : Array Slot), rec43 y1 y2 y3 y4 y5 y6 μ = some (r, u) → Wo E μ H → va_S (AE E) s.heap H locs → lv_has ls 9 [(0, .ref (E.1 89)), (1, .int y1), (2, .int y2), (3, .int y3), (4, .int y4), (5, .int y5), (6, .int y6)] → W0 p l e rmX9_better s m args below meth c H locs (QcI E r u) E (F0 m 43 ls [])) (y1 : Int32) (y2 : Int32) (y3 : Int32) (y4 : Int32) (y5 : Int32) (y6 : Int32) (μ : Mem) (H : Heap) (locs : List Loc) (ls : Array Slot) (hf : fX9_better_43_b F  rec32 rec43 y1 y2 y3 y4 y5 y6 μ = some (r, u)) (hW : Wo E μ H) (hS : va_S (AE E) s.heap H locs) (hl : lv_has ls 9 [(0, .ref (E.1 89)), (1, .int y1), (2, .int y2), (3, .int y3), (4, .int y4), (5, .int y5), (6, .int y6)]) : W0 p l e rmX9_better s m args below meth c H locs (QcI E r u) E (F0 m 43 ls []) := by
  unfold fX9_better_43_b at hf
  refine lv_iload X.1.1 X.1.2.1 dX9_better_43 (lv_at hl 6 rfl) ?_
  refine lv_iconst (v := 1) X.1.1 X.1.2.1 dX9_better_45 (by decide) ?_
  refine lv_iadd X.1.1 X.1.2.1 dX9_better_46 ?_
  refine lv_aload_n X.1.1 X.1.2.1 dX9_better_47 rfl (lv_at hl 0 rfl) ?_
  refine e_getr X hW (C := RX9) (T := TX9) (N := 35) (j := 5) rfl (by decide) inX9 (by decide) (by decide) rfl (t := 94) rfl rfl mw_3_174 dX9_better_48 ?_
  refine lv_iconst (v := 0) X.1.1 X.1.2.1 dX9_better_51 (by decide) ?_
  refine e_ild X hW (by decide) rfl dX9_better_52 hf (fun v6 hf => ?_)
  refine lv_icmp_ge (tgt := 155) X.1.1 X.1.2.1 dX9_better_53 (by decide) (fun c53 => ?_) (fun c53 => ?_)
  · rw [if_pos c53] at hf
    refine lv_goto (tgt := 32) X.1.1 X.1.2.1 dX9_better_155 (by decide) ?_
    exact hrec32 y1 y2 y3 y4 y5 μ H locs ls hf hW hS (lv_sub hl [0, 1, 2, 3, 4, 5] rfl)
  · rw [if_neg c53] at hf
    refine lv_aload_n X.1.1 X.1.2.1 dX9_better_56 rfl (lv_at hl 0 rfl) ?_
    refine e_getr X hW (C := RX9) (T := TX9) (N := 35) (j := 10) rfl (by decide) inX9 (by decide) (by decide) rfl (t := 99) rfl rfl mw_3_179 dX9_better_57 ?_
    refine lv_iload X.1.1 X.1.2.1 dX9_better_60 (lv_at hl 6 rfl) ?_
    refine e_ild X hW (by decide) rfl dX9_better_62 hf (fun v7 hf => ?_)
    refine lv_istore (lv' := [(7, .int v7), (0, .ref (E.1 89)), (1, .int y1), (2, .int y2), (3, .int y3), (4, .int y4), (5, .int y5), (6, .int y6)]) X.1.1 X.1.2.1 dX9_better_63 hl (by decide) rfl (fun ls hl => ?_)
    refine lv_aload_n X.1.1 X.1.2.1 dX9_better_65 rfl (lv_at hl 1 rfl) ?_
    refine e_getr X hW (C := RX9) (T := TX9) (N := 35) (j := 10) rfl (by decide) inX9 (by decide) (by decide) rfl (t := 99) rfl rfl mw_3_179 dX9_better_66 ?_
    refine lv_iload X.1.1 X.1.2.1 dX9_better_69 (lv_at hl 7 rfl) ?_
    refine lv_aload_n X.1.1 X.1.2.1 dX9_better_71 rfl (lv_at hl 1 rfl) ?_
    refine e_getr X hW (C := RX9) (T := TX9) (N := 35) (j := 10) rfl (by decide) inX9 (by decide) (by decide) rfl (t := 99) rfl rfl mw_3_179 dX9_better_72 ?_
    refine lv_iload X.1.1 X.1.2.1 dX9_better_75 (lv_at hl 7 rfl) ?_
    refine lv_iconst (v := 1) X.1.1 X.1.2.1 dX9_better_77 (by decide) ?_
    refine lv_iadd X.1.1 X.1.2.1 dX9_better_78 ?_
    refine e_ild X hW (by decide) rfl dX9_better_79 hf (fun v8 hf => ?_)
    refine e_ist X hW hS (by decide) rfl dX9_better_80 hf (fun m9 H locs hf hW hS => ?_)
    refine lv_aload_n X.1.1 X.1.2.1 dX9_better_81 rfl (lv_at hl 1 rfl) ?_
    refine e_getr X hW (C := RX9) (T := TX9) (N := 35) (j := 10) rfl (by decide) inX9 (by decide) (by decide) rfl (t := 99) rfl rfl mw_3_179 dX9_better_82 ?_
    refine lv_iload X.1.1 X.1.2.1 dX9_better_85 (lv_at hl 7 rfl) ?_
    refine lv_iconst (v := 1) X.1.1 X.1.2.1 dX9_better_87 (by decide) ?_
    refine lv_iadd X.1.1 X.1.2.1 dX9_better_88 ?_
    refine lv_iload X.1.1 X.1.2.1 dX9_better_89 (lv_at hl 0 rfl) ?_
    refine e_ist X hW hS (by decide) rfl dX9_better_91 hf (fun m10 H locs hf hW hS => ?_)
    refine lv_aload_n X.1.1 X.1.2.1 dX9_better_92 rfl (lv_at hl 1 rfl) ?_
    refine lv_aload_n X.1.1 X.1.2.1 dX9_better_93 rfl (lv_at hl 1 rfl) ?_
    refine e_getr X hW (C := RX9) (T := TX9) (N := 35) (j := 10) rfl (by decide) inX9 (by decide) (by decide) rfl (t := 99) rfl rfl mw_3_179 dX9_better_94 ?_
    refine lv_iload_n X.1.1 X.1.2.1 dX9_better_97 rfl (lv_at hl 2 rfl) ?_
    refine lv_iload_n X.1.1 X.1.2.1 dX9_better_98 rfl (lv_at hl 3 rfl) ?_
    refine e_vi (rest := []) (As := [.ref (E.1 99), .int y1, .int y2]) X hl.1 hW hS (C := RX9) (T := TX9) (N := 35) rfl (by decide) (ctfX9_endOf X.2.2.2.2 F 99 y1 y2 ⟨(by decide), rfl⟩ m10) (cwV (rm := rmX9_endOf) 3 X.1.2.2.2.2 (gd_V mw_4_146 mw_4_148 mw_0_25 mw_1_11 mw_4_149) rfl rfl rfl (by decide +kernel) ⟨Nat.le_of_ble_eq_true rfl, Nat.le_of_ble_eq_true rfl⟩) rfl rfl (Nat.le_of_ble_eq_true rfl) dX9_better_99 ⟨Nat.zero_le _, Nat.zero_le _⟩ hf (fun r12 m11 H locs hf hW hS => ?_)
    refine lv_istore (lv' := [(8, .int r12), (7, .int v7), (0, .ref (E.1 89)), (1, .int y1), (2, .int y2), (3, .int y3), (4, .int y4), (5, .int y5), (6, .int y6)]) X.1.1 X.1.2.1 dX9_better_102 hl (by decide) rfl (fun ls hl => ?_)
    refine lv_iload X.1.1 X.1.2.1 dX9_better_104 (lv_at hl 0 rfl) ?_
    refine lv_iload X.1.1 X.1.2.1 dX9_better_106 (lv_at hl 6 rfl) ?_
    refine lv_icmp_ge (tgt := 124) X.1.1 X.1.2.1 dX9_better_108 (by decide) (fun c108 => ?_) (fun c108 => ?_)
    · rw [if_pos c108] at hf
      refine lv_aload_n X.1.1 X.1.2.1 dX9_better_124 rfl (lv_at hl 2 rfl) ?_
      refine e_getr X hW (C := RX9) (T := TX9) (N := 35) (j := 10) rfl (by decide) inX9 (by decide) (by decide) rfl (t := 99) rfl rfl mw_3_179 dX9_better_125 ?_
      refine lv_iload X.1.1 X.1.2.1 dX9_better_128 (lv_at hl 8 rfl) ?_
      refine lv_iconst (v := 1) X.1.1 X.1.2.1 dX9_better_130 (by decide) ?_
      refine lv_iadd X.1.1 X.1.2.1 dX9_better_131 ?_
      refine lv_aload_n X.1.1 X.1.2.1 dX9_better_132 rfl (lv_at hl 2 rfl) ?_
      refine e_getr X hW (C := RX9) (T := TX9) (N := 35) (j := 10) rfl (by decide) inX9 (by decide) (by decide) rfl (t := 99) rfl rfl mw_3_179 dX9_better_133 ?_
      refine lv_iload X.1.1 X.1.2.1 dX9_better_136 (lv_at hl 8 rfl) ?_
      refine e_ild X hW (by decide) rfl dX9_better_138 hf (fun v13 hf => ?_)
      refine e_ist X hW hS (by decide) rfl dX9_better_139 hf (fun m14 H locs hf hW hS => ?_)
      refine lv_aload_n X.1.1 X.1.2.1 dX9_better_140 rfl (lv_at hl 2 rfl) ?_
      refine e_getr X hW (C := RX9) (T := TX9) (N := 35) (j := 10) rfl (by decide) inX9 (by decide) (by decide) rfl (t := 99) rfl rfl mw_3_179 dX9_better_141 ?_
      refine lv_iload X.1.1 X.1.2.1 dX9_better_144 (lv_at hl 8 rfl) ?_
      refine lv_iload X.1.1 X.1.2.1 dX9_better_146 (lv_at hl 1 rfl) ?_
      refine e_ist X hW hS (by decide) rfl dX9_better_148 hf (fun m15 H locs hf hW hS => ?_)
      refine lv_iinc (v := (y6 + 1)) (lv' := [(6, .int (y6 + 1)), (8, .int r12), (7, .int v7), (0, .ref (E.1 89)), (1, .int y1), (2, .int y2), (3, .int y3), (4, .int y4), (5, .int y5)]) X.1.1 X.1.2.1 dX9_better_149 hl (k := 8) rfl rfl (by decide) rfl (fun ls hl => ?_)
      refine lv_goto (tgt := 43) X.1.1 X.1.2.1 dX9_better_152 (by decide) ?_
      exact hrec43 y1 y2 y3 y4 y5 (y6 + 1) m15 H locs ls hf hW hS (lv_sub hl [3, 4, 5, 6, 7, 8, 0] rfl)
    · rw [if_neg c108] at hf
      refine lv_iload X.1.1 X.1.2.1 dX9_better_111 (lv_at hl 0 rfl) ?_
      refine lv_istore (lv' := [(4, .int r12), (8, .int r12), (7, .int v7), (0, .ref (E.1 89)), (1, .int y1), (2, .int y2), (3, .int y3), (5, .int y5), (6, .int y6)]) X.1.1 X.1.2.1 dX9_better_113 hl (by decide) rfl (fun ls hl => ?_)
      refine lv_iinc (v := (y3 + 1)) (lv' := [(3, .int (y3 + 1)), (4, .int r12), (8, .int r12), (7, .int v7), (0, .ref (E.1 89)), (1, .int y1), (2, .int y2), (5, .int y5), (6, .int y6)]) X.1.1 X.1.2.1 dX9_better_115 hl (k := 6) rfl rfl (by decide) rfl (fun ls hl => ?_)
      refine lv_iconst (v := 1) X.1.1 X.1.2.1 dX9_better_118 (by decide) ?_
      refine lv_istore (lv' := [(5, .int 1), (3, .int (y3 + 1)), (4, .int r12), (8, .int r12), (7, .int v7), (0, .ref (E.1 89)), (1, .int y1), (2, .int y2), (6, .int y6)]) X.1.1 X.1.2.1 dX9_better_119 hl (by decide) rfl (fun ls hl => ?_)
      refine lv_goto (tgt := 149) X.1.1 X.1.2.1 dX9_better_121 (by decide) ?_
      refine lv_iinc (v := (y6 + 1)) (lv' := [(6, .int (y6 + 1)), (5, .int 1), (3, .int (y3 + 1)), (4, .int r12), (8, .int r12), (7, .int v7), (0, .ref (E.1 89)), (1, .int y1), (2, .int y2)]) X.1.1 X.1.2.1 dX9_better_149 hl (k := 8) rfl rfl (by decide) rfl (fun ls hl => ?_)
      refine lv_goto (tgt := 43) X.1.1 X.1.2.1 dX9_better_152 (by decide) ?_
      exact hrec43 y1 y2 (y3 + 1) r12 1 (y6 + 1) m11 H locs ls hf hW hS (lv_sub hl [6, 7, 8, 2, 3, 1, 0] rfl)
theorem wfX9_better_43 {p : Program} {l : Launch} {e : Env} {s : State} {m : MethodId} {args : Array Value} {below : List Frame} {meth : Method} {c : Code} {E : Gv} {F : Nat}  {r : Int32} {u : Mem} (X : Fx p m c cX9_better 9 s args (Cond.code yX9_better cX9_better 9 (some .int)) "OvenHouseModel" meth (some .int) E)  (rec32 : Int32 → Int32 → Int32 → Int32 → Int32 → Mem → Option (Int32 × Mem)) (hrec32 : ∀ (y1 : Int32) (y2 : Int32) (y3 : Int32) (y4 : Int32) (y5 : Int32) (μ : Mem) (H : Heap) (locs : List Loc) (ls : Array Slot), rec32 y1 y2 y3 y4 y5 μ = some (r, u) → Wo E μ H → va_S (AE E) s.heap H locs → lv_has ls 9 [(0, .ref (E.1 89)), (1, .int y1), (2, .int y2), (3, .int y3), (4, .int y4), (5, .int y5)] → W0 p l e rmX9_better s m args below meth c H locs (QcI E r u) E (F0 m 32 ls [])) (n : Nat) : ∀ (y1 : Int32) (y2 : Int32) (y3 : Int32) (y4 : Int32) (y5 : Int32) (y6 : Int32) (μ : Mem) (H : Heap) (locs : List Loc) (ls : Array Slot) (_ : fX9_better_43 F  rec32 n y1 y2 y3 y4 y5 y6 μ = some (r, u)) (_ : Wo E μ H) (_ : va_S (AE E) s.heap H locs) (_ : lv_has ls 9 [(0, .ref (E.1 89)), (1, .int y1), (2, .int y2), (3, .int y3), (4, .int y4), (5, .int y5), (6, .int y6)]), W0 p l e rmX9_better s m args below meth c H locs (QcI E r u) E (F0 m 43 ls []) := by
  induction n with
  | zero => intro y1 y2 y3 y4 y5 y6 μ H locs ls hf hW hS hl; cases hf
  | succ n ih => intro y1 y2 y3 y4 y5 y6 μ H locs ls hf hW hS hl; exact wfX9_better_43_b X rec32 hrec32 _ ih y1 y2 y3 y4 y5 y6 μ H locs ls hf hW hS hl
set_option maxRecDepth 100000 in
set_option maxHeartbeats 4000000 in
theorem wfX9_better_32_b {p : Program} {l : Launch} {e : Env} {s : State} {m : MethodId} {args : Array Value} {below : List Frame} {meth : Method} {c : Code} {E : Gv} {F : Nat}  {r : Int32} {u : Mem} (X : Fx p m c cX9_better 9 s args (Cond.code yX9_better cX9_better 9 (some .int)) "OvenHouseModel" meth (some .int) E)  (rec32 : Int32 → Int32 → Int32 → Int32 → Int32 → Mem → Option (Int32 × Mem)) (hrec32 : ∀ (y1 : Int32) (y2 : Int32) (y3 : Int32) (y4 : Int32) (y5 : Int32) (μ : Mem) (H : Heap) (locs : List Loc) (ls : Array Slot), rec32 y1 y2 y3 y4 y5 μ = some (r, u) → Wo E μ H → va_S (AE E) s.heap H locs → lv_has ls 9 [(0, .ref (E.1 89)), (1, .int y1), (2, .int y2), (3, .int y3), (4, .int y4), (5, .int y5)] → W0 p l e rmX9_better s m args below meth c H locs (QcI E r u) E (F0 m 32 ls [])) (y1 : Int32) (y2 : Int32) (y3 : Int32) (y4 : Int32) (y5 : Int32) (μ : Mem) (H : Heap) (locs : List Loc) (ls : Array Slot) (hf : fX9_better_32_b F  rec32 y1 y2 y3 y4 y5 μ = some (r, u)) (hW : Wo E μ H) (hS : va_S (AE E) s.heap H locs) (hl : lv_has ls 9 [(0, .ref (E.1 89)), (1, .int y1), (2, .int y2), (3, .int y3), (4, .int y4), (5, .int y5)]) : W0 p l e rmX9_better s m args below meth c H locs (QcI E r u) E (F0 m 32 ls []) := by
  unfold fX9_better_32_b at hf
  refine lv_iload X.1.1 X.1.2.1 dX9_better_32 (lv_at hl 5 rfl) ?_
  refine lv_if_eq (tgt := 158) X.1.1 X.1.2.1 dX9_better_34 (by decide) (fun c34 => ?_) (fun c34 => ?_)
  · rw [if_pos c34] at hf
    refine lv_iload_n X.1.1 X.1.2.1 dX9_better_158 rfl (lv_at hl 3 rfl) ?_
    exact e_iret X hW hS hf dX9_better_159
  · rw [if_neg c34] at hf
    refine lv_iconst (v := 0) X.1.1 X.1.2.1 dX9_better_37 (by decide) ?_
    refine lv_istore (lv' := [(5, .int 0), (0, .ref (E.1 89)), (1, .int y1), (2, .int y2), (3, .int y3), (4, .int y4)]) X.1.1 X.1.2.1 dX9_better_38 hl (by decide) rfl (fun ls hl => ?_)
    refine lv_iconst (v := 0) X.1.1 X.1.2.1 dX9_better_40 (by decide) ?_
    refine lv_istore (lv' := [(6, .int 0), (5, .int 0), (0, .ref (E.1 89)), (1, .int y1), (2, .int y2), (3, .int y3), (4, .int y4)]) X.1.1 X.1.2.1 dX9_better_41 hl (by decide) rfl (fun ls hl => ?_)
    exact wfX9_better_43 X rec32 hrec32 F y1 y2 y3 y4 0 0 μ H locs ls hf hW hS (lv_sub hl [2, 3, 4, 5, 6, 1, 0] rfl)
theorem wfX9_better_32 {p : Program} {l : Launch} {e : Env} {s : State} {m : MethodId} {args : Array Value} {below : List Frame} {meth : Method} {c : Code} {E : Gv} {F : Nat}  {r : Int32} {u : Mem} (X : Fx p m c cX9_better 9 s args (Cond.code yX9_better cX9_better 9 (some .int)) "OvenHouseModel" meth (some .int) E)  (n : Nat) : ∀ (y1 : Int32) (y2 : Int32) (y3 : Int32) (y4 : Int32) (y5 : Int32) (μ : Mem) (H : Heap) (locs : List Loc) (ls : Array Slot) (_ : fX9_better_32 F   n y1 y2 y3 y4 y5 μ = some (r, u)) (_ : Wo E μ H) (_ : va_S (AE E) s.heap H locs) (_ : lv_has ls 9 [(0, .ref (E.1 89)), (1, .int y1), (2, .int y2), (3, .int y3), (4, .int y4), (5, .int y5)]), W0 p l e rmX9_better s m args below meth c H locs (QcI E r u) E (F0 m 32 ls []) := by
  induction n with
  | zero => intro y1 y2 y3 y4 y5 μ H locs ls hf hW hS hl; cases hf
  | succ n ih => intro y1 y2 y3 y4 y5 μ H locs ls hf hW hS hl; exact wfX9_better_32_b X  _ ih y1 y2 y3 y4 y5 μ H locs ls hf hW hS hl
set_option maxRecDepth 100000 in
set_option maxHeartbeats 4000000 in
theorem ctfX9_better {l : Launch} {E : Gv} (hD : Do E) (F : Nat) (x1 : Int32) (x2 : Int32)  (μ : Mem) : CtI l yX9_better ((Cond.code yX9_better cX9_better 9 (some .int)) :: GG) rmX9_better E [.ref (E.1 89), .int x1, .int x2] μ (fX9_better F x1 x2 μ) := by
  intro r u hf
  refine of_entry (cc := cX9_better) (maxL := 9) (ret := (some .int)) (by decide +kernel) rfl hD (Nat.le_of_ble_eq_true rfl) (fun p e s m args below meth c X H locs hW hS ls hl => ?_)
  have hl : lv_has ls 9 [(0, .ref (E.1 89)), (1, .int x1), (2, .int x2)] := hl
  unfold fX9_better at hf
  refine lv_iload_n X.1.1 X.1.2.1 dX9_better_0 rfl (lv_at hl 1 rfl) ?_
  refine lv_iload_n X.1.1 X.1.2.1 dX9_better_1 rfl (lv_at hl 2 rfl) ?_
  refine e_si (rest := []) (As := [.int x1, .int x2]) X hl.1 hW hS (ctfX9_isLaw X.2.2.2.2 F x1 x2 μ) (cwS (rm := rmX9_isLaw) 2 X.1.2.2.2.2 (gd_S mw_4_162 mw_4_163 mw_1_11 mw_4_164) rfl rfl rfl (by decide +kernel) ⟨Nat.le_of_ble_eq_true rfl, Nat.le_of_ble_eq_true rfl⟩) rfl rfl (Nat.le_of_ble_eq_true rfl) dX9_better_2 ⟨Nat.zero_le _, Nat.zero_le _⟩ hf (fun r2 m1 H locs hf hW hS => ?_)
  refine lv_if_ne (tgt := 11) X.1.1 X.1.2.1 dX9_better_5 (by decide) (fun c5 => ?_) (fun c5 => ?_)
  · rw [if_neg c5] at hf
    refine lv_aload_n X.1.1 X.1.2.1 dX9_better_11 rfl (lv_at hl 0 rfl) ?_
    refine e_vv (rest := []) (As := []) X hl.1 hW hS (C := RX9) (T := TX9) (N := 35) rfl (by decide) (ctfX9_keep X.2.2.2.2 F m1) (cwV (rm := rmX9_keep) 0 X.1.2.2.2.2 (gd_V mw_4_86 mw_4_88 mw_0_18 mw_1_11 mw_4_89) rfl rfl rfl (by decide +kernel) ⟨Nat.le_of_ble_eq_true rfl, Nat.le_of_ble_eq_true rfl⟩) rfl rfl (Nat.le_of_ble_eq_true rfl) dX9_better_12 ⟨Nat.zero_le _, Nat.zero_le _⟩ hf (fun m3 H locs hf hW hS => ?_)
    refine lv_iconst (v := 0) X.1.1 X.1.2.1 dX9_better_15 (by decide) ?_
    refine lv_istore_n (lv' := [(3, .int 0), (0, .ref (E.1 89)), (1, .int x1), (2, .int x2)]) X.1.1 X.1.2.1 dX9_better_16 rfl hl (by decide) rfl (fun ls hl => ?_)
    refine lv_aload_n X.1.1 X.1.2.1 dX9_better_17 rfl (lv_at hl 1 rfl) ?_
    refine lv_aload_n X.1.1 X.1.2.1 dX9_better_18 rfl (lv_at hl 1 rfl) ?_
    refine e_getr X hW (C := RX9) (T := TX9) (N := 35) (j := 10) rfl (by decide) inX9 (by decide) (by decide) rfl (t := 99) rfl rfl mw_3_179 dX9_better_19 ?_
    refine lv_iload_n X.1.1 X.1.2.1 dX9_better_22 rfl (lv_at hl 2 rfl) ?_
    refine lv_iload_n X.1.1 X.1.2.1 dX9_better_23 rfl (lv_at hl 3 rfl) ?_
    refine e_vi (rest := []) (As := [.ref (E.1 99), .int x1, .int x2]) X hl.1 hW hS (C := RX9) (T := TX9) (N := 35) rfl (by decide) (ctfX9_endOf X.2.2.2.2 F 99 x1 x2 ⟨(by decide), rfl⟩ m3) (cwV (rm := rmX9_endOf) 3 X.1.2.2.2.2 (gd_V mw_4_146 mw_4_148 mw_0_25 mw_1_11 mw_4_149) rfl rfl rfl (by decide +kernel) ⟨Nat.le_of_ble_eq_true rfl, Nat.le_of_ble_eq_true rfl⟩) rfl rfl (Nat.le_of_ble_eq_true rfl) dX9_better_24 ⟨Nat.zero_le _, Nat.zero_le _⟩ hf (fun r5 m4 H locs hf hW hS => ?_)
    refine lv_istore (lv' := [(4, .int r5), (3, .int 0), (0, .ref (E.1 89)), (1, .int x1), (2, .int x2)]) X.1.1 X.1.2.1 dX9_better_27 hl (by decide) rfl (fun ls hl => ?_)
    refine lv_iconst (v := 1) X.1.1 X.1.2.1 dX9_better_29 (by decide) ?_
    refine lv_istore (lv' := [(5, .int 1), (4, .int r5), (3, .int 0), (0, .ref (E.1 89)), (1, .int x1), (2, .int x2)]) X.1.1 X.1.2.1 dX9_better_30 hl (by decide) rfl (fun ls hl => ?_)
    exact wfX9_better_32 X  F x1 x2 0 r5 1 m4 H locs ls hf hW hS (lv_sub hl [3, 4, 5, 2, 1, 0] rfl)
  · rw [if_pos c5] at hf
    refine lv_bipush (v := (-2)) X.1.1 X.1.2.1 dX9_better_8 (by decide) ?_
    exact e_iret X hW hS hf dX9_better_10
-- OvenHouseModel.best
def rmX9_best : Room := { frames := 1, cells := 0, slots := 0, locals := 25 }
set_option maxRecDepth 100000 in
set_option maxHeartbeats 4000000 in
theorem ctfX9_best {l : Launch} {E : Gv} (hD : Do E) (F : Nat) (x1 : Int32)  (μ : Mem) : CtI l yX9_best ((Cond.code yX9_best cX9_best 2 (some .int)) :: GG) rmX9_best E [.ref (E.1 89), .int x1] μ (fX9_best F x1 μ) := by
  intro r u hf
  refine of_entry (cc := cX9_best) (maxL := 2) (ret := (some .int)) (by decide +kernel) rfl hD (Nat.le_of_ble_eq_true rfl) (fun p e s m args below meth c X H locs hW hS ls hl => ?_)
  have hl : lv_has ls 2 [(0, .ref (E.1 89)), (1, .int x1)] := hl
  unfold fX9_best at hf
  refine lv_aload_n X.1.1 X.1.2.1 dX9_best_0 rfl (lv_at hl 0 rfl) ?_
  refine e_geti X hW (C := RX9) (T := TX9) (N := 35) (j := 14) rfl (by decide) inX9 (by decide) (by decide) rfl rfl mw_3_183 dX9_best_1 ?_
  refine lv_if_eq (tgt := 32) X.1.1 X.1.2.1 dX9_best_4 (by decide) (fun c4 => ?_) (fun c4 => ?_)
  · rw [if_pos c4] at hf
    refine lv_iconst (v := (-1)) X.1.1 X.1.2.1 dX9_best_32 (by decide) ?_
    exact e_iret X hW hS hf dX9_best_33
  · rw [if_neg c4] at hf
    refine lv_iload_n X.1.1 X.1.2.1 dX9_best_7 rfl (lv_at hl 1 rfl) ?_
    refine lv_i2l X.1.1 X.1.2.1 dX9_best_8 rfl ?_
    refine lv_lconst (v := 0) X.1.1 X.1.2.1 dX9_best_9 (by decide) ?_
    refine lv_aload_n X.1.1 X.1.2.1 dX9_best_10 rfl (lv_at hl 0 rfl) ?_
    refine e_geti X hW (C := RX9) (T := TX9) (N := 35) (j := 12) rfl (by decide) inX9 (by decide) (by decide) rfl rfl mw_3_181 dX9_best_11 ?_
    refine lv_iconst (v := 1) X.1.1 X.1.2.1 dX9_best_14 (by decide) ?_
    refine lv_isub X.1.1 X.1.2.1 dX9_best_15 ?_
    refine lv_i2l X.1.1 X.1.2.1 dX9_best_16 rfl ?_
    refine e_si (rest := []) (As := [.long x1.toInt64, .long 0, .long (((μ 89 12) - 1).toInt64)]) X hl.1 hW hS (ctfX9_in X.2.2.2.2 F x1.toInt64 0 (((μ 89 12) - 1).toInt64) μ) (cwS (rm := rmX9_in) 3 X.1.2.2.2.2 (gd_S mw_4_43 mw_4_44 mw_1_11 mw_4_45) rfl rfl rfl (by decide +kernel) ⟨Nat.le_of_ble_eq_true rfl, Nat.le_of_ble_eq_true rfl⟩) rfl rfl (Nat.le_of_ble_eq_true rfl) dX9_best_17 ⟨Nat.zero_le _, Nat.zero_le _⟩ hf (fun r2 m1 H locs hf hW hS => ?_)
    refine lv_if_eq (tgt := 32) X.1.1 X.1.2.1 dX9_best_20 (by decide) (fun c20 => ?_) (fun c20 => ?_)
    · rw [if_pos c20] at hf
      refine lv_iconst (v := (-1)) X.1.1 X.1.2.1 dX9_best_32 (by decide) ?_
      exact e_iret X hW hS hf dX9_best_33
    · rw [if_neg c20] at hf
      refine lv_aload_n X.1.1 X.1.2.1 dX9_best_23 rfl (lv_at hl 0 rfl) ?_
      refine e_getr X hW (C := RX9) (T := TX9) (N := 35) (j := 13) rfl (by decide) inX9 (by decide) (by decide) rfl (t := 100) rfl rfl mw_3_182 dX9_best_24 ?_
      refine lv_iload_n X.1.1 X.1.2.1 dX9_best_27 rfl (lv_at hl 1 rfl) ?_
      refine e_ild X hW (by decide) rfl dX9_best_28 hf (fun v3 hf => ?_)
      refine lv_goto (tgt := 33) X.1.1 X.1.2.1 dX9_best_29 (by decide) ?_
      exact e_iret X hW hS hf dX9_best_33
