/-! THE CLAIM OUT OF ONE WALK OF THE LAW'S BODY. Your part is whole_start (and what it stands on); all else here is the same for every law, but numbers. -/
def R_law : String := "OvenHouseLaw"
def lw_P (b : Addr) (xs : List Int32) (args : Array Value) (s : State) : Prop := args = #[.ref b] ∧ s.IntsAt b xs ∧ xs.length ≤ 3072 ∧ (Jvm.Cond.and given_1 narrow_1).before args s = true
def lw_Q (_ : Array Value) (s : State) (o : Outcome) (t : State) : Prop := o = .returned (some (.int 1)) ∧ Framed s o t [] 600000 7302250
def lw_Z (below : List Frame) (a : Array Value) (s : State) : State → Prop := fun t => ∃ o, t.status = .running ∧ Ended t below o ∧ lw_Q a s o t
/-- the law's own end, with 1 on the stack, nothing written that was there before, its room as the claim has it -/
theorem lw_ret {p : Program} {l : Launch} {e : Env} {s : State} {m : MethodId} {below : List Frame} {meth : Method} {c : Code} {b : Nat} (hx : p.tables.exec = Jvm.exec) (hb : c.code = code) (hr : meth.sig.returnType = ret) (hlocks : meth.locks = false) {pc : Nat} {H : Heap} {ls : Array Slot} (hdg : decode code pc = .ok (.ireturn, 1)) : W p l e room_1 s m #[Value.ref b] below meth c H [] 600000 7302250 (lw_Z below #[Value.ref b] s) (F0 m pc ls [.int 1]) := by
  intro T hT X
  obtain ⟨fs, hret, hrun, hended, hW, hframe⟩ := X.leave (v := some (.int 1)) (hlocks := hlocks) (fun h => by rw [hr] at h; cases h)
  have hmeth' : T.vm.method? m = some meth := X.method'
  refine ⟨T.setFrames fs, ?_, .returned (some (.int 1)), hrun, hended, rfl, ⟨_, rfl⟩, hW, hframe⟩
  jvm_step X.here [X.here.top, hx, hb, hdg, hmeth', hr, ret, narrow_b1]
  (try refine ⟨rfl, ?_⟩); (try refine ⟨rfl, ?_⟩)
  first | (intro acts; rw [hret _ acts rfl rfl rfl]) | rw [hret _ _ rfl rfl rfl]
  exact Steps.refl _
/-- what holds at the law's entry: the machine, the code, the tables' words (any of lw_tbl by 'hts w (by decide +kernel)'), the script of L ints xs at the cell b, what the Statement gives of the start (any of its parts by flat_of_before) -/
def lw_At (p : Program) (s : State) (m : MethodId) (meth : Method) (c : Code) (b L : Nat) (xs : Nat → Int32) : Prop :=
  p.tables.exec = Jvm.exec ∧ c.code = code ∧ meth.sig.returnType = ret ∧ c.maxLocals = 4 ∧ s.vm.findClass R_law = some m.cls ∧ (∀ w ∈ lw_tbl, w.before #[Value.ref b] s = true) ∧ va_X b L xs s s.heap ∧ b < s.heap.size ∧ meth.locks = false ∧ (Jvm.Cond.and given_1 narrow_1).before #[Value.ref b] s = true
def w0L : Cond := Cond.initialized "OvenHouseLaw"
section LAWR
variable {p : Program} {l : Launch} {e : Env} {s : State} {m : MethodId} {below : List Frame} {meth : Method} {c : Code} {H : Heap} {locs : List Loc} {cells slots : Nat} {Q : State → Prop}
variable {pc : Nat} {ls : Array Slot} {rest : List Value} {E : Gv} {b L : Nat} {xs : Nat → Int32} {H0 : Heap}
theorem e_sld (X : Fx p m c cL_law 4 s #[Value.ref b] w0L "OvenHouseLaw" meth (some .boolean) E) (hX : va_X b L xs s H0) (hbl : b < H0.size) (hbA : ¬ AE E b) (hS : va_S (AE E) H0 H locs) {i : Int32} (hdg : decode cL_law pc = .ok (.iaload, 1)) {α : Type} {f : Int32 → Option α} {o : α} (hf : rs xs L i f = some o)
    (kk : ∀ v : Int32, f v = some o → W p l e room_1 s m #[Value.ref b] below meth c H locs cells slots Q (F0 m (pc + 1) ls (.int v :: rest))) : W p l e room_1 s m #[Value.ref b] below meth c H locs cells slots Q (F0 m pc ls (.int i :: .ref b :: rest)) := by
  unfold rs at hf
  by_cases h : i < 0 ∨ L ≤ i.toNatClampNeg
  · rw [if_pos h] at hf
    cases hf
  · rw [if_neg h] at hf
    exact va_sld X.1.1 X.1.2.1 hX hbl hbA hS h hdg (kk _ hf)
theorem e_law (hx : p.tables.exec = Jvm.exec) (hb : c.code = cL_law) (hr : meth.sig.returnType = some .boolean) (hlk : meth.locks = false) (hA0 : ∀ q, AE E q → s.heap.size ≤ q) (hc0 : cells ≤ 600000) (hs0 : slots ≤ 7302250) (hS : va_S (AE E) H0 H locs) (hdg : decode cL_law pc = .ok (.ireturn, 1)) : W p l e room_1 s m #[Value.ref b] below meth c H locs cells slots (lw_Z below #[Value.ref b] s) (F0 m pc ls [.int 1]) :=
  va_forget (fun q hq => hA0 _ (hS.2.2 q hq)) (W.widen hc0 hs0 (lw_ret hx hb hr hlk hdg))
end LAWR
set_option maxRecDepth 100000 in
set_option maxHeartbeats 40000000 in
theorem wfL_law_b {p : Program} {l : Launch} {e : Env} {s : State} {m : MethodId} {below : List Frame} {meth : Method} {c : Code} {E : Gv} {F : Nat} {xs : Nat → Int32} {L b : Nat} {H0 : Heap} {cells slots : Nat} (X : Fx p m c cL_law 4 s #[Value.ref b] w0L "OvenHouseLaw" meth (some .boolean) E) (hX : va_X b L xs s H0) (hbl : b < H0.size) (hbA : ¬ AE E b) (hA0 : ∀ q, AE E q → s.heap.size ≤ q) (hc0 : cells ≤ 600000) (hs0 : slots ≤ 7302250) (rec18 : Int32 → Mem → Option Unit) (hrec18 : ∀ (y3 : Int32) (μ : Mem) (H : Heap) (locs : List Loc) (ls : Array Slot), rec18 y3 μ = some () → Wo E μ H → va_S (AE E) H0 H locs → lv_has ls 4 [(0, .ref b), (1, .ref (E.1 0)), (2, .ref (E.1 89)), (3, .int y3)] → W p l e room_1 s m #[Value.ref b] below meth c H locs cells slots (lw_Z below #[Value.ref b] s) (F0 m 18 ls [])) (y3 : Int32) (μ : Mem) (H : Heap) (locs : List Loc) (ls : Array Slot) (hf : fL_law_b F xs L rec18 y3 μ = some ()) (hW : Wo E μ H) (hS : va_S (AE E) H0 H locs) (hl : lv_has ls 4 [(0, .ref b), (1, .ref (E.1 0)), (2, .ref (E.1 89)), (3, .int y3)]) : W p l e room_1 s m #[Value.ref b] below meth c H locs cells slots (lw_Z below #[Value.ref b] s) (F0 m 18 ls []) := by
  unfold fL_law_b at hf
  refine lv_iload_n X.1.1 X.1.2.1 dL_law_18 rfl (lv_at hl 3 rfl) ?_
  refine lv_aload_n X.1.1 X.1.2.1 dL_law_19 rfl (lv_at hl 0 rfl) ?_
  refine va_slen X.1.1 X.1.2.1 hX hbl hbA hS dL_law_20 ?_
  refine lv_bipush (v := 6) X.1.1 X.1.2.1 dL_law_21 (by decide) ?_
  refine lv_isub X.1.1 X.1.2.1 dL_law_23 ?_
  refine lv_icmp_gt (tgt := 1082) X.1.1 X.1.2.1 dL_law_24 (by decide) (fun c24 => ?_) (fun c24 => ?_)
  · rw [if_pos c24] at hf
    refine lv_iconst (v := 1) X.1.1 X.1.2.1 dL_law_1082 (by decide) ?_
    exact e_law X.1.1 X.1.2.1 X.2.1 X.2.2.1 hA0 hc0 hs0 hS dL_law_1083
  · rw [if_neg c24] at hf
    refine lv_aload_n X.1.1 X.1.2.1 dL_law_27 rfl (lv_at hl 0 rfl) ?_
    refine lv_iload_n X.1.1 X.1.2.1 dL_law_28 rfl (lv_at hl 3 rfl) ?_
    refine e_sld X hX hbl hbA hS dL_law_29 hf (fun v1 hf => ?_)
    refine lv_bipush (v := 31) X.1.1 X.1.2.1 dL_law_30 (by decide) ?_
    refine lv_iand X.1.1 X.1.2.1 dL_law_32 ?_
    by_cases c33_0 : (v1 &&& 31) = 0
    · rw [if_pos c33_0] at hf
      refine lv_tableIn (off := 139) (tgt := 172) X.1.1 X.1.2.1 dL_law_33 (by rw [c33_0]; decide) (by rw [c33_0]; decide) (by rw [c33_0]; rfl) (by decide) ?_
      refine lv_aload_n X.1.1 X.1.2.1 dL_law_172 rfl (lv_at hl 1 rfl) ?_
      refine lv_aload_n X.1.1 X.1.2.1 dL_law_173 rfl (lv_at hl 0 rfl) ?_
      refine lv_iload_n X.1.1 X.1.2.1 dL_law_174 rfl (lv_at hl 3 rfl) ?_
      refine lv_iconst (v := 1) X.1.1 X.1.2.1 dL_law_175 (by decide) ?_
      refine lv_iadd X.1.1 X.1.2.1 dL_law_176 ?_
      refine e_sld X hX hbl hbA hS dL_law_177 hf (fun v2 hf => ?_)
      refine lv_aload_n X.1.1 X.1.2.1 dL_law_178 rfl (lv_at hl 0 rfl) ?_
      refine lv_iload_n X.1.1 X.1.2.1 dL_law_179 rfl (lv_at hl 3 rfl) ?_
      refine lv_iconst (v := 2) X.1.1 X.1.2.1 dL_law_180 (by decide) ?_
      refine lv_iadd X.1.1 X.1.2.1 dL_law_181 ?_
      refine e_sld X hX hbl hbA hS dL_law_182 hf (fun v3 hf => ?_)
      refine lv_aload_n X.1.1 X.1.2.1 dL_law_183 rfl (lv_at hl 0 rfl) ?_
      refine lv_iload_n X.1.1 X.1.2.1 dL_law_184 rfl (lv_at hl 3 rfl) ?_
      refine lv_iconst (v := 3) X.1.1 X.1.2.1 dL_law_185 (by decide) ?_
      refine lv_iadd X.1.1 X.1.2.1 dL_law_186 ?_
      refine e_sld X hX hbl hbA hS dL_law_187 hf (fun v4 hf => ?_)
      refine e_vi (rest := []) (As := [.int v2, .int v3, .int v4]) X hl.1 hW hS (C := RX8) (T := TX8) (N := 11) rfl (by decide) (ctfX8_sheet X.2.2.2.2 F v2 v3 v4 μ) (cwV (rm := rmX8_sheet) 3 X.1.2.2.2.2 (gd_V mw_2_46 mw_2_47 mw_2_48 mw_1_1 mw_2_49) rfl rfl rfl (by decide +kernel) ⟨Nat.le_of_ble_eq_true rfl, Nat.le_of_ble_eq_true rfl⟩) rfl rfl (Nat.le_of_ble_eq_true rfl) dL_law_188 ⟨hc0, hs0⟩ hf (fun r6 m5 H locs hf hW hS => ?_)
      refine lv_pop X.1.1 X.1.2.1 dL_law_191 rfl ?_
      refine lv_aload_n X.1.1 X.1.2.1 dL_law_192 rfl (lv_at hl 2 rfl) ?_
      refine lv_aload_n X.1.1 X.1.2.1 dL_law_193 rfl (lv_at hl 0 rfl) ?_
      refine lv_iload_n X.1.1 X.1.2.1 dL_law_194 rfl (lv_at hl 3 rfl) ?_
      refine lv_iconst (v := 1) X.1.1 X.1.2.1 dL_law_195 (by decide) ?_
      refine lv_iadd X.1.1 X.1.2.1 dL_law_196 ?_
      refine e_sld X hX hbl hbA hS dL_law_197 hf (fun v7 hf => ?_)
      refine lv_aload_n X.1.1 X.1.2.1 dL_law_198 rfl (lv_at hl 0 rfl) ?_
      refine lv_iload_n X.1.1 X.1.2.1 dL_law_199 rfl (lv_at hl 3 rfl) ?_
      refine lv_iconst (v := 2) X.1.1 X.1.2.1 dL_law_200 (by decide) ?_
      refine lv_iadd X.1.1 X.1.2.1 dL_law_201 ?_
      refine e_sld X hX hbl hbA hS dL_law_202 hf (fun v8 hf => ?_)
      refine lv_aload_n X.1.1 X.1.2.1 dL_law_203 rfl (lv_at hl 0 rfl) ?_
      refine lv_iload_n X.1.1 X.1.2.1 dL_law_204 rfl (lv_at hl 3 rfl) ?_
      refine lv_iconst (v := 3) X.1.1 X.1.2.1 dL_law_205 (by decide) ?_
      refine lv_iadd X.1.1 X.1.2.1 dL_law_206 ?_
      refine e_sld X hX hbl hbA hS dL_law_207 hf (fun v9 hf => ?_)
      refine e_vi (rest := []) (As := [.int v7, .int v8, .int v9]) X hl.1 hW hS (C := RX9) (T := TX9) (N := 35) rfl (by decide) (ctfX9_sheet X.2.2.2.2 F v7 v8 v9 m5) (cwV (rm := rmX9_sheet) 3 X.1.2.2.2.2 (gd_V mw_4_35 mw_4_36 mw_4_37 mw_1_11 mw_4_38) rfl rfl rfl (by decide +kernel) ⟨Nat.le_of_ble_eq_true rfl, Nat.le_of_ble_eq_true rfl⟩) rfl rfl (Nat.le_of_ble_eq_true rfl) dL_law_208 ⟨hc0, hs0⟩ hf (fun r11 m10 H locs hf hW hS => ?_)
      refine lv_pop X.1.1 X.1.2.1 dL_law_211 rfl ?_
      refine lv_goto (tgt := 1076) X.1.1 X.1.2.1 dL_law_212 (by decide) ?_
      refine lv_iinc (v := (y3 + 6)) (lv' := [(3, .int (y3 + 6)), (0, .ref b), (1, .ref (E.1 0)), (2, .ref (E.1 89))]) X.1.1 X.1.2.1 dL_law_1076 hl (k := 3) rfl rfl (by decide) rfl (fun ls hl => ?_)
      refine lv_goto (tgt := 18) X.1.1 X.1.2.1 dL_law_1079 (by decide) ?_
      exact hrec18 (y3 + 6) m10 H locs ls hf hW hS (lv_sub hl [1, 2, 3, 0] rfl)
    · rw [if_neg c33_0] at hf
      by_cases c33_1 : (v1 &&& 31) = 1
      · rw [if_pos c33_1] at hf
        refine lv_tableIn (off := 182) (tgt := 215) X.1.1 X.1.2.1 dL_law_33 (by rw [c33_1]; decide) (by rw [c33_1]; decide) (by rw [c33_1]; rfl) (by decide) ?_
        refine lv_aload_n X.1.1 X.1.2.1 dL_law_215 rfl (lv_at hl 1 rfl) ?_
        refine lv_aload_n X.1.1 X.1.2.1 dL_law_216 rfl (lv_at hl 0 rfl) ?_
        refine lv_iload_n X.1.1 X.1.2.1 dL_law_217 rfl (lv_at hl 3 rfl) ?_
        refine lv_iconst (v := 1) X.1.1 X.1.2.1 dL_law_218 (by decide) ?_
        refine lv_iadd X.1.1 X.1.2.1 dL_law_219 ?_
        refine e_sld X hX hbl hbA hS dL_law_220 hf (fun v12 hf => ?_)
        refine e_vi (rest := []) (As := [.int v12]) X hl.1 hW hS (C := RX8) (T := TX8) (N := 11) rfl (by decide) (ctfX8_lose X.2.2.2.2 F v12 μ) (cwV (rm := rmX8_lose) 1 X.1.2.2.2.2 (gd_V mw_2_64 mw_2_65 mw_2_66 mw_1_1 mw_2_67) rfl rfl rfl (by decide +kernel) ⟨Nat.le_of_ble_eq_true rfl, Nat.le_of_ble_eq_true rfl⟩) rfl rfl (Nat.le_of_ble_eq_true rfl) dL_law_221 ⟨hc0, hs0⟩ hf (fun r14 m13 H locs hf hW hS => ?_)
        refine lv_pop X.1.1 X.1.2.1 dL_law_224 rfl ?_
        refine lv_aload_n X.1.1 X.1.2.1 dL_law_225 rfl (lv_at hl 2 rfl) ?_
        refine lv_aload_n X.1.1 X.1.2.1 dL_law_226 rfl (lv_at hl 0 rfl) ?_
        refine lv_iload_n X.1.1 X.1.2.1 dL_law_227 rfl (lv_at hl 3 rfl) ?_
        refine lv_iconst (v := 1) X.1.1 X.1.2.1 dL_law_228 (by decide) ?_
        refine lv_iadd X.1.1 X.1.2.1 dL_law_229 ?_
        refine e_sld X hX hbl hbA hS dL_law_230 hf (fun v15 hf => ?_)
        refine e_vi (rest := []) (As := [.int v15]) X hl.1 hW hS (C := RX9) (T := TX9) (N := 35) rfl (by decide) (ctfX9_lose X.2.2.2.2 F v15 m13) (cwV (rm := rmX9_lose) 1 X.1.2.2.2.2 (gd_V mw_4_51 mw_4_52 mw_4_53 mw_1_11 mw_4_54) rfl rfl rfl (by decide +kernel) ⟨Nat.le_of_ble_eq_true rfl, Nat.le_of_ble_eq_true rfl⟩) rfl rfl (Nat.le_of_ble_eq_true rfl) dL_law_231 ⟨hc0, hs0⟩ hf (fun r17 m16 H locs hf hW hS => ?_)
        refine lv_pop X.1.1 X.1.2.1 dL_law_234 rfl ?_
        refine lv_goto (tgt := 1076) X.1.1 X.1.2.1 dL_law_235 (by decide) ?_
        refine lv_iinc (v := (y3 + 6)) (lv' := [(3, .int (y3 + 6)), (0, .ref b), (1, .ref (E.1 0)), (2, .ref (E.1 89))]) X.1.1 X.1.2.1 dL_law_1076 hl (k := 3) rfl rfl (by decide) rfl (fun ls hl => ?_)
        refine lv_goto (tgt := 18) X.1.1 X.1.2.1 dL_law_1079 (by decide) ?_
        exact hrec18 (y3 + 6) m16 H locs ls hf hW hS (lv_sub hl [1, 2, 3, 0] rfl)
      · rw [if_neg c33_1] at hf
        by_cases c33_2 : (v1 &&& 31) = 2
        · rw [if_pos c33_2] at hf
          refine lv_tableIn (off := 205) (tgt := 238) X.1.1 X.1.2.1 dL_law_33 (by rw [c33_2]; decide) (by rw [c33_2]; decide) (by rw [c33_2]; rfl) (by decide) ?_
          refine lv_aload_n X.1.1 X.1.2.1 dL_law_238 rfl (lv_at hl 1 rfl) ?_
          refine lv_aload_n X.1.1 X.1.2.1 dL_law_239 rfl (lv_at hl 0 rfl) ?_
          refine lv_iload_n X.1.1 X.1.2.1 dL_law_240 rfl (lv_at hl 3 rfl) ?_
          refine lv_iconst (v := 1) X.1.1 X.1.2.1 dL_law_241 (by decide) ?_
          refine lv_iadd X.1.1 X.1.2.1 dL_law_242 ?_
          refine e_sld X hX hbl hbA hS dL_law_243 hf (fun v18 hf => ?_)
          refine lv_aload_n X.1.1 X.1.2.1 dL_law_244 rfl (lv_at hl 0 rfl) ?_
          refine lv_iload_n X.1.1 X.1.2.1 dL_law_245 rfl (lv_at hl 3 rfl) ?_
          refine lv_iconst (v := 2) X.1.1 X.1.2.1 dL_law_246 (by decide) ?_
          refine lv_iadd X.1.1 X.1.2.1 dL_law_247 ?_
          refine e_sld X hX hbl hbA hS dL_law_248 hf (fun v19 hf => ?_)
          refine lv_aload_n X.1.1 X.1.2.1 dL_law_249 rfl (lv_at hl 0 rfl) ?_
          refine lv_iload_n X.1.1 X.1.2.1 dL_law_250 rfl (lv_at hl 3 rfl) ?_
          refine lv_iconst (v := 3) X.1.1 X.1.2.1 dL_law_251 (by decide) ?_
          refine lv_iadd X.1.1 X.1.2.1 dL_law_252 ?_
          refine e_sld X hX hbl hbA hS dL_law_253 hf (fun v20 hf => ?_)
          refine lv_aload_n X.1.1 X.1.2.1 dL_law_254 rfl (lv_at hl 0 rfl) ?_
          refine lv_iload_n X.1.1 X.1.2.1 dL_law_255 rfl (lv_at hl 3 rfl) ?_
          refine lv_iconst (v := 4) X.1.1 X.1.2.1 dL_law_256 (by decide) ?_
          refine lv_iadd X.1.1 X.1.2.1 dL_law_257 ?_
          refine e_sld X hX hbl hbA hS dL_law_258 hf (fun v21 hf => ?_)
          refine e_vi (rest := []) (As := [.int v18, .int v19, .int v20, .int v21]) X hl.1 hW hS (C := RX8) (T := TX8) (N := 11) rfl (by decide) (ctfX8_put X.2.2.2.2 F v18 v19 v20 v21 μ) (cwV (rm := rmX8_put) 4 X.1.2.2.2.2 (gd_V mw_2_72 mw_2_73 mw_2_74 mw_1_1 mw_2_75) rfl rfl rfl (by decide +kernel) ⟨Nat.le_of_ble_eq_true rfl, Nat.le_of_ble_eq_true rfl⟩) rfl rfl (Nat.le_of_ble_eq_true rfl) dL_law_259 ⟨hc0, hs0⟩ hf (fun r23 m22 H locs hf hW hS => ?_)
          refine lv_pop X.1.1 X.1.2.1 dL_law_262 rfl ?_
          refine lv_aload_n X.1.1 X.1.2.1 dL_law_263 rfl (lv_at hl 2 rfl) ?_
          refine lv_aload_n X.1.1 X.1.2.1 dL_law_264 rfl (lv_at hl 0 rfl) ?_
          refine lv_iload_n X.1.1 X.1.2.1 dL_law_265 rfl (lv_at hl 3 rfl) ?_
          refine lv_iconst (v := 1) X.1.1 X.1.2.1 dL_law_266 (by decide) ?_
          refine lv_iadd X.1.1 X.1.2.1 dL_law_267 ?_
          refine e_sld X hX hbl hbA hS dL_law_268 hf (fun v24 hf => ?_)
          refine lv_aload_n X.1.1 X.1.2.1 dL_law_269 rfl (lv_at hl 0 rfl) ?_
          refine lv_iload_n X.1.1 X.1.2.1 dL_law_270 rfl (lv_at hl 3 rfl) ?_
          refine lv_iconst (v := 2) X.1.1 X.1.2.1 dL_law_271 (by decide) ?_
          refine lv_iadd X.1.1 X.1.2.1 dL_law_272 ?_
          refine e_sld X hX hbl hbA hS dL_law_273 hf (fun v25 hf => ?_)
          refine lv_aload_n X.1.1 X.1.2.1 dL_law_274 rfl (lv_at hl 0 rfl) ?_
          refine lv_iload_n X.1.1 X.1.2.1 dL_law_275 rfl (lv_at hl 3 rfl) ?_
          refine lv_iconst (v := 3) X.1.1 X.1.2.1 dL_law_276 (by decide) ?_
          refine lv_iadd X.1.1 X.1.2.1 dL_law_277 ?_
          refine e_sld X hX hbl hbA hS dL_law_278 hf (fun v26 hf => ?_)
          refine lv_aload_n X.1.1 X.1.2.1 dL_law_279 rfl (lv_at hl 0 rfl) ?_
          refine lv_iload_n X.1.1 X.1.2.1 dL_law_280 rfl (lv_at hl 3 rfl) ?_
          refine lv_iconst (v := 4) X.1.1 X.1.2.1 dL_law_281 (by decide) ?_
          refine lv_iadd X.1.1 X.1.2.1 dL_law_282 ?_
          refine e_sld X hX hbl hbA hS dL_law_283 hf (fun v27 hf => ?_)
          refine e_vi (rest := []) (As := [.int v24, .int v25, .int v26, .int v27]) X hl.1 hW hS (C := RX9) (T := TX9) (N := 35) rfl (by decide) (ctfX9_put X.2.2.2.2 F v24 v25 v26 v27 m22) (cwV (rm := rmX9_put) 4 X.1.2.2.2.2 (gd_V mw_4_55 mw_4_56 mw_4_57 mw_1_11 mw_4_58) rfl rfl rfl (by decide +kernel) ⟨Nat.le_of_ble_eq_true rfl, Nat.le_of_ble_eq_true rfl⟩) rfl rfl (Nat.le_of_ble_eq_true rfl) dL_law_284 ⟨hc0, hs0⟩ hf (fun r29 m28 H locs hf hW hS => ?_)
          refine lv_pop X.1.1 X.1.2.1 dL_law_287 rfl ?_
          refine lv_goto (tgt := 1076) X.1.1 X.1.2.1 dL_law_288 (by decide) ?_
          refine lv_iinc (v := (y3 + 6)) (lv' := [(3, .int (y3 + 6)), (0, .ref b), (1, .ref (E.1 0)), (2, .ref (E.1 89))]) X.1.1 X.1.2.1 dL_law_1076 hl (k := 3) rfl rfl (by decide) rfl (fun ls hl => ?_)
          refine lv_goto (tgt := 18) X.1.1 X.1.2.1 dL_law_1079 (by decide) ?_
          exact hrec18 (y3 + 6) m28 H locs ls hf hW hS (lv_sub hl [1, 2, 3, 0] rfl)
        · rw [if_neg c33_2] at hf
          by_cases c33_3 : (v1 &&& 31) = 3
          · rw [if_pos c33_3] at hf
            refine lv_tableIn (off := 258) (tgt := 291) X.1.1 X.1.2.1 dL_law_33 (by rw [c33_3]; decide) (by rw [c33_3]; decide) (by rw [c33_3]; rfl) (by decide) ?_
            refine lv_aload_n X.1.1 X.1.2.1 dL_law_291 rfl (lv_at hl 1 rfl) ?_
            refine lv_aload_n X.1.1 X.1.2.1 dL_law_292 rfl (lv_at hl 0 rfl) ?_
            refine lv_iload_n X.1.1 X.1.2.1 dL_law_293 rfl (lv_at hl 3 rfl) ?_
            refine lv_iconst (v := 1) X.1.1 X.1.2.1 dL_law_294 (by decide) ?_
            refine lv_iadd X.1.1 X.1.2.1 dL_law_295 ?_
            refine e_sld X hX hbl hbA hS dL_law_296 hf (fun v30 hf => ?_)
            refine lv_aload_n X.1.1 X.1.2.1 dL_law_297 rfl (lv_at hl 0 rfl) ?_
            refine lv_iload_n X.1.1 X.1.2.1 dL_law_298 rfl (lv_at hl 3 rfl) ?_
            refine lv_iconst (v := 2) X.1.1 X.1.2.1 dL_law_299 (by decide) ?_
            refine lv_iadd X.1.1 X.1.2.1 dL_law_300 ?_
            refine e_sld X hX hbl hbA hS dL_law_301 hf (fun v31 hf => ?_)
            refine lv_aload_n X.1.1 X.1.2.1 dL_law_302 rfl (lv_at hl 0 rfl) ?_
            refine lv_iload_n X.1.1 X.1.2.1 dL_law_303 rfl (lv_at hl 3 rfl) ?_
            refine lv_iconst (v := 3) X.1.1 X.1.2.1 dL_law_304 (by decide) ?_
            refine lv_iadd X.1.1 X.1.2.1 dL_law_305 ?_
            refine e_sld X hX hbl hbA hS dL_law_306 hf (fun v32 hf => ?_)
            refine e_vi (rest := []) (As := [.int v30, .int v31, .int v32]) X hl.1 hW hS (C := RX8) (T := TX8) (N := 11) rfl (by decide) (ctfX8_get X.2.2.2.2 F v30 v31 v32 μ) (cwV (rm := rmX8_get) 3 X.1.2.2.2.2 (gd_V mw_2_88 mw_2_89 mw_2_90 mw_1_1 mw_2_91) rfl rfl rfl (by decide +kernel) ⟨Nat.le_of_ble_eq_true rfl, Nat.le_of_ble_eq_true rfl⟩) rfl rfl (Nat.le_of_ble_eq_true rfl) dL_law_307 ⟨hc0, hs0⟩ hf (fun r34 m33 H locs hf hW hS => ?_)
            refine lv_pop X.1.1 X.1.2.1 dL_law_310 rfl ?_
            refine lv_aload_n X.1.1 X.1.2.1 dL_law_311 rfl (lv_at hl 2 rfl) ?_
            refine lv_aload_n X.1.1 X.1.2.1 dL_law_312 rfl (lv_at hl 0 rfl) ?_
            refine lv_iload_n X.1.1 X.1.2.1 dL_law_313 rfl (lv_at hl 3 rfl) ?_
            refine lv_iconst (v := 1) X.1.1 X.1.2.1 dL_law_314 (by decide) ?_
            refine lv_iadd X.1.1 X.1.2.1 dL_law_315 ?_
            refine e_sld X hX hbl hbA hS dL_law_316 hf (fun v35 hf => ?_)
            refine lv_aload_n X.1.1 X.1.2.1 dL_law_317 rfl (lv_at hl 0 rfl) ?_
            refine lv_iload_n X.1.1 X.1.2.1 dL_law_318 rfl (lv_at hl 3 rfl) ?_
            refine lv_iconst (v := 2) X.1.1 X.1.2.1 dL_law_319 (by decide) ?_
            refine lv_iadd X.1.1 X.1.2.1 dL_law_320 ?_
            refine e_sld X hX hbl hbA hS dL_law_321 hf (fun v36 hf => ?_)
            refine lv_aload_n X.1.1 X.1.2.1 dL_law_322 rfl (lv_at hl 0 rfl) ?_
            refine lv_iload_n X.1.1 X.1.2.1 dL_law_323 rfl (lv_at hl 3 rfl) ?_
            refine lv_iconst (v := 3) X.1.1 X.1.2.1 dL_law_324 (by decide) ?_
            refine lv_iadd X.1.1 X.1.2.1 dL_law_325 ?_
            refine e_sld X hX hbl hbA hS dL_law_326 hf (fun v37 hf => ?_)
            refine e_vi (rest := []) (As := [.int v35, .int v36, .int v37]) X hl.1 hW hS (C := RX9) (T := TX9) (N := 35) rfl (by decide) (ctfX9_get X.2.2.2.2 F v35 v36 v37 m33) (cwV (rm := rmX9_get) 3 X.1.2.2.2.2 (gd_V mw_4_63 mw_4_64 mw_4_65 mw_1_11 mw_4_66) rfl rfl rfl (by decide +kernel) ⟨Nat.le_of_ble_eq_true rfl, Nat.le_of_ble_eq_true rfl⟩) rfl rfl (Nat.le_of_ble_eq_true rfl) dL_law_327 ⟨hc0, hs0⟩ hf (fun r39 m38 H locs hf hW hS => ?_)
            refine lv_pop X.1.1 X.1.2.1 dL_law_330 rfl ?_
            refine lv_goto (tgt := 1076) X.1.1 X.1.2.1 dL_law_331 (by decide) ?_
            refine lv_iinc (v := (y3 + 6)) (lv' := [(3, .int (y3 + 6)), (0, .ref b), (1, .ref (E.1 0)), (2, .ref (E.1 89))]) X.1.1 X.1.2.1 dL_law_1076 hl (k := 3) rfl rfl (by decide) rfl (fun ls hl => ?_)
            refine lv_goto (tgt := 18) X.1.1 X.1.2.1 dL_law_1079 (by decide) ?_
            exact hrec18 (y3 + 6) m38 H locs ls hf hW hS (lv_sub hl [1, 2, 3, 0] rfl)
          · rw [if_neg c33_3] at hf
            by_cases c33_4 : (v1 &&& 31) = 4
            · rw [if_pos c33_4] at hf
              refine lv_tableIn (off := 301) (tgt := 334) X.1.1 X.1.2.1 dL_law_33 (by rw [c33_4]; decide) (by rw [c33_4]; decide) (by rw [c33_4]; rfl) (by decide) ?_
              refine lv_aload_n X.1.1 X.1.2.1 dL_law_334 rfl (lv_at hl 1 rfl) ?_
              refine lv_aload_n X.1.1 X.1.2.1 dL_law_335 rfl (lv_at hl 0 rfl) ?_
              refine lv_iload_n X.1.1 X.1.2.1 dL_law_336 rfl (lv_at hl 3 rfl) ?_
              refine lv_iconst (v := 1) X.1.1 X.1.2.1 dL_law_337 (by decide) ?_
              refine lv_iadd X.1.1 X.1.2.1 dL_law_338 ?_
              refine e_sld X hX hbl hbA hS dL_law_339 hf (fun v40 hf => ?_)
              refine lv_aload_n X.1.1 X.1.2.1 dL_law_340 rfl (lv_at hl 0 rfl) ?_
              refine lv_iload_n X.1.1 X.1.2.1 dL_law_341 rfl (lv_at hl 3 rfl) ?_
              refine lv_iconst (v := 2) X.1.1 X.1.2.1 dL_law_342 (by decide) ?_
              refine lv_iadd X.1.1 X.1.2.1 dL_law_343 ?_
              refine e_sld X hX hbl hbA hS dL_law_344 hf (fun v41 hf => ?_)
              refine lv_aload_n X.1.1 X.1.2.1 dL_law_345 rfl (lv_at hl 0 rfl) ?_
              refine lv_iload_n X.1.1 X.1.2.1 dL_law_346 rfl (lv_at hl 3 rfl) ?_
              refine lv_iconst (v := 3) X.1.1 X.1.2.1 dL_law_347 (by decide) ?_
              refine lv_iadd X.1.1 X.1.2.1 dL_law_348 ?_
              refine e_sld X hX hbl hbA hS dL_law_349 hf (fun v42 hf => ?_)
              refine lv_aload_n X.1.1 X.1.2.1 dL_law_350 rfl (lv_at hl 0 rfl) ?_
              refine lv_iload_n X.1.1 X.1.2.1 dL_law_351 rfl (lv_at hl 3 rfl) ?_
              refine lv_iconst (v := 4) X.1.1 X.1.2.1 dL_law_352 (by decide) ?_
              refine lv_iadd X.1.1 X.1.2.1 dL_law_353 ?_
              refine e_sld X hX hbl hbA hS dL_law_354 hf (fun v43 hf => ?_)
              refine lv_aload_n X.1.1 X.1.2.1 dL_law_355 rfl (lv_at hl 0 rfl) ?_
              refine lv_iload_n X.1.1 X.1.2.1 dL_law_356 rfl (lv_at hl 3 rfl) ?_
              refine lv_iconst (v := 5) X.1.1 X.1.2.1 dL_law_357 (by decide) ?_
              refine lv_iadd X.1.1 X.1.2.1 dL_law_358 ?_
              refine e_sld X hX hbl hbA hS dL_law_359 hf (fun v44 hf => ?_)
              refine e_vi (rest := []) (As := [.int v40, .int v41, .int v42, .int v43, .int v44]) X hl.1 hW hS (C := RX8) (T := TX8) (N := 11) rfl (by decide) (ctfX8_copy X.2.2.2.2 F v40 v41 v42 v43 v44 μ) (cwV (rm := rmX8_copy) 5 X.1.2.2.2.2 (gd_V mw_2_93 mw_2_94 mw_2_95 mw_1_1 mw_2_96) rfl rfl rfl (by decide +kernel) ⟨Nat.le_of_ble_eq_true rfl, Nat.le_of_ble_eq_true rfl⟩) rfl rfl (Nat.le_of_ble_eq_true rfl) dL_law_360 ⟨hc0, hs0⟩ hf (fun r46 m45 H locs hf hW hS => ?_)
              refine lv_pop X.1.1 X.1.2.1 dL_law_363 rfl ?_
              refine lv_aload_n X.1.1 X.1.2.1 dL_law_364 rfl (lv_at hl 2 rfl) ?_
              refine lv_aload_n X.1.1 X.1.2.1 dL_law_365 rfl (lv_at hl 0 rfl) ?_
              refine lv_iload_n X.1.1 X.1.2.1 dL_law_366 rfl (lv_at hl 3 rfl) ?_
              refine lv_iconst (v := 1) X.1.1 X.1.2.1 dL_law_367 (by decide) ?_
              refine lv_iadd X.1.1 X.1.2.1 dL_law_368 ?_
              refine e_sld X hX hbl hbA hS dL_law_369 hf (fun v47 hf => ?_)
              refine lv_aload_n X.1.1 X.1.2.1 dL_law_370 rfl (lv_at hl 0 rfl) ?_
              refine lv_iload_n X.1.1 X.1.2.1 dL_law_371 rfl (lv_at hl 3 rfl) ?_
              refine lv_iconst (v := 2) X.1.1 X.1.2.1 dL_law_372 (by decide) ?_
              refine lv_iadd X.1.1 X.1.2.1 dL_law_373 ?_
              refine e_sld X hX hbl hbA hS dL_law_374 hf (fun v48 hf => ?_)
              refine lv_aload_n X.1.1 X.1.2.1 dL_law_375 rfl (lv_at hl 0 rfl) ?_
              refine lv_iload_n X.1.1 X.1.2.1 dL_law_376 rfl (lv_at hl 3 rfl) ?_
              refine lv_iconst (v := 3) X.1.1 X.1.2.1 dL_law_377 (by decide) ?_
              refine lv_iadd X.1.1 X.1.2.1 dL_law_378 ?_
              refine e_sld X hX hbl hbA hS dL_law_379 hf (fun v49 hf => ?_)
              refine lv_aload_n X.1.1 X.1.2.1 dL_law_380 rfl (lv_at hl 0 rfl) ?_
              refine lv_iload_n X.1.1 X.1.2.1 dL_law_381 rfl (lv_at hl 3 rfl) ?_
              refine lv_iconst (v := 4) X.1.1 X.1.2.1 dL_law_382 (by decide) ?_
              refine lv_iadd X.1.1 X.1.2.1 dL_law_383 ?_
              refine e_sld X hX hbl hbA hS dL_law_384 hf (fun v50 hf => ?_)
              refine lv_aload_n X.1.1 X.1.2.1 dL_law_385 rfl (lv_at hl 0 rfl) ?_
              refine lv_iload_n X.1.1 X.1.2.1 dL_law_386 rfl (lv_at hl 3 rfl) ?_
              refine lv_iconst (v := 5) X.1.1 X.1.2.1 dL_law_387 (by decide) ?_
              refine lv_iadd X.1.1 X.1.2.1 dL_law_388 ?_
              refine e_sld X hX hbl hbA hS dL_law_389 hf (fun v51 hf => ?_)
              refine e_vi (rest := []) (As := [.int v47, .int v48, .int v49, .int v50, .int v51]) X hl.1 hW hS (C := RX9) (T := TX9) (N := 35) rfl (by decide) (ctfX9_copy X.2.2.2.2 F v47 v48 v49 v50 v51 m45) (cwV (rm := rmX9_copy) 5 X.1.2.2.2.2 (gd_V mw_4_68 mw_4_69 mw_4_70 mw_1_11 mw_4_71) rfl rfl rfl (by decide +kernel) ⟨Nat.le_of_ble_eq_true rfl, Nat.le_of_ble_eq_true rfl⟩) rfl rfl (Nat.le_of_ble_eq_true rfl) dL_law_390 ⟨hc0, hs0⟩ hf (fun r53 m52 H locs hf hW hS => ?_)
              refine lv_pop X.1.1 X.1.2.1 dL_law_393 rfl ?_
              refine lv_goto (tgt := 1076) X.1.1 X.1.2.1 dL_law_394 (by decide) ?_
              refine lv_iinc (v := (y3 + 6)) (lv' := [(3, .int (y3 + 6)), (0, .ref b), (1, .ref (E.1 0)), (2, .ref (E.1 89))]) X.1.1 X.1.2.1 dL_law_1076 hl (k := 3) rfl rfl (by decide) rfl (fun ls hl => ?_)
              refine lv_goto (tgt := 18) X.1.1 X.1.2.1 dL_law_1079 (by decide) ?_
              exact hrec18 (y3 + 6) m52 H locs ls hf hW hS (lv_sub hl [1, 2, 3, 0] rfl)
            · rw [if_neg c33_4] at hf
              by_cases c33_5 : (v1 &&& 31) = 5
              · rw [if_pos c33_5] at hf
                refine lv_tableIn (off := 364) (tgt := 397) X.1.1 X.1.2.1 dL_law_33 (by rw [c33_5]; decide) (by rw [c33_5]; decide) (by rw [c33_5]; rfl) (by decide) ?_
                refine lv_aload_n X.1.1 X.1.2.1 dL_law_397 rfl (lv_at hl 1 rfl) ?_
                refine lv_aload_n X.1.1 X.1.2.1 dL_law_398 rfl (lv_at hl 0 rfl) ?_
                refine lv_iload_n X.1.1 X.1.2.1 dL_law_399 rfl (lv_at hl 3 rfl) ?_
                refine lv_iconst (v := 1) X.1.1 X.1.2.1 dL_law_400 (by decide) ?_
                refine lv_iadd X.1.1 X.1.2.1 dL_law_401 ?_
                refine e_sld X hX hbl hbA hS dL_law_402 hf (fun v54 hf => ?_)
                refine lv_aload_n X.1.1 X.1.2.1 dL_law_403 rfl (lv_at hl 0 rfl) ?_
                refine lv_iload_n X.1.1 X.1.2.1 dL_law_404 rfl (lv_at hl 3 rfl) ?_
                refine lv_iconst (v := 2) X.1.1 X.1.2.1 dL_law_405 (by decide) ?_
                refine lv_iadd X.1.1 X.1.2.1 dL_law_406 ?_
                refine e_sld X hX hbl hbA hS dL_law_407 hf (fun v55 hf => ?_)
                refine lv_aload_n X.1.1 X.1.2.1 dL_law_408 rfl (lv_at hl 0 rfl) ?_
                refine lv_iload_n X.1.1 X.1.2.1 dL_law_409 rfl (lv_at hl 3 rfl) ?_
                refine lv_iconst (v := 3) X.1.1 X.1.2.1 dL_law_410 (by decide) ?_
                refine lv_iadd X.1.1 X.1.2.1 dL_law_411 ?_
                refine e_sld X hX hbl hbA hS dL_law_412 hf (fun v56 hf => ?_)
                refine e_vi (rest := []) (As := [.int v54, .int v55, .int v56]) X hl.1 hW hS (C := RX8) (T := TX8) (N := 11) rfl (by decide) (ctfX8_take X.2.2.2.2 F v54 v55 v56 μ) (cwV (rm := rmX8_take) 3 X.1.2.2.2.2 (gd_V mw_2_101 mw_2_102 mw_2_103 mw_1_1 mw_2_104) rfl rfl rfl (by decide +kernel) ⟨Nat.le_of_ble_eq_true rfl, Nat.le_of_ble_eq_true rfl⟩) rfl rfl (Nat.le_of_ble_eq_true rfl) dL_law_413 ⟨hc0, hs0⟩ hf (fun r58 m57 H locs hf hW hS => ?_)
                refine lv_pop X.1.1 X.1.2.1 dL_law_416 rfl ?_
                refine lv_aload_n X.1.1 X.1.2.1 dL_law_417 rfl (lv_at hl 2 rfl) ?_
                refine lv_aload_n X.1.1 X.1.2.1 dL_law_418 rfl (lv_at hl 0 rfl) ?_
                refine lv_iload_n X.1.1 X.1.2.1 dL_law_419 rfl (lv_at hl 3 rfl) ?_
                refine lv_iconst (v := 1) X.1.1 X.1.2.1 dL_law_420 (by decide) ?_
                refine lv_iadd X.1.1 X.1.2.1 dL_law_421 ?_
                refine e_sld X hX hbl hbA hS dL_law_422 hf (fun v59 hf => ?_)
                refine lv_aload_n X.1.1 X.1.2.1 dL_law_423 rfl (lv_at hl 0 rfl) ?_
                refine lv_iload_n X.1.1 X.1.2.1 dL_law_424 rfl (lv_at hl 3 rfl) ?_
                refine lv_iconst (v := 2) X.1.1 X.1.2.1 dL_law_425 (by decide) ?_
                refine lv_iadd X.1.1 X.1.2.1 dL_law_426 ?_
                refine e_sld X hX hbl hbA hS dL_law_427 hf (fun v60 hf => ?_)
                refine lv_aload_n X.1.1 X.1.2.1 dL_law_428 rfl (lv_at hl 0 rfl) ?_
                refine lv_iload_n X.1.1 X.1.2.1 dL_law_429 rfl (lv_at hl 3 rfl) ?_
                refine lv_iconst (v := 3) X.1.1 X.1.2.1 dL_law_430 (by decide) ?_
                refine lv_iadd X.1.1 X.1.2.1 dL_law_431 ?_
                refine e_sld X hX hbl hbA hS dL_law_432 hf (fun v61 hf => ?_)
                refine e_vi (rest := []) (As := [.int v59, .int v60, .int v61]) X hl.1 hW hS (C := RX9) (T := TX9) (N := 35) rfl (by decide) (ctfX9_take X.2.2.2.2 F v59 v60 v61 m57) (cwV (rm := rmX9_take) 3 X.1.2.2.2.2 (gd_V mw_4_80 mw_4_81 mw_4_82 mw_1_11 mw_4_83) rfl rfl rfl (by decide +kernel) ⟨Nat.le_of_ble_eq_true rfl, Nat.le_of_ble_eq_true rfl⟩) rfl rfl (Nat.le_of_ble_eq_true rfl) dL_law_433 ⟨hc0, hs0⟩ hf (fun r63 m62 H locs hf hW hS => ?_)
                refine lv_pop X.1.1 X.1.2.1 dL_law_436 rfl ?_
                refine lv_goto (tgt := 1076) X.1.1 X.1.2.1 dL_law_437 (by decide) ?_
                refine lv_iinc (v := (y3 + 6)) (lv' := [(3, .int (y3 + 6)), (0, .ref b), (1, .ref (E.1 0)), (2, .ref (E.1 89))]) X.1.1 X.1.2.1 dL_law_1076 hl (k := 3) rfl rfl (by decide) rfl (fun ls hl => ?_)
                refine lv_goto (tgt := 18) X.1.1 X.1.2.1 dL_law_1079 (by decide) ?_
                exact hrec18 (y3 + 6) m62 H locs ls hf hW hS (lv_sub hl [1, 2, 3, 0] rfl)
              · rw [if_neg c33_5] at hf
                by_cases c33_6 : (v1 &&& 31) = 6
                · rw [if_pos c33_6] at hf
                  refine lv_tableIn (off := 407) (tgt := 440) X.1.1 X.1.2.1 dL_law_33 (by rw [c33_6]; decide) (by rw [c33_6]; decide) (by rw [c33_6]; rfl) (by decide) ?_
                  refine lv_aload_n X.1.1 X.1.2.1 dL_law_440 rfl (lv_at hl 1 rfl) ?_
                  refine lv_aload_n X.1.1 X.1.2.1 dL_law_441 rfl (lv_at hl 0 rfl) ?_
                  refine lv_iload_n X.1.1 X.1.2.1 dL_law_442 rfl (lv_at hl 3 rfl) ?_
                  refine lv_iconst (v := 1) X.1.1 X.1.2.1 dL_law_443 (by decide) ?_
                  refine lv_iadd X.1.1 X.1.2.1 dL_law_444 ?_
                  refine e_sld X hX hbl hbA hS dL_law_445 hf (fun v64 hf => ?_)
                  refine lv_aload_n X.1.1 X.1.2.1 dL_law_446 rfl (lv_at hl 0 rfl) ?_
                  refine lv_iload_n X.1.1 X.1.2.1 dL_law_447 rfl (lv_at hl 3 rfl) ?_
                  refine lv_iconst (v := 2) X.1.1 X.1.2.1 dL_law_448 (by decide) ?_
                  refine lv_iadd X.1.1 X.1.2.1 dL_law_449 ?_
                  refine e_sld X hX hbl hbA hS dL_law_450 hf (fun v65 hf => ?_)
                  refine e_vi (rest := []) (As := [.int v64, .int v65]) X hl.1 hW hS (C := RX8) (T := TX8) (N := 11) rfl (by decide) (ctfX8_loaf X.2.2.2.2 F v64 v65 μ) (cwV (rm := rmX8_loaf) 2 X.1.2.2.2.2 (gd_V mw_2_128 mw_2_129 mw_2_130 mw_1_1 mw_2_131) rfl rfl rfl (by decide +kernel) ⟨Nat.le_of_ble_eq_true rfl, Nat.le_of_ble_eq_true rfl⟩) rfl rfl (Nat.le_of_ble_eq_true rfl) dL_law_451 ⟨hc0, hs0⟩ hf (fun r67 m66 H locs hf hW hS => ?_)
                  refine lv_pop X.1.1 X.1.2.1 dL_law_454 rfl ?_
                  refine lv_aload_n X.1.1 X.1.2.1 dL_law_455 rfl (lv_at hl 2 rfl) ?_
                  refine lv_aload_n X.1.1 X.1.2.1 dL_law_456 rfl (lv_at hl 0 rfl) ?_
                  refine lv_iload_n X.1.1 X.1.2.1 dL_law_457 rfl (lv_at hl 3 rfl) ?_
                  refine lv_iconst (v := 1) X.1.1 X.1.2.1 dL_law_458 (by decide) ?_
                  refine lv_iadd X.1.1 X.1.2.1 dL_law_459 ?_
                  refine e_sld X hX hbl hbA hS dL_law_460 hf (fun v68 hf => ?_)
                  refine lv_aload_n X.1.1 X.1.2.1 dL_law_461 rfl (lv_at hl 0 rfl) ?_
                  refine lv_iload_n X.1.1 X.1.2.1 dL_law_462 rfl (lv_at hl 3 rfl) ?_
                  refine lv_iconst (v := 2) X.1.1 X.1.2.1 dL_law_463 (by decide) ?_
                  refine lv_iadd X.1.1 X.1.2.1 dL_law_464 ?_
                  refine e_sld X hX hbl hbA hS dL_law_465 hf (fun v69 hf => ?_)
                  refine e_vi (rest := []) (As := [.int v68, .int v69]) X hl.1 hW hS (C := RX9) (T := TX9) (N := 35) rfl (by decide) (ctfX9_loaf X.2.2.2.2 F v68 v69 m66) (cwV (rm := rmX9_loaf) 2 X.1.2.2.2.2 (gd_V mw_4_94 mw_4_95 mw_4_96 mw_1_11 mw_4_97) rfl rfl rfl (by decide +kernel) ⟨Nat.le_of_ble_eq_true rfl, Nat.le_of_ble_eq_true rfl⟩) rfl rfl (Nat.le_of_ble_eq_true rfl) dL_law_466 ⟨hc0, hs0⟩ hf (fun r71 m70 H locs hf hW hS => ?_)
                  refine lv_pop X.1.1 X.1.2.1 dL_law_469 rfl ?_
                  refine lv_goto (tgt := 1076) X.1.1 X.1.2.1 dL_law_470 (by decide) ?_
                  refine lv_iinc (v := (y3 + 6)) (lv' := [(3, .int (y3 + 6)), (0, .ref b), (1, .ref (E.1 0)), (2, .ref (E.1 89))]) X.1.1 X.1.2.1 dL_law_1076 hl (k := 3) rfl rfl (by decide) rfl (fun ls hl => ?_)
                  refine lv_goto (tgt := 18) X.1.1 X.1.2.1 dL_law_1079 (by decide) ?_
                  exact hrec18 (y3 + 6) m70 H locs ls hf hW hS (lv_sub hl [1, 2, 3, 0] rfl)
                · rw [if_neg c33_6] at hf
                  by_cases c33_7 : (v1 &&& 31) = 7
                  · rw [if_pos c33_7] at hf
                    refine lv_tableIn (off := 440) (tgt := 473) X.1.1 X.1.2.1 dL_law_33 (by rw [c33_7]; decide) (by rw [c33_7]; decide) (by rw [c33_7]; rfl) (by decide) ?_
                    refine lv_aload_n X.1.1 X.1.2.1 dL_law_473 rfl (lv_at hl 1 rfl) ?_
                    refine lv_aload_n X.1.1 X.1.2.1 dL_law_474 rfl (lv_at hl 0 rfl) ?_
                    refine lv_iload_n X.1.1 X.1.2.1 dL_law_475 rfl (lv_at hl 3 rfl) ?_
                    refine lv_iconst (v := 1) X.1.1 X.1.2.1 dL_law_476 (by decide) ?_
                    refine lv_iadd X.1.1 X.1.2.1 dL_law_477 ?_
                    refine e_sld X hX hbl hbA hS dL_law_478 hf (fun v72 hf => ?_)
                    refine lv_aload_n X.1.1 X.1.2.1 dL_law_479 rfl (lv_at hl 0 rfl) ?_
                    refine lv_iload_n X.1.1 X.1.2.1 dL_law_480 rfl (lv_at hl 3 rfl) ?_
                    refine lv_iconst (v := 2) X.1.1 X.1.2.1 dL_law_481 (by decide) ?_
                    refine lv_iadd X.1.1 X.1.2.1 dL_law_482 ?_
                    refine e_sld X hX hbl hbA hS dL_law_483 hf (fun v73 hf => ?_)
                    refine e_vi (rest := []) (As := [.int v72, .int v73]) X hl.1 hW hS (C := RX8) (T := TX8) (N := 11) rfl (by decide) (ctfX8_of X.2.2.2.2 F v72 v73 μ) (cwV (rm := rmX8_of) 2 X.1.2.2.2.2 (gd_V mw_2_132 mw_2_133 mw_2_134 mw_1_1 mw_2_135) rfl rfl rfl (by decide +kernel) ⟨Nat.le_of_ble_eq_true rfl, Nat.le_of_ble_eq_true rfl⟩) rfl rfl (Nat.le_of_ble_eq_true rfl) dL_law_484 ⟨hc0, hs0⟩ hf (fun r75 m74 H locs hf hW hS => ?_)
                    refine lv_pop X.1.1 X.1.2.1 dL_law_487 rfl ?_
                    refine lv_aload_n X.1.1 X.1.2.1 dL_law_488 rfl (lv_at hl 2 rfl) ?_
                    refine lv_aload_n X.1.1 X.1.2.1 dL_law_489 rfl (lv_at hl 0 rfl) ?_
                    refine lv_iload_n X.1.1 X.1.2.1 dL_law_490 rfl (lv_at hl 3 rfl) ?_
                    refine lv_iconst (v := 1) X.1.1 X.1.2.1 dL_law_491 (by decide) ?_
                    refine lv_iadd X.1.1 X.1.2.1 dL_law_492 ?_
                    refine e_sld X hX hbl hbA hS dL_law_493 hf (fun v76 hf => ?_)
                    refine lv_aload_n X.1.1 X.1.2.1 dL_law_494 rfl (lv_at hl 0 rfl) ?_
                    refine lv_iload_n X.1.1 X.1.2.1 dL_law_495 rfl (lv_at hl 3 rfl) ?_
                    refine lv_iconst (v := 2) X.1.1 X.1.2.1 dL_law_496 (by decide) ?_
                    refine lv_iadd X.1.1 X.1.2.1 dL_law_497 ?_
                    refine e_sld X hX hbl hbA hS dL_law_498 hf (fun v77 hf => ?_)
                    refine e_vi (rest := []) (As := [.int v76, .int v77]) X hl.1 hW hS (C := RX9) (T := TX9) (N := 35) rfl (by decide) (ctfX9_of X.2.2.2.2 F v76 v77 m74) (cwV (rm := rmX9_of) 2 X.1.2.2.2.2 (gd_V mw_4_98 mw_4_99 mw_4_100 mw_1_11 mw_4_101) rfl rfl rfl (by decide +kernel) ⟨Nat.le_of_ble_eq_true rfl, Nat.le_of_ble_eq_true rfl⟩) rfl rfl (Nat.le_of_ble_eq_true rfl) dL_law_499 ⟨hc0, hs0⟩ hf (fun r79 m78 H locs hf hW hS => ?_)
                    refine lv_pop X.1.1 X.1.2.1 dL_law_502 rfl ?_
                    refine lv_goto (tgt := 1076) X.1.1 X.1.2.1 dL_law_503 (by decide) ?_
                    refine lv_iinc (v := (y3 + 6)) (lv' := [(3, .int (y3 + 6)), (0, .ref b), (1, .ref (E.1 0)), (2, .ref (E.1 89))]) X.1.1 X.1.2.1 dL_law_1076 hl (k := 3) rfl rfl (by decide) rfl (fun ls hl => ?_)
                    refine lv_goto (tgt := 18) X.1.1 X.1.2.1 dL_law_1079 (by decide) ?_
                    exact hrec18 (y3 + 6) m78 H locs ls hf hW hS (lv_sub hl [1, 2, 3, 0] rfl)
                  · rw [if_neg c33_7] at hf
                    by_cases c33_8 : (v1 &&& 31) = 8
                    · rw [if_pos c33_8] at hf
                      refine lv_tableIn (off := 473) (tgt := 506) X.1.1 X.1.2.1 dL_law_33 (by rw [c33_8]; decide) (by rw [c33_8]; decide) (by rw [c33_8]; rfl) (by decide) ?_
                      refine lv_aload_n X.1.1 X.1.2.1 dL_law_506 rfl (lv_at hl 1 rfl) ?_
                      refine lv_aload_n X.1.1 X.1.2.1 dL_law_507 rfl (lv_at hl 0 rfl) ?_
                      refine lv_iload_n X.1.1 X.1.2.1 dL_law_508 rfl (lv_at hl 3 rfl) ?_
                      refine lv_iconst (v := 1) X.1.1 X.1.2.1 dL_law_509 (by decide) ?_
                      refine lv_iadd X.1.1 X.1.2.1 dL_law_510 ?_
                      refine e_sld X hX hbl hbA hS dL_law_511 hf (fun v80 hf => ?_)
                      refine lv_aload_n X.1.1 X.1.2.1 dL_law_512 rfl (lv_at hl 0 rfl) ?_
                      refine lv_iload_n X.1.1 X.1.2.1 dL_law_513 rfl (lv_at hl 3 rfl) ?_
                      refine lv_iconst (v := 2) X.1.1 X.1.2.1 dL_law_514 (by decide) ?_
                      refine lv_iadd X.1.1 X.1.2.1 dL_law_515 ?_
                      refine e_sld X hX hbl hbA hS dL_law_516 hf (fun v81 hf => ?_)
                      refine lv_aload_n X.1.1 X.1.2.1 dL_law_517 rfl (lv_at hl 0 rfl) ?_
                      refine lv_iload_n X.1.1 X.1.2.1 dL_law_518 rfl (lv_at hl 3 rfl) ?_
                      refine lv_iconst (v := 3) X.1.1 X.1.2.1 dL_law_519 (by decide) ?_
                      refine lv_iadd X.1.1 X.1.2.1 dL_law_520 ?_
                      refine e_sld X hX hbl hbA hS dL_law_521 hf (fun v82 hf => ?_)
                      refine e_vi (rest := []) (As := [.int v80, .int v81, .int v82]) X hl.1 hW hS (C := RX8) (T := TX8) (N := 11) rfl (by decide) (ctfX8_heat X.2.2.2.2 F v80 v81 v82 μ) (cwV (rm := rmX8_heat) 3 X.1.2.2.2.2 (gd_V mw_2_148 mw_2_149 mw_2_150 mw_1_1 mw_2_151) rfl rfl rfl (by decide +kernel) ⟨Nat.le_of_ble_eq_true rfl, Nat.le_of_ble_eq_true rfl⟩) rfl rfl (Nat.le_of_ble_eq_true rfl) dL_law_522 ⟨hc0, hs0⟩ hf (fun r84 m83 H locs hf hW hS => ?_)
                      refine lv_pop X.1.1 X.1.2.1 dL_law_525 rfl ?_
                      refine lv_aload_n X.1.1 X.1.2.1 dL_law_526 rfl (lv_at hl 2 rfl) ?_
                      refine lv_aload_n X.1.1 X.1.2.1 dL_law_527 rfl (lv_at hl 0 rfl) ?_
                      refine lv_iload_n X.1.1 X.1.2.1 dL_law_528 rfl (lv_at hl 3 rfl) ?_
                      refine lv_iconst (v := 1) X.1.1 X.1.2.1 dL_law_529 (by decide) ?_
                      refine lv_iadd X.1.1 X.1.2.1 dL_law_530 ?_
                      refine e_sld X hX hbl hbA hS dL_law_531 hf (fun v85 hf => ?_)
                      refine lv_aload_n X.1.1 X.1.2.1 dL_law_532 rfl (lv_at hl 0 rfl) ?_
                      refine lv_iload_n X.1.1 X.1.2.1 dL_law_533 rfl (lv_at hl 3 rfl) ?_
                      refine lv_iconst (v := 2) X.1.1 X.1.2.1 dL_law_534 (by decide) ?_
                      refine lv_iadd X.1.1 X.1.2.1 dL_law_535 ?_
                      refine e_sld X hX hbl hbA hS dL_law_536 hf (fun v86 hf => ?_)
                      refine lv_aload_n X.1.1 X.1.2.1 dL_law_537 rfl (lv_at hl 0 rfl) ?_
                      refine lv_iload_n X.1.1 X.1.2.1 dL_law_538 rfl (lv_at hl 3 rfl) ?_
                      refine lv_iconst (v := 3) X.1.1 X.1.2.1 dL_law_539 (by decide) ?_
                      refine lv_iadd X.1.1 X.1.2.1 dL_law_540 ?_
                      refine e_sld X hX hbl hbA hS dL_law_541 hf (fun v87 hf => ?_)
                      refine e_vi (rest := []) (As := [.int v85, .int v86, .int v87]) X hl.1 hW hS (C := RX9) (T := TX9) (N := 35) rfl (by decide) (ctfX9_heat X.2.2.2.2 F v85 v86 v87 m83) (cwV (rm := rmX9_heat) 3 X.1.2.2.2.2 (gd_V mw_4_114 mw_4_115 mw_4_116 mw_1_11 mw_4_117) rfl rfl rfl (by decide +kernel) ⟨Nat.le_of_ble_eq_true rfl, Nat.le_of_ble_eq_true rfl⟩) rfl rfl (Nat.le_of_ble_eq_true rfl) dL_law_542 ⟨hc0, hs0⟩ hf (fun r89 m88 H locs hf hW hS => ?_)
                      refine lv_pop X.1.1 X.1.2.1 dL_law_545 rfl ?_
                      refine lv_goto (tgt := 1076) X.1.1 X.1.2.1 dL_law_546 (by decide) ?_
                      refine lv_iinc (v := (y3 + 6)) (lv' := [(3, .int (y3 + 6)), (0, .ref b), (1, .ref (E.1 0)), (2, .ref (E.1 89))]) X.1.1 X.1.2.1 dL_law_1076 hl (k := 3) rfl rfl (by decide) rfl (fun ls hl => ?_)
                      refine lv_goto (tgt := 18) X.1.1 X.1.2.1 dL_law_1079 (by decide) ?_
                      exact hrec18 (y3 + 6) m88 H locs ls hf hW hS (lv_sub hl [1, 2, 3, 0] rfl)
                    · rw [if_neg c33_8] at hf
                      by_cases c33_9 : (v1 &&& 31) = 9
                      · rw [if_pos c33_9] at hf
                        refine lv_tableIn (off := 516) (tgt := 549) X.1.1 X.1.2.1 dL_law_33 (by rw [c33_9]; decide) (by rw [c33_9]; decide) (by rw [c33_9]; rfl) (by decide) ?_
                        refine lv_aload_n X.1.1 X.1.2.1 dL_law_549 rfl (lv_at hl 1 rfl) ?_
                        refine lv_aload_n X.1.1 X.1.2.1 dL_law_550 rfl (lv_at hl 0 rfl) ?_
                        refine lv_iload_n X.1.1 X.1.2.1 dL_law_551 rfl (lv_at hl 3 rfl) ?_
                        refine lv_iconst (v := 1) X.1.1 X.1.2.1 dL_law_552 (by decide) ?_
                        refine lv_iadd X.1.1 X.1.2.1 dL_law_553 ?_
                        refine e_sld X hX hbl hbA hS dL_law_554 hf (fun v90 hf => ?_)
                        refine lv_aload_n X.1.1 X.1.2.1 dL_law_555 rfl (lv_at hl 0 rfl) ?_
                        refine lv_iload_n X.1.1 X.1.2.1 dL_law_556 rfl (lv_at hl 3 rfl) ?_
                        refine lv_iconst (v := 2) X.1.1 X.1.2.1 dL_law_557 (by decide) ?_
                        refine lv_iadd X.1.1 X.1.2.1 dL_law_558 ?_
                        refine e_sld X hX hbl hbA hS dL_law_559 hf (fun v91 hf => ?_)
                        refine lv_aload_n X.1.1 X.1.2.1 dL_law_560 rfl (lv_at hl 0 rfl) ?_
                        refine lv_iload_n X.1.1 X.1.2.1 dL_law_561 rfl (lv_at hl 3 rfl) ?_
                        refine lv_iconst (v := 3) X.1.1 X.1.2.1 dL_law_562 (by decide) ?_
                        refine lv_iadd X.1.1 X.1.2.1 dL_law_563 ?_
                        refine e_sld X hX hbl hbA hS dL_law_564 hf (fun v92 hf => ?_)
                        refine e_vi (rest := []) (As := [.int v90, .int v91, .int v92]) X hl.1 hW hS (C := RX8) (T := TX8) (N := 11) rfl (by decide) (ctfX8_price X.2.2.2.2 F v90 v91 v92 μ) (cwV (rm := rmX8_price) 3 X.1.2.2.2.2 (gd_V mw_2_155 mw_2_156 mw_2_157 mw_1_1 mw_2_158) rfl rfl rfl (by decide +kernel) ⟨Nat.le_of_ble_eq_true rfl, Nat.le_of_ble_eq_true rfl⟩) rfl rfl (Nat.le_of_ble_eq_true rfl) dL_law_565 ⟨hc0, hs0⟩ hf (fun r94 m93 H locs hf hW hS => ?_)
                        refine lv_pop X.1.1 X.1.2.1 dL_law_568 rfl ?_
                        refine lv_aload_n X.1.1 X.1.2.1 dL_law_569 rfl (lv_at hl 2 rfl) ?_
                        refine lv_aload_n X.1.1 X.1.2.1 dL_law_570 rfl (lv_at hl 0 rfl) ?_
                        refine lv_iload_n X.1.1 X.1.2.1 dL_law_571 rfl (lv_at hl 3 rfl) ?_
                        refine lv_iconst (v := 1) X.1.1 X.1.2.1 dL_law_572 (by decide) ?_
                        refine lv_iadd X.1.1 X.1.2.1 dL_law_573 ?_
                        refine e_sld X hX hbl hbA hS dL_law_574 hf (fun v95 hf => ?_)
                        refine lv_aload_n X.1.1 X.1.2.1 dL_law_575 rfl (lv_at hl 0 rfl) ?_
                        refine lv_iload_n X.1.1 X.1.2.1 dL_law_576 rfl (lv_at hl 3 rfl) ?_
                        refine lv_iconst (v := 2) X.1.1 X.1.2.1 dL_law_577 (by decide) ?_
                        refine lv_iadd X.1.1 X.1.2.1 dL_law_578 ?_
                        refine e_sld X hX hbl hbA hS dL_law_579 hf (fun v96 hf => ?_)
                        refine lv_aload_n X.1.1 X.1.2.1 dL_law_580 rfl (lv_at hl 0 rfl) ?_
                        refine lv_iload_n X.1.1 X.1.2.1 dL_law_581 rfl (lv_at hl 3 rfl) ?_
                        refine lv_iconst (v := 3) X.1.1 X.1.2.1 dL_law_582 (by decide) ?_
                        refine lv_iadd X.1.1 X.1.2.1 dL_law_583 ?_
                        refine e_sld X hX hbl hbA hS dL_law_584 hf (fun v97 hf => ?_)
                        refine e_vi (rest := []) (As := [.int v95, .int v96, .int v97]) X hl.1 hW hS (C := RX9) (T := TX9) (N := 35) rfl (by decide) (ctfX9_price X.2.2.2.2 F v95 v96 v97 m93) (cwV (rm := rmX9_price) 3 X.1.2.2.2.2 (gd_V mw_4_119 mw_4_120 mw_4_121 mw_1_11 mw_4_122) rfl rfl rfl (by decide +kernel) ⟨Nat.le_of_ble_eq_true rfl, Nat.le_of_ble_eq_true rfl⟩) rfl rfl (Nat.le_of_ble_eq_true rfl) dL_law_585 ⟨hc0, hs0⟩ hf (fun r99 m98 H locs hf hW hS => ?_)
                        refine lv_pop X.1.1 X.1.2.1 dL_law_588 rfl ?_
                        refine lv_goto (tgt := 1076) X.1.1 X.1.2.1 dL_law_589 (by decide) ?_
                        refine lv_iinc (v := (y3 + 6)) (lv' := [(3, .int (y3 + 6)), (0, .ref b), (1, .ref (E.1 0)), (2, .ref (E.1 89))]) X.1.1 X.1.2.1 dL_law_1076 hl (k := 3) rfl rfl (by decide) rfl (fun ls hl => ?_)
                        refine lv_goto (tgt := 18) X.1.1 X.1.2.1 dL_law_1079 (by decide) ?_
                        exact hrec18 (y3 + 6) m98 H locs ls hf hW hS (lv_sub hl [1, 2, 3, 0] rfl)
                      · rw [if_neg c33_9] at hf
                        by_cases c33_10 : (v1 &&& 31) = 10
                        · rw [if_pos c33_10] at hf
                          refine lv_tableIn (off := 559) (tgt := 592) X.1.1 X.1.2.1 dL_law_33 (by rw [c33_10]; decide) (by rw [c33_10]; decide) (by rw [c33_10]; rfl) (by decide) ?_
                          refine lv_aload_n X.1.1 X.1.2.1 dL_law_592 rfl (lv_at hl 1 rfl) ?_
                          refine lv_aload_n X.1.1 X.1.2.1 dL_law_593 rfl (lv_at hl 0 rfl) ?_
                          refine lv_iload_n X.1.1 X.1.2.1 dL_law_594 rfl (lv_at hl 3 rfl) ?_
                          refine lv_iconst (v := 1) X.1.1 X.1.2.1 dL_law_595 (by decide) ?_
                          refine lv_iadd X.1.1 X.1.2.1 dL_law_596 ?_
                          refine e_sld X hX hbl hbA hS dL_law_597 hf (fun v100 hf => ?_)
                          refine e_vi (rest := []) (As := [.int v100]) X hl.1 hW hS (C := RX8) (T := TX8) (N := 11) rfl (by decide) (ctfX8_at X.2.2.2.2 F v100 μ) (cwV (rm := rmX8_at) 1 X.1.2.2.2.2 (gd_V mw_2_162 mw_2_163 mw_2_164 mw_1_1 mw_2_165) rfl rfl rfl (by decide +kernel) ⟨Nat.le_of_ble_eq_true rfl, Nat.le_of_ble_eq_true rfl⟩) rfl rfl (Nat.le_of_ble_eq_true rfl) dL_law_598 ⟨hc0, hs0⟩ hf (fun r102 m101 H locs hf hW hS => ?_)
                          refine lv_pop X.1.1 X.1.2.1 dL_law_601 rfl ?_
                          refine lv_aload_n X.1.1 X.1.2.1 dL_law_602 rfl (lv_at hl 2 rfl) ?_
                          refine lv_aload_n X.1.1 X.1.2.1 dL_law_603 rfl (lv_at hl 0 rfl) ?_
                          refine lv_iload_n X.1.1 X.1.2.1 dL_law_604 rfl (lv_at hl 3 rfl) ?_
                          refine lv_iconst (v := 1) X.1.1 X.1.2.1 dL_law_605 (by decide) ?_
                          refine lv_iadd X.1.1 X.1.2.1 dL_law_606 ?_
                          refine e_sld X hX hbl hbA hS dL_law_607 hf (fun v103 hf => ?_)
                          refine e_vi (rest := []) (As := [.int v103]) X hl.1 hW hS (C := RX9) (T := TX9) (N := 35) rfl (by decide) (ctfX9_at X.2.2.2.2 F v103 m101) (cwV (rm := rmX9_at) 1 X.1.2.2.2.2 (gd_V mw_4_126 mw_4_127 mw_4_128 mw_1_11 mw_4_129) rfl rfl rfl (by decide +kernel) ⟨Nat.le_of_ble_eq_true rfl, Nat.le_of_ble_eq_true rfl⟩) rfl rfl (Nat.le_of_ble_eq_true rfl) dL_law_608 ⟨hc0, hs0⟩ hf (fun r105 m104 H locs hf hW hS => ?_)
                          refine lv_pop X.1.1 X.1.2.1 dL_law_611 rfl ?_
                          refine lv_goto (tgt := 1076) X.1.1 X.1.2.1 dL_law_612 (by decide) ?_
                          refine lv_iinc (v := (y3 + 6)) (lv' := [(3, .int (y3 + 6)), (0, .ref b), (1, .ref (E.1 0)), (2, .ref (E.1 89))]) X.1.1 X.1.2.1 dL_law_1076 hl (k := 3) rfl rfl (by decide) rfl (fun ls hl => ?_)
                          refine lv_goto (tgt := 18) X.1.1 X.1.2.1 dL_law_1079 (by decide) ?_
                          exact hrec18 (y3 + 6) m104 H locs ls hf hW hS (lv_sub hl [1, 2, 3, 0] rfl)
                        · rw [if_neg c33_10] at hf
                          by_cases c33_11 : (v1 &&& 31) = 11
                          · rw [if_pos c33_11] at hf
                            refine lv_tableIn (off := 582) (tgt := 615) X.1.1 X.1.2.1 dL_law_33 (by rw [c33_11]; decide) (by rw [c33_11]; decide) (by rw [c33_11]; rfl) (by decide) ?_
                            refine lv_aload_n X.1.1 X.1.2.1 dL_law_615 rfl (lv_at hl 1 rfl) ?_
                            refine lv_aload_n X.1.1 X.1.2.1 dL_law_616 rfl (lv_at hl 0 rfl) ?_
                            refine lv_iload_n X.1.1 X.1.2.1 dL_law_617 rfl (lv_at hl 3 rfl) ?_
                            refine lv_iconst (v := 1) X.1.1 X.1.2.1 dL_law_618 (by decide) ?_
                            refine lv_iadd X.1.1 X.1.2.1 dL_law_619 ?_
                            refine e_sld X hX hbl hbA hS dL_law_620 hf (fun v106 hf => ?_)
                            refine lv_aload_n X.1.1 X.1.2.1 dL_law_621 rfl (lv_at hl 0 rfl) ?_
                            refine lv_iload_n X.1.1 X.1.2.1 dL_law_622 rfl (lv_at hl 3 rfl) ?_
                            refine lv_iconst (v := 2) X.1.1 X.1.2.1 dL_law_623 (by decide) ?_
                            refine lv_iadd X.1.1 X.1.2.1 dL_law_624 ?_
                            refine e_sld X hX hbl hbA hS dL_law_625 hf (fun v107 hf => ?_)
                            refine e_vi (rest := []) (As := [.int v106, .int v107]) X hl.1 hW hS (C := RX8) (T := TX8) (N := 11) rfl (by decide) (ctfX8_swap X.2.2.2.2 F v106 v107 μ) (cwV (rm := rmX8_swap) 2 X.1.2.2.2.2 (gd_V mw_2_166 mw_2_167 mw_2_168 mw_1_1 mw_2_169) rfl rfl rfl (by decide +kernel) ⟨Nat.le_of_ble_eq_true rfl, Nat.le_of_ble_eq_true rfl⟩) rfl rfl (Nat.le_of_ble_eq_true rfl) dL_law_626 ⟨hc0, hs0⟩ hf (fun r109 m108 H locs hf hW hS => ?_)
                            refine lv_pop X.1.1 X.1.2.1 dL_law_629 rfl ?_
                            refine lv_aload_n X.1.1 X.1.2.1 dL_law_630 rfl (lv_at hl 2 rfl) ?_
                            refine lv_aload_n X.1.1 X.1.2.1 dL_law_631 rfl (lv_at hl 0 rfl) ?_
                            refine lv_iload_n X.1.1 X.1.2.1 dL_law_632 rfl (lv_at hl 3 rfl) ?_
                            refine lv_iconst (v := 1) X.1.1 X.1.2.1 dL_law_633 (by decide) ?_
                            refine lv_iadd X.1.1 X.1.2.1 dL_law_634 ?_
                            refine e_sld X hX hbl hbA hS dL_law_635 hf (fun v110 hf => ?_)
                            refine lv_aload_n X.1.1 X.1.2.1 dL_law_636 rfl (lv_at hl 0 rfl) ?_
                            refine lv_iload_n X.1.1 X.1.2.1 dL_law_637 rfl (lv_at hl 3 rfl) ?_
                            refine lv_iconst (v := 2) X.1.1 X.1.2.1 dL_law_638 (by decide) ?_
                            refine lv_iadd X.1.1 X.1.2.1 dL_law_639 ?_
                            refine e_sld X hX hbl hbA hS dL_law_640 hf (fun v111 hf => ?_)
                            refine e_vi (rest := []) (As := [.int v110, .int v111]) X hl.1 hW hS (C := RX9) (T := TX9) (N := 35) rfl (by decide) (ctfX9_swap X.2.2.2.2 F v110 v111 m108) (cwV (rm := rmX9_swap) 2 X.1.2.2.2.2 (gd_V mw_4_130 mw_4_131 mw_4_132 mw_1_11 mw_4_133) rfl rfl rfl (by decide +kernel) ⟨Nat.le_of_ble_eq_true rfl, Nat.le_of_ble_eq_true rfl⟩) rfl rfl (Nat.le_of_ble_eq_true rfl) dL_law_641 ⟨hc0, hs0⟩ hf (fun r113 m112 H locs hf hW hS => ?_)
                            refine lv_pop X.1.1 X.1.2.1 dL_law_644 rfl ?_
                            refine lv_goto (tgt := 1076) X.1.1 X.1.2.1 dL_law_645 (by decide) ?_
                            refine lv_iinc (v := (y3 + 6)) (lv' := [(3, .int (y3 + 6)), (0, .ref b), (1, .ref (E.1 0)), (2, .ref (E.1 89))]) X.1.1 X.1.2.1 dL_law_1076 hl (k := 3) rfl rfl (by decide) rfl (fun ls hl => ?_)
                            refine lv_goto (tgt := 18) X.1.1 X.1.2.1 dL_law_1079 (by decide) ?_
                            exact hrec18 (y3 + 6) m112 H locs ls hf hW hS (lv_sub hl [1, 2, 3, 0] rfl)
                          · rw [if_neg c33_11] at hf
                            by_cases c33_12 : (v1 &&& 31) = 12
                            · rw [if_pos c33_12] at hf
                              refine lv_tableIn (off := 615) (tgt := 648) X.1.1 X.1.2.1 dL_law_33 (by rw [c33_12]; decide) (by rw [c33_12]; decide) (by rw [c33_12]; rfl) (by decide) ?_
                              refine lv_aload_n X.1.1 X.1.2.1 dL_law_648 rfl (lv_at hl 1 rfl) ?_
                              refine e_vi (rest := []) (As := []) X hl.1 hW hS (C := RX8) (T := TX8) (N := 11) rfl (by decide) (ctfX8_rule X.2.2.2.2 F μ) (cwV (rm := rmX8_rule) 0 X.1.2.2.2.2 (gd_V mw_2_173 mw_2_174 mw_2_175 mw_1_1 mw_2_176) rfl rfl rfl (by decide +kernel) ⟨Nat.le_of_ble_eq_true rfl, Nat.le_of_ble_eq_true rfl⟩) rfl rfl (Nat.le_of_ble_eq_true rfl) dL_law_649 ⟨hc0, hs0⟩ hf (fun r115 m114 H locs hf hW hS => ?_)
                              refine lv_pop X.1.1 X.1.2.1 dL_law_652 rfl ?_
                              refine lv_aload_n X.1.1 X.1.2.1 dL_law_653 rfl (lv_at hl 2 rfl) ?_
                              refine e_vi (rest := []) (As := []) X hl.1 hW hS (C := RX9) (T := TX9) (N := 35) rfl (by decide) (ctfX9_rule X.2.2.2.2 F m114) (cwV (rm := rmX9_rule) 0 X.1.2.2.2.2 (gd_V mw_4_134 mw_4_135 mw_4_136 mw_1_11 mw_4_137) rfl rfl rfl (by decide +kernel) ⟨Nat.le_of_ble_eq_true rfl, Nat.le_of_ble_eq_true rfl⟩) rfl rfl (Nat.le_of_ble_eq_true rfl) dL_law_654 ⟨hc0, hs0⟩ hf (fun r117 m116 H locs hf hW hS => ?_)
                              refine lv_pop X.1.1 X.1.2.1 dL_law_657 rfl ?_
                              refine lv_goto (tgt := 1076) X.1.1 X.1.2.1 dL_law_658 (by decide) ?_
                              refine lv_iinc (v := (y3 + 6)) (lv' := [(3, .int (y3 + 6)), (0, .ref b), (1, .ref (E.1 0)), (2, .ref (E.1 89))]) X.1.1 X.1.2.1 dL_law_1076 hl (k := 3) rfl rfl (by decide) rfl (fun ls hl => ?_)
                              refine lv_goto (tgt := 18) X.1.1 X.1.2.1 dL_law_1079 (by decide) ?_
                              exact hrec18 (y3 + 6) m116 H locs ls hf hW hS (lv_sub hl [1, 2, 3, 0] rfl)
                            · rw [if_neg c33_12] at hf
                              by_cases c33_13 : (v1 &&& 31) = 13
                              · rw [if_pos c33_13] at hf
                                refine lv_tableIn (off := 628) (tgt := 661) X.1.1 X.1.2.1 dL_law_33 (by rw [c33_13]; decide) (by rw [c33_13]; decide) (by rw [c33_13]; rfl) (by decide) ?_
                                refine lv_aload_n X.1.1 X.1.2.1 dL_law_661 rfl (lv_at hl 1 rfl) ?_
                                refine e_vi (rest := []) (As := []) X hl.1 hW hS (C := RX8) (T := TX8) (N := 11) rfl (by decide) (ctfX8_use X.2.2.2.2 F μ) (cwV (rm := rmX8_use) 0 X.1.2.2.2.2 (gd_V mw_2_200 mw_2_201 mw_2_202 mw_1_1 mw_2_203) rfl rfl rfl (by decide +kernel) ⟨Nat.le_of_ble_eq_true rfl, Nat.le_of_ble_eq_true rfl⟩) rfl rfl (Nat.le_of_ble_eq_true rfl) dL_law_662 ⟨hc0, hs0⟩ hf (fun r119 m118 H locs hf hW hS => ?_)
                                refine lv_pop X.1.1 X.1.2.1 dL_law_665 rfl ?_
                                refine lv_aload_n X.1.1 X.1.2.1 dL_law_666 rfl (lv_at hl 2 rfl) ?_
                                refine e_vi (rest := []) (As := []) X hl.1 hW hS (C := RX9) (T := TX9) (N := 35) rfl (by decide) (ctfX9_use X.2.2.2.2 F m118) (cwV (rm := rmX9_use) 0 X.1.2.2.2.2 (gd_V mw_4_150 mw_4_151 mw_4_152 mw_1_11 mw_4_153) rfl rfl rfl (by decide +kernel) ⟨Nat.le_of_ble_eq_true rfl, Nat.le_of_ble_eq_true rfl⟩) rfl rfl (Nat.le_of_ble_eq_true rfl) dL_law_667 ⟨hc0, hs0⟩ hf (fun r121 m120 H locs hf hW hS => ?_)
                                refine lv_pop X.1.1 X.1.2.1 dL_law_670 rfl ?_
                                refine lv_goto (tgt := 1076) X.1.1 X.1.2.1 dL_law_671 (by decide) ?_
                                refine lv_iinc (v := (y3 + 6)) (lv' := [(3, .int (y3 + 6)), (0, .ref b), (1, .ref (E.1 0)), (2, .ref (E.1 89))]) X.1.1 X.1.2.1 dL_law_1076 hl (k := 3) rfl rfl (by decide) rfl (fun ls hl => ?_)
                                refine lv_goto (tgt := 18) X.1.1 X.1.2.1 dL_law_1079 (by decide) ?_
                                exact hrec18 (y3 + 6) m120 H locs ls hf hW hS (lv_sub hl [1, 2, 3, 0] rfl)
                              · rw [if_neg c33_13] at hf
                                by_cases c33_14 : (v1 &&& 31) = 14
                                · rw [if_pos c33_14] at hf
                                  refine lv_tableIn (off := 641) (tgt := 674) X.1.1 X.1.2.1 dL_law_33 (by rw [c33_14]; decide) (by rw [c33_14]; decide) (by rw [c33_14]; rfl) (by decide) ?_
                                  refine lv_aload_n X.1.1 X.1.2.1 dL_law_674 rfl (lv_at hl 1 rfl) ?_
                                  refine e_vi (rest := []) (As := []) X hl.1 hW hS (C := RX8) (T := TX8) (N := 11) rfl (by decide) (ctfX8_turn X.2.2.2.2 F μ) (cwV (rm := rmX8_turn) 0 X.1.2.2.2.2 (gd_V mw_2_204 mw_2_205 mw_2_206 mw_1_1 mw_2_207) rfl rfl rfl (by decide +kernel) ⟨Nat.le_of_ble_eq_true rfl, Nat.le_of_ble_eq_true rfl⟩) rfl rfl (Nat.le_of_ble_eq_true rfl) dL_law_675 ⟨hc0, hs0⟩ hf (fun r123 m122 H locs hf hW hS => ?_)
                                  refine lv_pop X.1.1 X.1.2.1 dL_law_678 rfl ?_
                                  refine lv_aload_n X.1.1 X.1.2.1 dL_law_679 rfl (lv_at hl 2 rfl) ?_
                                  refine e_vi (rest := []) (As := []) X hl.1 hW hS (C := RX9) (T := TX9) (N := 35) rfl (by decide) (ctfX9_turn X.2.2.2.2 F m122) (cwV (rm := rmX9_turn) 0 X.1.2.2.2.2 (gd_V mw_4_154 mw_4_155 mw_4_156 mw_1_11 mw_4_157) rfl rfl rfl (by decide +kernel) ⟨Nat.le_of_ble_eq_true rfl, Nat.le_of_ble_eq_true rfl⟩) rfl rfl (Nat.le_of_ble_eq_true rfl) dL_law_680 ⟨hc0, hs0⟩ hf (fun r125 m124 H locs hf hW hS => ?_)
                                  refine lv_pop X.1.1 X.1.2.1 dL_law_683 rfl ?_
                                  refine lv_goto (tgt := 1076) X.1.1 X.1.2.1 dL_law_684 (by decide) ?_
                                  refine lv_iinc (v := (y3 + 6)) (lv' := [(3, .int (y3 + 6)), (0, .ref b), (1, .ref (E.1 0)), (2, .ref (E.1 89))]) X.1.1 X.1.2.1 dL_law_1076 hl (k := 3) rfl rfl (by decide) rfl (fun ls hl => ?_)
                                  refine lv_goto (tgt := 18) X.1.1 X.1.2.1 dL_law_1079 (by decide) ?_
                                  exact hrec18 (y3 + 6) m124 H locs ls hf hW hS (lv_sub hl [1, 2, 3, 0] rfl)
                                · rw [if_neg c33_14] at hf
                                  by_cases c33_15 : (v1 &&& 31) = 15
                                  · rw [if_pos c33_15] at hf
                                    refine lv_tableIn (off := 654) (tgt := 687) X.1.1 X.1.2.1 dL_law_33 (by rw [c33_15]; decide) (by rw [c33_15]; decide) (by rw [c33_15]; rfl) (by decide) ?_
                                    refine lv_aload_n X.1.1 X.1.2.1 dL_law_687 rfl (lv_at hl 1 rfl) ?_
                                    refine e_vi (rest := []) (As := []) X hl.1 hW hS (C := RX8) (T := TX8) (N := 11) rfl (by decide) (ctfX8_undo X.2.2.2.2 F μ) (cwV (rm := rmX8_undo) 0 X.1.2.2.2.2 (gd_V mw_2_213 mw_2_214 mw_2_215 mw_1_1 mw_2_216) rfl rfl rfl (by decide +kernel) ⟨Nat.le_of_ble_eq_true rfl, Nat.le_of_ble_eq_true rfl⟩) rfl rfl (Nat.le_of_ble_eq_true rfl) dL_law_688 ⟨hc0, hs0⟩ hf (fun r127 m126 H locs hf hW hS => ?_)
                                    refine lv_pop X.1.1 X.1.2.1 dL_law_691 rfl ?_
                                    refine lv_aload_n X.1.1 X.1.2.1 dL_law_692 rfl (lv_at hl 2 rfl) ?_
                                    refine e_vi (rest := []) (As := []) X hl.1 hW hS (C := RX9) (T := TX9) (N := 35) rfl (by decide) (ctfX9_undo X.2.2.2.2 F m126) (cwV (rm := rmX9_undo) 0 X.1.2.2.2.2 (gd_V mw_4_72 mw_4_73 mw_4_74 mw_1_11 mw_4_75) rfl rfl rfl (by decide +kernel) ⟨Nat.le_of_ble_eq_true rfl, Nat.le_of_ble_eq_true rfl⟩) rfl rfl (Nat.le_of_ble_eq_true rfl) dL_law_693 ⟨hc0, hs0⟩ hf (fun r129 m128 H locs hf hW hS => ?_)
                                    refine lv_pop X.1.1 X.1.2.1 dL_law_696 rfl ?_
                                    refine lv_goto (tgt := 1076) X.1.1 X.1.2.1 dL_law_697 (by decide) ?_
                                    refine lv_iinc (v := (y3 + 6)) (lv' := [(3, .int (y3 + 6)), (0, .ref b), (1, .ref (E.1 0)), (2, .ref (E.1 89))]) X.1.1 X.1.2.1 dL_law_1076 hl (k := 3) rfl rfl (by decide) rfl (fun ls hl => ?_)
                                    refine lv_goto (tgt := 18) X.1.1 X.1.2.1 dL_law_1079 (by decide) ?_
                                    exact hrec18 (y3 + 6) m128 H locs ls hf hW hS (lv_sub hl [1, 2, 3, 0] rfl)
                                  · rw [if_neg c33_15] at hf
                                    by_cases c33_16 : (v1 &&& 31) = 16
                                    · rw [if_pos c33_16] at hf
                                      refine lv_tableIn (off := 667) (tgt := 700) X.1.1 X.1.2.1 dL_law_33 (by rw [c33_16]; decide) (by rw [c33_16]; decide) (by rw [c33_16]; rfl) (by decide) ?_
                                      refine lv_aload_n X.1.1 X.1.2.1 dL_law_700 rfl (lv_at hl 1 rfl) ?_
                                      refine lv_aload_n X.1.1 X.1.2.1 dL_law_701 rfl (lv_at hl 0 rfl) ?_
                                      refine lv_iload_n X.1.1 X.1.2.1 dL_law_702 rfl (lv_at hl 3 rfl) ?_
                                      refine lv_iconst (v := 1) X.1.1 X.1.2.1 dL_law_703 (by decide) ?_
                                      refine lv_iadd X.1.1 X.1.2.1 dL_law_704 ?_
                                      refine e_sld X hX hbl hbA hS dL_law_705 hf (fun v130 hf => ?_)
                                      refine lv_aload_n X.1.1 X.1.2.1 dL_law_706 rfl (lv_at hl 0 rfl) ?_
                                      refine lv_iload_n X.1.1 X.1.2.1 dL_law_707 rfl (lv_at hl 3 rfl) ?_
                                      refine lv_iconst (v := 2) X.1.1 X.1.2.1 dL_law_708 (by decide) ?_
                                      refine lv_iadd X.1.1 X.1.2.1 dL_law_709 ?_
                                      refine e_sld X hX hbl hbA hS dL_law_710 hf (fun v131 hf => ?_)
                                      refine e_vi (rest := []) (As := [.int v130, .int v131]) X hl.1 hW hS (C := RX8) (T := TX8) (N := 11) rfl (by decide) (ctfX8_day X.2.2.2.2 F v130 v131 μ) (cwV (rm := rmX8_day) 2 X.1.2.2.2.2 (gd_V mw_2_221 mw_2_222 mw_2_223 mw_1_1 mw_2_224) rfl rfl rfl (by decide +kernel) ⟨Nat.le_of_ble_eq_true rfl, Nat.le_of_ble_eq_true rfl⟩) rfl rfl (Nat.le_of_ble_eq_true rfl) dL_law_711 ⟨hc0, hs0⟩ hf (fun r133 m132 H locs hf hW hS => ?_)
                                      refine lv_pop X.1.1 X.1.2.1 dL_law_714 rfl ?_
                                      refine lv_aload_n X.1.1 X.1.2.1 dL_law_715 rfl (lv_at hl 2 rfl) ?_
                                      refine lv_aload_n X.1.1 X.1.2.1 dL_law_716 rfl (lv_at hl 0 rfl) ?_
                                      refine lv_iload_n X.1.1 X.1.2.1 dL_law_717 rfl (lv_at hl 3 rfl) ?_
                                      refine lv_iconst (v := 1) X.1.1 X.1.2.1 dL_law_718 (by decide) ?_
                                      refine lv_iadd X.1.1 X.1.2.1 dL_law_719 ?_
                                      refine e_sld X hX hbl hbA hS dL_law_720 hf (fun v134 hf => ?_)
                                      refine lv_aload_n X.1.1 X.1.2.1 dL_law_721 rfl (lv_at hl 0 rfl) ?_
                                      refine lv_iload_n X.1.1 X.1.2.1 dL_law_722 rfl (lv_at hl 3 rfl) ?_
                                      refine lv_iconst (v := 2) X.1.1 X.1.2.1 dL_law_723 (by decide) ?_
                                      refine lv_iadd X.1.1 X.1.2.1 dL_law_724 ?_
                                      refine e_sld X hX hbl hbA hS dL_law_725 hf (fun v135 hf => ?_)
                                      refine e_vi (rest := []) (As := [.int v134, .int v135]) X hl.1 hW hS (C := RX9) (T := TX9) (N := 35) rfl (by decide) (ctfX9_day X.2.2.2.2 F v134 v135 m132) (cwV (rm := rmX9_day) 2 X.1.2.2.2.2 (gd_V mw_4_158 mw_4_159 mw_4_160 mw_1_11 mw_4_161) rfl rfl rfl (by decide +kernel) ⟨Nat.le_of_ble_eq_true rfl, Nat.le_of_ble_eq_true rfl⟩) rfl rfl (Nat.le_of_ble_eq_true rfl) dL_law_726 ⟨hc0, hs0⟩ hf (fun r137 m136 H locs hf hW hS => ?_)
                                      refine lv_pop X.1.1 X.1.2.1 dL_law_729 rfl ?_
                                      refine lv_goto (tgt := 1076) X.1.1 X.1.2.1 dL_law_730 (by decide) ?_
                                      refine lv_iinc (v := (y3 + 6)) (lv' := [(3, .int (y3 + 6)), (0, .ref b), (1, .ref (E.1 0)), (2, .ref (E.1 89))]) X.1.1 X.1.2.1 dL_law_1076 hl (k := 3) rfl rfl (by decide) rfl (fun ls hl => ?_)
                                      refine lv_goto (tgt := 18) X.1.1 X.1.2.1 dL_law_1079 (by decide) ?_
                                      exact hrec18 (y3 + 6) m136 H locs ls hf hW hS (lv_sub hl [1, 2, 3, 0] rfl)
                                    · rw [if_neg c33_16] at hf
                                      by_cases c33_17 : (v1 &&& 31) = 17
                                      · rw [if_pos c33_17] at hf
                                        refine lv_tableIn (off := 700) (tgt := 733) X.1.1 X.1.2.1 dL_law_33 (by rw [c33_17]; decide) (by rw [c33_17]; decide) (by rw [c33_17]; rfl) (by decide) ?_
                                        refine lv_aload_n X.1.1 X.1.2.1 dL_law_733 rfl (lv_at hl 1 rfl) ?_
                                        refine lv_aload_n X.1.1 X.1.2.1 dL_law_734 rfl (lv_at hl 0 rfl) ?_
                                        refine lv_iload_n X.1.1 X.1.2.1 dL_law_735 rfl (lv_at hl 3 rfl) ?_
                                        refine lv_iconst (v := 1) X.1.1 X.1.2.1 dL_law_736 (by decide) ?_
                                        refine lv_iadd X.1.1 X.1.2.1 dL_law_737 ?_
                                        refine e_sld X hX hbl hbA hS dL_law_738 hf (fun v138 hf => ?_)
                                        refine lv_aload_n X.1.1 X.1.2.1 dL_law_739 rfl (lv_at hl 0 rfl) ?_
                                        refine lv_iload_n X.1.1 X.1.2.1 dL_law_740 rfl (lv_at hl 3 rfl) ?_
                                        refine lv_iconst (v := 2) X.1.1 X.1.2.1 dL_law_741 (by decide) ?_
                                        refine lv_iadd X.1.1 X.1.2.1 dL_law_742 ?_
                                        refine e_sld X hX hbl hbA hS dL_law_743 hf (fun v139 hf => ?_)
                                        refine lv_aload_n X.1.1 X.1.2.1 dL_law_744 rfl (lv_at hl 0 rfl) ?_
                                        refine lv_iload_n X.1.1 X.1.2.1 dL_law_745 rfl (lv_at hl 3 rfl) ?_
                                        refine lv_iconst (v := 3) X.1.1 X.1.2.1 dL_law_746 (by decide) ?_
                                        refine lv_iadd X.1.1 X.1.2.1 dL_law_747 ?_
                                        refine e_sld X hX hbl hbA hS dL_law_748 hf (fun v140 hf => ?_)
                                        refine lv_aload_n X.1.1 X.1.2.1 dL_law_749 rfl (lv_at hl 0 rfl) ?_
                                        refine lv_iload_n X.1.1 X.1.2.1 dL_law_750 rfl (lv_at hl 3 rfl) ?_
                                        refine lv_iconst (v := 4) X.1.1 X.1.2.1 dL_law_751 (by decide) ?_
                                        refine lv_iadd X.1.1 X.1.2.1 dL_law_752 ?_
                                        refine e_sld X hX hbl hbA hS dL_law_753 hf (fun v141 hf => ?_)
                                        refine e_vi (rest := []) (As := [.int v138, .int v139, .int v140, .int v141]) X hl.1 hW hS (C := RX8) (T := TX8) (N := 11) rfl (by decide) (ctfX8_moment X.2.2.2.2 F v138 v139 v140 v141 μ) (cwV (rm := rmX8_moment) 4 X.1.2.2.2.2 (gd_V mw_2_228 mw_2_229 mw_2_230 mw_1_1 mw_2_231) rfl rfl rfl (by decide +kernel) ⟨Nat.le_of_ble_eq_true rfl, Nat.le_of_ble_eq_true rfl⟩) rfl rfl (Nat.le_of_ble_eq_true rfl) dL_law_754 ⟨hc0, hs0⟩ hf (fun r143 m142 H locs hf hW hS => ?_)
                                        refine lv_pop X.1.1 X.1.2.1 dL_law_757 rfl ?_
                                        refine lv_aload_n X.1.1 X.1.2.1 dL_law_758 rfl (lv_at hl 2 rfl) ?_
                                        refine lv_aload_n X.1.1 X.1.2.1 dL_law_759 rfl (lv_at hl 0 rfl) ?_
                                        refine lv_iload_n X.1.1 X.1.2.1 dL_law_760 rfl (lv_at hl 3 rfl) ?_
                                        refine lv_iconst (v := 1) X.1.1 X.1.2.1 dL_law_761 (by decide) ?_
                                        refine lv_iadd X.1.1 X.1.2.1 dL_law_762 ?_
                                        refine e_sld X hX hbl hbA hS dL_law_763 hf (fun v144 hf => ?_)
                                        refine lv_aload_n X.1.1 X.1.2.1 dL_law_764 rfl (lv_at hl 0 rfl) ?_
                                        refine lv_iload_n X.1.1 X.1.2.1 dL_law_765 rfl (lv_at hl 3 rfl) ?_
                                        refine lv_iconst (v := 2) X.1.1 X.1.2.1 dL_law_766 (by decide) ?_
                                        refine lv_iadd X.1.1 X.1.2.1 dL_law_767 ?_
                                        refine e_sld X hX hbl hbA hS dL_law_768 hf (fun v145 hf => ?_)
                                        refine lv_aload_n X.1.1 X.1.2.1 dL_law_769 rfl (lv_at hl 0 rfl) ?_
                                        refine lv_iload_n X.1.1 X.1.2.1 dL_law_770 rfl (lv_at hl 3 rfl) ?_
                                        refine lv_iconst (v := 3) X.1.1 X.1.2.1 dL_law_771 (by decide) ?_
                                        refine lv_iadd X.1.1 X.1.2.1 dL_law_772 ?_
                                        refine e_sld X hX hbl hbA hS dL_law_773 hf (fun v146 hf => ?_)
                                        refine lv_aload_n X.1.1 X.1.2.1 dL_law_774 rfl (lv_at hl 0 rfl) ?_
                                        refine lv_iload_n X.1.1 X.1.2.1 dL_law_775 rfl (lv_at hl 3 rfl) ?_
                                        refine lv_iconst (v := 4) X.1.1 X.1.2.1 dL_law_776 (by decide) ?_
                                        refine lv_iadd X.1.1 X.1.2.1 dL_law_777 ?_
                                        refine e_sld X hX hbl hbA hS dL_law_778 hf (fun v147 hf => ?_)
                                        refine e_vi (rest := []) (As := [.int v144, .int v145, .int v146, .int v147]) X hl.1 hW hS (C := RX9) (T := TX9) (N := 35) rfl (by decide) (ctfX9_moment X.2.2.2.2 F v144 v145 v146 v147 m142) (cwV (rm := rmX9_moment) 4 X.1.2.2.2.2 (gd_V mw_4_166 mw_4_167 mw_4_168 mw_1_11 mw_4_169) rfl rfl rfl (by decide +kernel) ⟨Nat.le_of_ble_eq_true rfl, Nat.le_of_ble_eq_true rfl⟩) rfl rfl (Nat.le_of_ble_eq_true rfl) dL_law_779 ⟨hc0, hs0⟩ hf (fun r149 m148 H locs hf hW hS => ?_)
                                        refine lv_pop X.1.1 X.1.2.1 dL_law_782 rfl ?_
                                        refine lv_goto (tgt := 1076) X.1.1 X.1.2.1 dL_law_783 (by decide) ?_
                                        refine lv_iinc (v := (y3 + 6)) (lv' := [(3, .int (y3 + 6)), (0, .ref b), (1, .ref (E.1 0)), (2, .ref (E.1 89))]) X.1.1 X.1.2.1 dL_law_1076 hl (k := 3) rfl rfl (by decide) rfl (fun ls hl => ?_)
                                        refine lv_goto (tgt := 18) X.1.1 X.1.2.1 dL_law_1079 (by decide) ?_
                                        exact hrec18 (y3 + 6) m148 H locs ls hf hW hS (lv_sub hl [1, 2, 3, 0] rfl)
                                      · rw [if_neg c33_17] at hf
                                        by_cases c33_18 : (v1 &&& 31) = 18
                                        · rw [if_pos c33_18] at hf
                                          refine lv_tableIn (off := 753) (tgt := 786) X.1.1 X.1.2.1 dL_law_33 (by rw [c33_18]; decide) (by rw [c33_18]; decide) (by rw [c33_18]; rfl) (by decide) ?_
                                          refine lv_aload_n X.1.1 X.1.2.1 dL_law_786 rfl (lv_at hl 1 rfl) ?_
                                          refine lv_aload_n X.1.1 X.1.2.1 dL_law_787 rfl (lv_at hl 0 rfl) ?_
                                          refine lv_iload_n X.1.1 X.1.2.1 dL_law_788 rfl (lv_at hl 3 rfl) ?_
                                          refine lv_iconst (v := 1) X.1.1 X.1.2.1 dL_law_789 (by decide) ?_
                                          refine lv_iadd X.1.1 X.1.2.1 dL_law_790 ?_
                                          refine e_sld X hX hbl hbA hS dL_law_791 hf (fun v150 hf => ?_)
                                          refine lv_aload_n X.1.1 X.1.2.1 dL_law_792 rfl (lv_at hl 0 rfl) ?_
                                          refine lv_iload_n X.1.1 X.1.2.1 dL_law_793 rfl (lv_at hl 3 rfl) ?_
                                          refine lv_iconst (v := 2) X.1.1 X.1.2.1 dL_law_794 (by decide) ?_
                                          refine lv_iadd X.1.1 X.1.2.1 dL_law_795 ?_
                                          refine e_sld X hX hbl hbA hS dL_law_796 hf (fun v151 hf => ?_)
                                          refine e_vi (rest := []) (As := [.int v150, .int v151]) X hl.1 hW hS (C := RX8) (T := TX8) (N := 11) rfl (by decide) (ctfX8_idle X.2.2.2.2 F v150 v151 μ) (cwV (rm := rmX8_idle) 2 X.1.2.2.2.2 (gd_V mw_2_232 mw_2_233 mw_2_234 mw_1_1 mw_2_235) rfl rfl rfl (by decide +kernel) ⟨Nat.le_of_ble_eq_true rfl, Nat.le_of_ble_eq_true rfl⟩) rfl rfl (Nat.le_of_ble_eq_true rfl) dL_law_797 ⟨hc0, hs0⟩ hf (fun r153 m152 H locs hf hW hS => ?_)
                                          refine lv_pop X.1.1 X.1.2.1 dL_law_800 rfl ?_
                                          refine lv_aload_n X.1.1 X.1.2.1 dL_law_801 rfl (lv_at hl 2 rfl) ?_
                                          refine lv_aload_n X.1.1 X.1.2.1 dL_law_802 rfl (lv_at hl 0 rfl) ?_
                                          refine lv_iload_n X.1.1 X.1.2.1 dL_law_803 rfl (lv_at hl 3 rfl) ?_
                                          refine lv_iconst (v := 1) X.1.1 X.1.2.1 dL_law_804 (by decide) ?_
                                          refine lv_iadd X.1.1 X.1.2.1 dL_law_805 ?_
                                          refine e_sld X hX hbl hbA hS dL_law_806 hf (fun v154 hf => ?_)
                                          refine lv_aload_n X.1.1 X.1.2.1 dL_law_807 rfl (lv_at hl 0 rfl) ?_
                                          refine lv_iload_n X.1.1 X.1.2.1 dL_law_808 rfl (lv_at hl 3 rfl) ?_
                                          refine lv_iconst (v := 2) X.1.1 X.1.2.1 dL_law_809 (by decide) ?_
                                          refine lv_iadd X.1.1 X.1.2.1 dL_law_810 ?_
                                          refine e_sld X hX hbl hbA hS dL_law_811 hf (fun v155 hf => ?_)
                                          refine e_vi (rest := []) (As := [.int v154, .int v155]) X hl.1 hW hS (C := RX9) (T := TX9) (N := 35) rfl (by decide) (ctfX9_idle X.2.2.2.2 F v154 v155 m152) (cwV (rm := rmX9_idle) 2 X.1.2.2.2.2 (gd_V mw_4_170 mw_4_171 mw_4_172 mw_1_11 mw_4_173) rfl rfl rfl (by decide +kernel) ⟨Nat.le_of_ble_eq_true rfl, Nat.le_of_ble_eq_true rfl⟩) rfl rfl (Nat.le_of_ble_eq_true rfl) dL_law_812 ⟨hc0, hs0⟩ hf (fun r157 m156 H locs hf hW hS => ?_)
                                          refine lv_pop X.1.1 X.1.2.1 dL_law_815 rfl ?_
                                          refine lv_goto (tgt := 1076) X.1.1 X.1.2.1 dL_law_816 (by decide) ?_
                                          refine lv_iinc (v := (y3 + 6)) (lv' := [(3, .int (y3 + 6)), (0, .ref b), (1, .ref (E.1 0)), (2, .ref (E.1 89))]) X.1.1 X.1.2.1 dL_law_1076 hl (k := 3) rfl rfl (by decide) rfl (fun ls hl => ?_)
                                          refine lv_goto (tgt := 18) X.1.1 X.1.2.1 dL_law_1079 (by decide) ?_
                                          exact hrec18 (y3 + 6) m156 H locs ls hf hW hS (lv_sub hl [1, 2, 3, 0] rfl)
                                        · rw [if_neg c33_18] at hf
                                          by_cases c33_19 : (v1 &&& 31) = 19
                                          · rw [if_pos c33_19] at hf
                                            refine lv_tableIn (off := 786) (tgt := 819) X.1.1 X.1.2.1 dL_law_33 (by rw [c33_19]; decide) (by rw [c33_19]; decide) (by rw [c33_19]; rfl) (by decide) ?_
                                            refine lv_aload_n X.1.1 X.1.2.1 dL_law_819 rfl (lv_at hl 1 rfl) ?_
                                            refine e_vi (rest := []) (As := []) X hl.1 hW hS (C := RX8) (T := TX8) (N := 11) rfl (by decide) (ctfX8_bound X.2.2.2.2 F μ) (cwV (rm := rmX8_bound) 0 X.1.2.2.2.2 (gd_V mw_3_0 mw_3_1 mw_3_2 mw_1_1 mw_3_3) rfl rfl rfl (by decide +kernel) ⟨Nat.le_of_ble_eq_true rfl, Nat.le_of_ble_eq_true rfl⟩) rfl rfl (Nat.le_of_ble_eq_true rfl) dL_law_820 ⟨hc0, hs0⟩ hf (fun r159 m158 H locs hf hW hS => ?_)
                                            refine lv_pop X.1.1 X.1.2.1 dL_law_823 rfl ?_
                                            refine lv_aload_n X.1.1 X.1.2.1 dL_law_824 rfl (lv_at hl 2 rfl) ?_
                                            refine e_vi (rest := []) (As := []) X hl.1 hW hS (C := RX9) (T := TX9) (N := 35) rfl (by decide) (ctfX9_bound X.2.2.2.2 F m158) (cwV (rm := rmX9_bound) 0 X.1.2.2.2.2 (gd_V mw_4_178 mw_4_179 mw_4_180 mw_1_11 mw_4_181) rfl rfl rfl (by decide +kernel) ⟨Nat.le_of_ble_eq_true rfl, Nat.le_of_ble_eq_true rfl⟩) rfl rfl (Nat.le_of_ble_eq_true rfl) dL_law_825 ⟨hc0, hs0⟩ hf (fun r161 m160 H locs hf hW hS => ?_)
                                            refine lv_pop X.1.1 X.1.2.1 dL_law_828 rfl ?_
                                            refine lv_goto (tgt := 1076) X.1.1 X.1.2.1 dL_law_829 (by decide) ?_
                                            refine lv_iinc (v := (y3 + 6)) (lv' := [(3, .int (y3 + 6)), (0, .ref b), (1, .ref (E.1 0)), (2, .ref (E.1 89))]) X.1.1 X.1.2.1 dL_law_1076 hl (k := 3) rfl rfl (by decide) rfl (fun ls hl => ?_)
                                            refine lv_goto (tgt := 18) X.1.1 X.1.2.1 dL_law_1079 (by decide) ?_
                                            exact hrec18 (y3 + 6) m160 H locs ls hf hW hS (lv_sub hl [1, 2, 3, 0] rfl)
                                          · rw [if_neg c33_19] at hf
                                            by_cases c33_20 : (v1 &&& 31) = 20
                                            · rw [if_pos c33_20] at hf
                                              refine lv_tableIn (off := 799) (tgt := 832) X.1.1 X.1.2.1 dL_law_33 (by rw [c33_20]; decide) (by rw [c33_20]; decide) (by rw [c33_20]; rfl) (by decide) ?_
                                              refine lv_aload_n X.1.1 X.1.2.1 dL_law_832 rfl (lv_at hl 1 rfl) ?_
                                              refine lv_aload_n X.1.1 X.1.2.1 dL_law_833 rfl (lv_at hl 0 rfl) ?_
                                              refine lv_iload_n X.1.1 X.1.2.1 dL_law_834 rfl (lv_at hl 3 rfl) ?_
                                              refine lv_iconst (v := 1) X.1.1 X.1.2.1 dL_law_835 (by decide) ?_
                                              refine lv_iadd X.1.1 X.1.2.1 dL_law_836 ?_
                                              refine e_sld X hX hbl hbA hS dL_law_837 hf (fun v162 hf => ?_)
                                              refine lv_aload_n X.1.1 X.1.2.1 dL_law_838 rfl (lv_at hl 0 rfl) ?_
                                              refine lv_iload_n X.1.1 X.1.2.1 dL_law_839 rfl (lv_at hl 3 rfl) ?_
                                              refine lv_iconst (v := 2) X.1.1 X.1.2.1 dL_law_840 (by decide) ?_
                                              refine lv_iadd X.1.1 X.1.2.1 dL_law_841 ?_
                                              refine e_sld X hX hbl hbA hS dL_law_842 hf (fun v163 hf => ?_)
                                              refine e_vi (rest := []) (As := [.int v162, .int v163]) X hl.1 hW hS (C := RX8) (T := TX8) (N := 11) rfl (by decide) (ctfX8_least X.2.2.2.2 F v162 v163 μ) (cwV (rm := rmX8_least) 2 X.1.2.2.2.2 (gd_V mw_3_11 mw_3_12 mw_3_13 mw_1_1 mw_3_14) rfl rfl rfl (by decide +kernel) ⟨Nat.le_of_ble_eq_true rfl, Nat.le_of_ble_eq_true rfl⟩) rfl rfl (Nat.le_of_ble_eq_true rfl) dL_law_843 ⟨hc0, hs0⟩ hf (fun r165 m164 H locs hf hW hS => ?_)
                                              refine lv_pop X.1.1 X.1.2.1 dL_law_846 rfl ?_
                                              refine lv_aload_n X.1.1 X.1.2.1 dL_law_847 rfl (lv_at hl 2 rfl) ?_
                                              refine lv_aload_n X.1.1 X.1.2.1 dL_law_848 rfl (lv_at hl 0 rfl) ?_
                                              refine lv_iload_n X.1.1 X.1.2.1 dL_law_849 rfl (lv_at hl 3 rfl) ?_
                                              refine lv_iconst (v := 1) X.1.1 X.1.2.1 dL_law_850 (by decide) ?_
                                              refine lv_iadd X.1.1 X.1.2.1 dL_law_851 ?_
                                              refine e_sld X hX hbl hbA hS dL_law_852 hf (fun v166 hf => ?_)
                                              refine lv_aload_n X.1.1 X.1.2.1 dL_law_853 rfl (lv_at hl 0 rfl) ?_
                                              refine lv_iload_n X.1.1 X.1.2.1 dL_law_854 rfl (lv_at hl 3 rfl) ?_
                                              refine lv_iconst (v := 2) X.1.1 X.1.2.1 dL_law_855 (by decide) ?_
                                              refine lv_iadd X.1.1 X.1.2.1 dL_law_856 ?_
                                              refine e_sld X hX hbl hbA hS dL_law_857 hf (fun v167 hf => ?_)
                                              refine e_vi (rest := []) (As := [.int v166, .int v167]) X hl.1 hW hS (C := RX9) (T := TX9) (N := 35) rfl (by decide) (ctfX9_least X.2.2.2.2 F v166 v167 m164) (cwV (rm := rmX9_least) 2 X.1.2.2.2.2 (gd_V mw_4_186 mw_4_187 mw_4_188 mw_1_11 mw_4_189) rfl rfl rfl (by decide +kernel) ⟨Nat.le_of_ble_eq_true rfl, Nat.le_of_ble_eq_true rfl⟩) rfl rfl (Nat.le_of_ble_eq_true rfl) dL_law_858 ⟨hc0, hs0⟩ hf (fun r169 m168 H locs hf hW hS => ?_)
                                              refine lv_pop X.1.1 X.1.2.1 dL_law_861 rfl ?_
                                              refine lv_goto (tgt := 1076) X.1.1 X.1.2.1 dL_law_862 (by decide) ?_
                                              refine lv_iinc (v := (y3 + 6)) (lv' := [(3, .int (y3 + 6)), (0, .ref b), (1, .ref (E.1 0)), (2, .ref (E.1 89))]) X.1.1 X.1.2.1 dL_law_1076 hl (k := 3) rfl rfl (by decide) rfl (fun ls hl => ?_)
                                              refine lv_goto (tgt := 18) X.1.1 X.1.2.1 dL_law_1079 (by decide) ?_
                                              exact hrec18 (y3 + 6) m168 H locs ls hf hW hS (lv_sub hl [1, 2, 3, 0] rfl)
                                            · rw [if_neg c33_20] at hf
                                              by_cases c33_21 : (v1 &&& 31) = 21
                                              · rw [if_pos c33_21] at hf
                                                refine lv_tableIn (off := 832) (tgt := 865) X.1.1 X.1.2.1 dL_law_33 (by rw [c33_21]; decide) (by rw [c33_21]; decide) (by rw [c33_21]; rfl) (by decide) ?_
                                                refine lv_aload_n X.1.1 X.1.2.1 dL_law_865 rfl (lv_at hl 1 rfl) ?_
                                                refine lv_aload_n X.1.1 X.1.2.1 dL_law_866 rfl (lv_at hl 0 rfl) ?_
                                                refine lv_iload_n X.1.1 X.1.2.1 dL_law_867 rfl (lv_at hl 3 rfl) ?_
                                                refine lv_iconst (v := 1) X.1.1 X.1.2.1 dL_law_868 (by decide) ?_
                                                refine lv_iadd X.1.1 X.1.2.1 dL_law_869 ?_
                                                refine e_sld X hX hbl hbA hS dL_law_870 hf (fun v170 hf => ?_)
                                                refine lv_aload_n X.1.1 X.1.2.1 dL_law_871 rfl (lv_at hl 0 rfl) ?_
                                                refine lv_iload_n X.1.1 X.1.2.1 dL_law_872 rfl (lv_at hl 3 rfl) ?_
                                                refine lv_iconst (v := 2) X.1.1 X.1.2.1 dL_law_873 (by decide) ?_
                                                refine lv_iadd X.1.1 X.1.2.1 dL_law_874 ?_
                                                refine e_sld X hX hbl hbA hS dL_law_875 hf (fun v171 hf => ?_)
                                                refine e_vi (rest := []) (As := [.int v170, .int v171]) X hl.1 hW hS (C := RX8) (T := TX8) (N := 11) rfl (by decide) (ctfX8_second X.2.2.2.2 F v170 v171 μ) (cwV (rm := rmX8_second) 2 X.1.2.2.2.2 (gd_V mw_3_96 mw_3_97 mw_3_98 mw_1_1 mw_3_99) rfl rfl rfl (by decide +kernel) ⟨Nat.le_of_ble_eq_true rfl, Nat.le_of_ble_eq_true rfl⟩) rfl rfl (Nat.le_of_ble_eq_true rfl) dL_law_876 ⟨hc0, hs0⟩ hf (fun r173 m172 H locs hf hW hS => ?_)
                                                refine lv_pop X.1.1 X.1.2.1 dL_law_879 rfl ?_
                                                refine lv_aload_n X.1.1 X.1.2.1 dL_law_880 rfl (lv_at hl 2 rfl) ?_
                                                refine lv_aload_n X.1.1 X.1.2.1 dL_law_881 rfl (lv_at hl 0 rfl) ?_
                                                refine lv_iload_n X.1.1 X.1.2.1 dL_law_882 rfl (lv_at hl 3 rfl) ?_
                                                refine lv_iconst (v := 1) X.1.1 X.1.2.1 dL_law_883 (by decide) ?_
                                                refine lv_iadd X.1.1 X.1.2.1 dL_law_884 ?_
                                                refine e_sld X hX hbl hbA hS dL_law_885 hf (fun v174 hf => ?_)
                                                refine lv_aload_n X.1.1 X.1.2.1 dL_law_886 rfl (lv_at hl 0 rfl) ?_
                                                refine lv_iload_n X.1.1 X.1.2.1 dL_law_887 rfl (lv_at hl 3 rfl) ?_
                                                refine lv_iconst (v := 2) X.1.1 X.1.2.1 dL_law_888 (by decide) ?_
                                                refine lv_iadd X.1.1 X.1.2.1 dL_law_889 ?_
                                                refine e_sld X hX hbl hbA hS dL_law_890 hf (fun v175 hf => ?_)
                                                refine e_vi (rest := []) (As := [.int v174, .int v175]) X hl.1 hW hS (C := RX9) (T := TX9) (N := 35) rfl (by decide) (ctfX9_second X.2.2.2.2 F v174 v175 m172) (cwV (rm := rmX9_second) 2 X.1.2.2.2.2 (gd_V mw_5_2 mw_5_3 mw_5_4 mw_1_11 mw_5_5) rfl rfl rfl (by decide +kernel) ⟨Nat.le_of_ble_eq_true rfl, Nat.le_of_ble_eq_true rfl⟩) rfl rfl (Nat.le_of_ble_eq_true rfl) dL_law_891 ⟨hc0, hs0⟩ hf (fun r177 m176 H locs hf hW hS => ?_)
                                                refine lv_pop X.1.1 X.1.2.1 dL_law_894 rfl ?_
                                                refine lv_goto (tgt := 1076) X.1.1 X.1.2.1 dL_law_895 (by decide) ?_
                                                refine lv_iinc (v := (y3 + 6)) (lv' := [(3, .int (y3 + 6)), (0, .ref b), (1, .ref (E.1 0)), (2, .ref (E.1 89))]) X.1.1 X.1.2.1 dL_law_1076 hl (k := 3) rfl rfl (by decide) rfl (fun ls hl => ?_)
                                                refine lv_goto (tgt := 18) X.1.1 X.1.2.1 dL_law_1079 (by decide) ?_
                                                exact hrec18 (y3 + 6) m176 H locs ls hf hW hS (lv_sub hl [1, 2, 3, 0] rfl)
                                              · rw [if_neg c33_21] at hf
                                                by_cases c33_22 : (v1 &&& 31) = 22
                                                · rw [if_pos c33_22] at hf
                                                  refine lv_tableIn (off := 865) (tgt := 898) X.1.1 X.1.2.1 dL_law_33 (by rw [c33_22]; decide) (by rw [c33_22]; decide) (by rw [c33_22]; rfl) (by decide) ?_
                                                  refine lv_aload_n X.1.1 X.1.2.1 dL_law_898 rfl (lv_at hl 1 rfl) ?_
                                                  refine lv_aload_n X.1.1 X.1.2.1 dL_law_899 rfl (lv_at hl 0 rfl) ?_
                                                  refine lv_iload_n X.1.1 X.1.2.1 dL_law_900 rfl (lv_at hl 3 rfl) ?_
                                                  refine lv_iconst (v := 1) X.1.1 X.1.2.1 dL_law_901 (by decide) ?_
                                                  refine lv_iadd X.1.1 X.1.2.1 dL_law_902 ?_
                                                  refine e_sld X hX hbl hbA hS dL_law_903 hf (fun v178 hf => ?_)
                                                  refine lv_aload_n X.1.1 X.1.2.1 dL_law_904 rfl (lv_at hl 0 rfl) ?_
                                                  refine lv_iload_n X.1.1 X.1.2.1 dL_law_905 rfl (lv_at hl 3 rfl) ?_
                                                  refine lv_iconst (v := 2) X.1.1 X.1.2.1 dL_law_906 (by decide) ?_
                                                  refine lv_iadd X.1.1 X.1.2.1 dL_law_907 ?_
                                                  refine e_sld X hX hbl hbA hS dL_law_908 hf (fun v179 hf => ?_)
                                                  refine e_vi (rest := []) (As := [.int v178, .int v179]) X hl.1 hW hS (C := RX8) (T := TX8) (N := 11) rfl (by decide) (ctfX8_better X.2.2.2.2 F v178 v179 μ) (cwV (rm := rmX8_better) 2 X.1.2.2.2.2 (gd_V mw_3_100 mw_3_101 mw_3_102 mw_1_1 mw_3_103) rfl rfl rfl (by decide +kernel) ⟨Nat.le_of_ble_eq_true rfl, Nat.le_of_ble_eq_true rfl⟩) rfl rfl (Nat.le_of_ble_eq_true rfl) dL_law_909 ⟨hc0, hs0⟩ hf (fun r181 m180 H locs hf hW hS => ?_)
                                                  refine lv_pop X.1.1 X.1.2.1 dL_law_912 rfl ?_
                                                  refine lv_aload_n X.1.1 X.1.2.1 dL_law_913 rfl (lv_at hl 2 rfl) ?_
                                                  refine lv_aload_n X.1.1 X.1.2.1 dL_law_914 rfl (lv_at hl 0 rfl) ?_
                                                  refine lv_iload_n X.1.1 X.1.2.1 dL_law_915 rfl (lv_at hl 3 rfl) ?_
                                                  refine lv_iconst (v := 1) X.1.1 X.1.2.1 dL_law_916 (by decide) ?_
                                                  refine lv_iadd X.1.1 X.1.2.1 dL_law_917 ?_
                                                  refine e_sld X hX hbl hbA hS dL_law_918 hf (fun v182 hf => ?_)
                                                  refine lv_aload_n X.1.1 X.1.2.1 dL_law_919 rfl (lv_at hl 0 rfl) ?_
                                                  refine lv_iload_n X.1.1 X.1.2.1 dL_law_920 rfl (lv_at hl 3 rfl) ?_
                                                  refine lv_iconst (v := 2) X.1.1 X.1.2.1 dL_law_921 (by decide) ?_
                                                  refine lv_iadd X.1.1 X.1.2.1 dL_law_922 ?_
                                                  refine e_sld X hX hbl hbA hS dL_law_923 hf (fun v183 hf => ?_)
                                                  refine e_vi (rest := []) (As := [.int v182, .int v183]) X hl.1 hW hS (C := RX9) (T := TX9) (N := 35) rfl (by decide) (ctfX9_better X.2.2.2.2 F v182 v183 m180) (cwV (rm := rmX9_better) 2 X.1.2.2.2.2 (gd_V mw_5_10 mw_5_11 mw_5_12 mw_1_11 mw_5_13) rfl rfl rfl (by decide +kernel) ⟨Nat.le_of_ble_eq_true rfl, Nat.le_of_ble_eq_true rfl⟩) rfl rfl (Nat.le_of_ble_eq_true rfl) dL_law_924 ⟨hc0, hs0⟩ hf (fun r185 m184 H locs hf hW hS => ?_)
                                                  refine lv_pop X.1.1 X.1.2.1 dL_law_927 rfl ?_
                                                  refine lv_goto (tgt := 1076) X.1.1 X.1.2.1 dL_law_928 (by decide) ?_
                                                  refine lv_iinc (v := (y3 + 6)) (lv' := [(3, .int (y3 + 6)), (0, .ref b), (1, .ref (E.1 0)), (2, .ref (E.1 89))]) X.1.1 X.1.2.1 dL_law_1076 hl (k := 3) rfl rfl (by decide) rfl (fun ls hl => ?_)
                                                  refine lv_goto (tgt := 18) X.1.1 X.1.2.1 dL_law_1079 (by decide) ?_
                                                  exact hrec18 (y3 + 6) m184 H locs ls hf hW hS (lv_sub hl [1, 2, 3, 0] rfl)
                                                · rw [if_neg c33_22] at hf
                                                  by_cases c33_23 : (v1 &&& 31) = 23
                                                  · rw [if_pos c33_23] at hf
                                                    refine lv_tableIn (off := 898) (tgt := 931) X.1.1 X.1.2.1 dL_law_33 (by rw [c33_23]; decide) (by rw [c33_23]; decide) (by rw [c33_23]; rfl) (by decide) ?_
                                                    refine lv_aload_n X.1.1 X.1.2.1 dL_law_931 rfl (lv_at hl 1 rfl) ?_
                                                    refine lv_aload_n X.1.1 X.1.2.1 dL_law_932 rfl (lv_at hl 0 rfl) ?_
                                                    refine lv_iload_n X.1.1 X.1.2.1 dL_law_933 rfl (lv_at hl 3 rfl) ?_
                                                    refine lv_iconst (v := 1) X.1.1 X.1.2.1 dL_law_934 (by decide) ?_
                                                    refine lv_iadd X.1.1 X.1.2.1 dL_law_935 ?_
                                                    refine e_sld X hX hbl hbA hS dL_law_936 hf (fun v186 hf => ?_)
                                                    refine e_vi (rest := []) (As := [.int v186]) X hl.1 hW hS (C := RX8) (T := TX8) (N := 11) rfl (by decide) (ctfX8_best X.2.2.2.2 F v186 μ) (cwV (rm := rmX8_best) 1 X.1.2.2.2.2 (gd_V mw_3_109 mw_3_110 mw_3_111 mw_1_1 mw_3_112) rfl rfl rfl (by decide +kernel) ⟨Nat.le_of_ble_eq_true rfl, Nat.le_of_ble_eq_true rfl⟩) rfl rfl (Nat.le_of_ble_eq_true rfl) dL_law_937 ⟨hc0, hs0⟩ hf (fun r188 m187 H locs hf hW hS => ?_)
                                                    refine lv_pop X.1.1 X.1.2.1 dL_law_940 rfl ?_
                                                    refine lv_aload_n X.1.1 X.1.2.1 dL_law_941 rfl (lv_at hl 2 rfl) ?_
                                                    refine lv_aload_n X.1.1 X.1.2.1 dL_law_942 rfl (lv_at hl 0 rfl) ?_
                                                    refine lv_iload_n X.1.1 X.1.2.1 dL_law_943 rfl (lv_at hl 3 rfl) ?_
                                                    refine lv_iconst (v := 1) X.1.1 X.1.2.1 dL_law_944 (by decide) ?_
                                                    refine lv_iadd X.1.1 X.1.2.1 dL_law_945 ?_
                                                    refine e_sld X hX hbl hbA hS dL_law_946 hf (fun v189 hf => ?_)
                                                    refine e_vi (rest := []) (As := [.int v189]) X hl.1 hW hS (C := RX9) (T := TX9) (N := 35) rfl (by decide) (ctfX9_best X.2.2.2.2 F v189 m187) (cwV (rm := rmX9_best) 1 X.1.2.2.2.2 (gd_V mw_5_14 mw_5_15 mw_5_16 mw_1_11 mw_5_17) rfl rfl rfl (by decide +kernel) ⟨Nat.le_of_ble_eq_true rfl, Nat.le_of_ble_eq_true rfl⟩) rfl rfl (Nat.le_of_ble_eq_true rfl) dL_law_947 ⟨hc0, hs0⟩ hf (fun r191 m190 H locs hf hW hS => ?_)
                                                    refine lv_pop X.1.1 X.1.2.1 dL_law_950 rfl ?_
                                                    refine lv_goto (tgt := 1076) X.1.1 X.1.2.1 dL_law_951 (by decide) ?_
                                                    refine lv_iinc (v := (y3 + 6)) (lv' := [(3, .int (y3 + 6)), (0, .ref b), (1, .ref (E.1 0)), (2, .ref (E.1 89))]) X.1.1 X.1.2.1 dL_law_1076 hl (k := 3) rfl rfl (by decide) rfl (fun ls hl => ?_)
                                                    refine lv_goto (tgt := 18) X.1.1 X.1.2.1 dL_law_1079 (by decide) ?_
                                                    exact hrec18 (y3 + 6) m190 H locs ls hf hW hS (lv_sub hl [1, 2, 3, 0] rfl)
                                                  · rw [if_neg c33_23] at hf
                                                    by_cases c33_24 : (v1 &&& 31) = 24
                                                    · rw [if_pos c33_24] at hf
                                                      refine lv_tableIn (off := 921) (tgt := 954) X.1.1 X.1.2.1 dL_law_33 (by rw [c33_24]; decide) (by rw [c33_24]; decide) (by rw [c33_24]; rfl) (by decide) ?_
                                                      refine lv_aload_n X.1.1 X.1.2.1 dL_law_954 rfl (lv_at hl 1 rfl) ?_
                                                      refine lv_aload_n X.1.1 X.1.2.1 dL_law_955 rfl (lv_at hl 0 rfl) ?_
                                                      refine lv_iload_n X.1.1 X.1.2.1 dL_law_956 rfl (lv_at hl 3 rfl) ?_
                                                      refine lv_iconst (v := 1) X.1.1 X.1.2.1 dL_law_957 (by decide) ?_
                                                      refine lv_iadd X.1.1 X.1.2.1 dL_law_958 ?_
                                                      refine e_sld X hX hbl hbA hS dL_law_959 hf (fun v192 hf => ?_)
                                                      refine e_vi (rest := []) (As := [.int v192]) X hl.1 hW hS (C := RX8) (T := TX8) (N := 11) rfl (by decide) (ctfX8_rings X.2.2.2.2 F v192 μ) (cwV (rm := rmX8_rings) 1 X.1.2.2.2.2 (gd_V mw_3_113 mw_3_114 mw_3_115 mw_1_1 mw_3_116) rfl rfl rfl (by decide +kernel) ⟨Nat.le_of_ble_eq_true rfl, Nat.le_of_ble_eq_true rfl⟩) rfl rfl (Nat.le_of_ble_eq_true rfl) dL_law_960 ⟨hc0, hs0⟩ hf (fun r194 m193 H locs hf hW hS => ?_)
                                                      refine lv_pop X.1.1 X.1.2.1 dL_law_963 rfl ?_
                                                      refine lv_aload_n X.1.1 X.1.2.1 dL_law_964 rfl (lv_at hl 2 rfl) ?_
                                                      refine lv_aload_n X.1.1 X.1.2.1 dL_law_965 rfl (lv_at hl 0 rfl) ?_
                                                      refine lv_iload_n X.1.1 X.1.2.1 dL_law_966 rfl (lv_at hl 3 rfl) ?_
                                                      refine lv_iconst (v := 1) X.1.1 X.1.2.1 dL_law_967 (by decide) ?_
                                                      refine lv_iadd X.1.1 X.1.2.1 dL_law_968 ?_
                                                      refine e_sld X hX hbl hbA hS dL_law_969 hf (fun v195 hf => ?_)
                                                      refine e_vi (rest := []) (As := [.int v195]) X hl.1 hW hS (C := RX9) (T := TX9) (N := 35) rfl (by decide) (ctfX9_rings X.2.2.2.2 F v195 m193) (cwV (rm := rmX9_rings) 1 X.1.2.2.2.2 (gd_V mw_5_18 mw_5_19 mw_5_20 mw_1_11 mw_5_21) rfl rfl rfl (by decide +kernel) ⟨Nat.le_of_ble_eq_true rfl, Nat.le_of_ble_eq_true rfl⟩) rfl rfl (Nat.le_of_ble_eq_true rfl) dL_law_970 ⟨hc0, hs0⟩ hf (fun r197 m196 H locs hf hW hS => ?_)
                                                      refine lv_pop X.1.1 X.1.2.1 dL_law_973 rfl ?_
                                                      refine lv_goto (tgt := 1076) X.1.1 X.1.2.1 dL_law_974 (by decide) ?_
                                                      refine lv_iinc (v := (y3 + 6)) (lv' := [(3, .int (y3 + 6)), (0, .ref b), (1, .ref (E.1 0)), (2, .ref (E.1 89))]) X.1.1 X.1.2.1 dL_law_1076 hl (k := 3) rfl rfl (by decide) rfl (fun ls hl => ?_)
                                                      refine lv_goto (tgt := 18) X.1.1 X.1.2.1 dL_law_1079 (by decide) ?_
                                                      exact hrec18 (y3 + 6) m196 H locs ls hf hW hS (lv_sub hl [1, 2, 3, 0] rfl)
                                                    · rw [if_neg c33_24] at hf
                                                      by_cases c33_25 : (v1 &&& 31) = 25
                                                      · rw [if_pos c33_25] at hf
                                                        refine lv_tableIn (off := 944) (tgt := 977) X.1.1 X.1.2.1 dL_law_33 (by rw [c33_25]; decide) (by rw [c33_25]; decide) (by rw [c33_25]; rfl) (by decide) ?_
                                                        refine lv_aload_n X.1.1 X.1.2.1 dL_law_977 rfl (lv_at hl 1 rfl) ?_
                                                        refine e_vi (rest := []) (As := []) X hl.1 hW hS (C := RX8) (T := TX8) (N := 11) rfl (by decide) (ctfX8_cost X.2.2.2.2 F μ) (cwV (rm := rmX8_cost) 0 X.1.2.2.2.2 (gd_V mw_3_117 mw_3_118 mw_3_119 mw_1_1 mw_3_120) rfl rfl rfl (by decide +kernel) ⟨Nat.le_of_ble_eq_true rfl, Nat.le_of_ble_eq_true rfl⟩) rfl rfl (Nat.le_of_ble_eq_true rfl) dL_law_978 ⟨hc0, hs0⟩ hf (fun r199 m198 H locs hf hW hS => ?_)
                                                        refine lv_pop X.1.1 X.1.2.1 dL_law_981 rfl ?_
                                                        refine lv_aload_n X.1.1 X.1.2.1 dL_law_982 rfl (lv_at hl 2 rfl) ?_
                                                        refine e_vi (rest := []) (As := []) X hl.1 hW hS (C := RX9) (T := TX9) (N := 35) rfl (by decide) (ctfX9_cost X.2.2.2.2 F m198) (cwV (rm := rmX9_cost) 0 X.1.2.2.2.2 (gd_V mw_5_22 mw_5_23 mw_5_24 mw_1_11 mw_5_25) rfl rfl rfl (by decide +kernel) ⟨Nat.le_of_ble_eq_true rfl, Nat.le_of_ble_eq_true rfl⟩) rfl rfl (Nat.le_of_ble_eq_true rfl) dL_law_983 ⟨hc0, hs0⟩ hf (fun r201 m200 H locs hf hW hS => ?_)
                                                        refine lv_pop X.1.1 X.1.2.1 dL_law_986 rfl ?_
                                                        refine lv_goto (tgt := 1076) X.1.1 X.1.2.1 dL_law_987 (by decide) ?_
                                                        refine lv_iinc (v := (y3 + 6)) (lv' := [(3, .int (y3 + 6)), (0, .ref b), (1, .ref (E.1 0)), (2, .ref (E.1 89))]) X.1.1 X.1.2.1 dL_law_1076 hl (k := 3) rfl rfl (by decide) rfl (fun ls hl => ?_)
                                                        refine lv_goto (tgt := 18) X.1.1 X.1.2.1 dL_law_1079 (by decide) ?_
                                                        exact hrec18 (y3 + 6) m200 H locs ls hf hW hS (lv_sub hl [1, 2, 3, 0] rfl)
                                                      · rw [if_neg c33_25] at hf
                                                        by_cases c33_26 : (v1 &&& 31) = 26
                                                        · rw [if_pos c33_26] at hf
                                                          refine lv_tableIn (off := 957) (tgt := 990) X.1.1 X.1.2.1 dL_law_33 (by rw [c33_26]; decide) (by rw [c33_26]; decide) (by rw [c33_26]; rfl) (by decide) ?_
                                                          refine lv_aload_n X.1.1 X.1.2.1 dL_law_990 rfl (lv_at hl 1 rfl) ?_
                                                          refine e_vi (rest := []) (As := []) X hl.1 hW hS (C := RX8) (T := TX8) (N := 11) rfl (by decide) (ctfX8_round X.2.2.2.2 F μ) (cwV (rm := rmX8_round) 0 X.1.2.2.2.2 (gd_V mw_3_126 mw_3_127 mw_3_128 mw_1_1 mw_3_129) rfl rfl rfl (by decide +kernel) ⟨Nat.le_of_ble_eq_true rfl, Nat.le_of_ble_eq_true rfl⟩) rfl rfl (Nat.le_of_ble_eq_true rfl) dL_law_991 ⟨hc0, hs0⟩ hf (fun r203 m202 H locs hf hW hS => ?_)
                                                          refine lv_pop X.1.1 X.1.2.1 dL_law_994 rfl ?_
                                                          refine lv_aload_n X.1.1 X.1.2.1 dL_law_995 rfl (lv_at hl 2 rfl) ?_
                                                          refine e_vi (rest := []) (As := []) X hl.1 hW hS (C := RX9) (T := TX9) (N := 35) rfl (by decide) (ctfX9_round X.2.2.2.2 F m202) (cwV (rm := rmX9_round) 0 X.1.2.2.2.2 (gd_V mw_5_30 mw_5_31 mw_5_32 mw_1_11 mw_5_33) rfl rfl rfl (by decide +kernel) ⟨Nat.le_of_ble_eq_true rfl, Nat.le_of_ble_eq_true rfl⟩) rfl rfl (Nat.le_of_ble_eq_true rfl) dL_law_996 ⟨hc0, hs0⟩ hf (fun r205 m204 H locs hf hW hS => ?_)
                                                          refine lv_pop X.1.1 X.1.2.1 dL_law_999 rfl ?_
                                                          refine lv_goto (tgt := 1076) X.1.1 X.1.2.1 dL_law_1000 (by decide) ?_
                                                          refine lv_iinc (v := (y3 + 6)) (lv' := [(3, .int (y3 + 6)), (0, .ref b), (1, .ref (E.1 0)), (2, .ref (E.1 89))]) X.1.1 X.1.2.1 dL_law_1076 hl (k := 3) rfl rfl (by decide) rfl (fun ls hl => ?_)
                                                          refine lv_goto (tgt := 18) X.1.1 X.1.2.1 dL_law_1079 (by decide) ?_
                                                          exact hrec18 (y3 + 6) m204 H locs ls hf hW hS (lv_sub hl [1, 2, 3, 0] rfl)
                                                        · rw [if_neg c33_26] at hf
                                                          by_cases c33_27 : (v1 &&& 31) = 27
                                                          · rw [if_pos c33_27] at hf
                                                            refine lv_tableIn (off := 970) (tgt := 1003) X.1.1 X.1.2.1 dL_law_33 (by rw [c33_27]; decide) (by rw [c33_27]; decide) (by rw [c33_27]; rfl) (by decide) ?_
                                                            refine lv_aload_n X.1.1 X.1.2.1 dL_law_1003 rfl (lv_at hl 1 rfl) ?_
                                                            refine e_vi (rest := []) (As := []) X hl.1 hW hS (C := RX8) (T := TX8) (N := 11) rfl (by decide) (ctfX8_through X.2.2.2.2 F μ) (cwV (rm := rmX8_through) 0 X.1.2.2.2.2 (gd_V mw_3_134 mw_3_135 mw_3_136 mw_1_1 mw_3_137) rfl rfl rfl (by decide +kernel) ⟨Nat.le_of_ble_eq_true rfl, Nat.le_of_ble_eq_true rfl⟩) rfl rfl (Nat.le_of_ble_eq_true rfl) dL_law_1004 ⟨hc0, hs0⟩ hf (fun r207 m206 H locs hf hW hS => ?_)
                                                            refine lv_pop X.1.1 X.1.2.1 dL_law_1007 rfl ?_
                                                            refine lv_aload_n X.1.1 X.1.2.1 dL_law_1008 rfl (lv_at hl 2 rfl) ?_
                                                            refine e_vi (rest := []) (As := []) X hl.1 hW hS (C := RX9) (T := TX9) (N := 35) rfl (by decide) (ctfX9_through X.2.2.2.2 F m206) (cwV (rm := rmX9_through) 0 X.1.2.2.2.2 (gd_V mw_5_34 mw_5_35 mw_5_36 mw_1_11 mw_5_37) rfl rfl rfl (by decide +kernel) ⟨Nat.le_of_ble_eq_true rfl, Nat.le_of_ble_eq_true rfl⟩) rfl rfl (Nat.le_of_ble_eq_true rfl) dL_law_1009 ⟨hc0, hs0⟩ hf (fun r209 m208 H locs hf hW hS => ?_)
                                                            refine lv_pop X.1.1 X.1.2.1 dL_law_1012 rfl ?_
                                                            refine lv_goto (tgt := 1076) X.1.1 X.1.2.1 dL_law_1013 (by decide) ?_
                                                            refine lv_iinc (v := (y3 + 6)) (lv' := [(3, .int (y3 + 6)), (0, .ref b), (1, .ref (E.1 0)), (2, .ref (E.1 89))]) X.1.1 X.1.2.1 dL_law_1076 hl (k := 3) rfl rfl (by decide) rfl (fun ls hl => ?_)
                                                            refine lv_goto (tgt := 18) X.1.1 X.1.2.1 dL_law_1079 (by decide) ?_
                                                            exact hrec18 (y3 + 6) m208 H locs ls hf hW hS (lv_sub hl [1, 2, 3, 0] rfl)
                                                          · rw [if_neg c33_27] at hf
                                                            by_cases c33_28 : (v1 &&& 31) = 28
                                                            · rw [if_pos c33_28] at hf
                                                              refine lv_tableIn (off := 983) (tgt := 1016) X.1.1 X.1.2.1 dL_law_33 (by rw [c33_28]; decide) (by rw [c33_28]; decide) (by rw [c33_28]; rfl) (by decide) ?_
                                                              refine lv_aload_n X.1.1 X.1.2.1 dL_law_1016 rfl (lv_at hl 1 rfl) ?_
                                                              refine lv_aload_n X.1.1 X.1.2.1 dL_law_1017 rfl (lv_at hl 0 rfl) ?_
                                                              refine lv_iload_n X.1.1 X.1.2.1 dL_law_1018 rfl (lv_at hl 3 rfl) ?_
                                                              refine lv_iconst (v := 1) X.1.1 X.1.2.1 dL_law_1019 (by decide) ?_
                                                              refine lv_iadd X.1.1 X.1.2.1 dL_law_1020 ?_
                                                              refine e_sld X hX hbl hbA hS dL_law_1021 hf (fun v210 hf => ?_)
                                                              refine e_vi (rest := []) (As := [.int v210]) X hl.1 hW hS (C := RX8) (T := TX8) (N := 11) rfl (by decide) (ctfX8_batches X.2.2.2.2 F v210 μ) (cwV (rm := rmX8_batches) 1 X.1.2.2.2.2 (gd_V mw_3_147 mw_3_148 mw_3_149 mw_1_1 mw_3_150) rfl rfl rfl (by decide +kernel) ⟨Nat.le_of_ble_eq_true rfl, Nat.le_of_ble_eq_true rfl⟩) rfl rfl (Nat.le_of_ble_eq_true rfl) dL_law_1022 ⟨hc0, hs0⟩ hf (fun r212 m211 H locs hf hW hS => ?_)
                                                              refine lv_pop X.1.1 X.1.2.1 dL_law_1025 rfl ?_
                                                              refine lv_aload_n X.1.1 X.1.2.1 dL_law_1026 rfl (lv_at hl 2 rfl) ?_
                                                              refine lv_aload_n X.1.1 X.1.2.1 dL_law_1027 rfl (lv_at hl 0 rfl) ?_
                                                              refine lv_iload_n X.1.1 X.1.2.1 dL_law_1028 rfl (lv_at hl 3 rfl) ?_
                                                              refine lv_iconst (v := 1) X.1.1 X.1.2.1 dL_law_1029 (by decide) ?_
                                                              refine lv_iadd X.1.1 X.1.2.1 dL_law_1030 ?_
                                                              refine e_sld X hX hbl hbA hS dL_law_1031 hf (fun v213 hf => ?_)
                                                              refine e_vi (rest := []) (As := [.int v213]) X hl.1 hW hS (C := RX9) (T := TX9) (N := 35) rfl (by decide) (ctfX9_batches X.2.2.2.2 F v213 m211) (cwV (rm := rmX9_batches) 1 X.1.2.2.2.2 (gd_V mw_5_38 mw_5_39 mw_5_40 mw_1_11 mw_5_41) rfl rfl rfl (by decide +kernel) ⟨Nat.le_of_ble_eq_true rfl, Nat.le_of_ble_eq_true rfl⟩) rfl rfl (Nat.le_of_ble_eq_true rfl) dL_law_1032 ⟨hc0, hs0⟩ hf (fun r215 m214 H locs hf hW hS => ?_)
                                                              refine lv_pop X.1.1 X.1.2.1 dL_law_1035 rfl ?_
                                                              refine lv_goto (tgt := 1076) X.1.1 X.1.2.1 dL_law_1036 (by decide) ?_
                                                              refine lv_iinc (v := (y3 + 6)) (lv' := [(3, .int (y3 + 6)), (0, .ref b), (1, .ref (E.1 0)), (2, .ref (E.1 89))]) X.1.1 X.1.2.1 dL_law_1076 hl (k := 3) rfl rfl (by decide) rfl (fun ls hl => ?_)
                                                              refine lv_goto (tgt := 18) X.1.1 X.1.2.1 dL_law_1079 (by decide) ?_
                                                              exact hrec18 (y3 + 6) m214 H locs ls hf hW hS (lv_sub hl [1, 2, 3, 0] rfl)
                                                            · rw [if_neg c33_28] at hf
                                                              by_cases c33_29 : (v1 &&& 31) = 29
                                                              · rw [if_pos c33_29] at hf
                                                                refine lv_tableIn (off := 1006) (tgt := 1039) X.1.1 X.1.2.1 dL_law_33 (by rw [c33_29]; decide) (by rw [c33_29]; decide) (by rw [c33_29]; rfl) (by decide) ?_
                                                                refine lv_aload_n X.1.1 X.1.2.1 dL_law_1039 rfl (lv_at hl 1 rfl) ?_
                                                                refine lv_aload_n X.1.1 X.1.2.1 dL_law_1040 rfl (lv_at hl 0 rfl) ?_
                                                                refine lv_iload_n X.1.1 X.1.2.1 dL_law_1041 rfl (lv_at hl 3 rfl) ?_
                                                                refine lv_iconst (v := 1) X.1.1 X.1.2.1 dL_law_1042 (by decide) ?_
                                                                refine lv_iadd X.1.1 X.1.2.1 dL_law_1043 ?_
                                                                refine e_sld X hX hbl hbA hS dL_law_1044 hf (fun v216 hf => ?_)
                                                                refine e_vi (rest := []) (As := [.int v216]) X hl.1 hW hS (C := RX8) (T := TX8) (N := 11) rfl (by decide) (ctfX8_count X.2.2.2.2 F v216 μ) (cwV (rm := rmX8_count) 1 X.1.2.2.2.2 (gd_V mw_3_152 mw_3_153 mw_3_154 mw_1_1 mw_3_155) rfl rfl rfl (by decide +kernel) ⟨Nat.le_of_ble_eq_true rfl, Nat.le_of_ble_eq_true rfl⟩) rfl rfl (Nat.le_of_ble_eq_true rfl) dL_law_1045 ⟨hc0, hs0⟩ hf (fun r218 m217 H locs hf hW hS => ?_)
                                                                refine lv_pop X.1.1 X.1.2.1 dL_law_1048 rfl ?_
                                                                refine lv_aload_n X.1.1 X.1.2.1 dL_law_1049 rfl (lv_at hl 2 rfl) ?_
                                                                refine lv_aload_n X.1.1 X.1.2.1 dL_law_1050 rfl (lv_at hl 0 rfl) ?_
                                                                refine lv_iload_n X.1.1 X.1.2.1 dL_law_1051 rfl (lv_at hl 3 rfl) ?_
                                                                refine lv_iconst (v := 1) X.1.1 X.1.2.1 dL_law_1052 (by decide) ?_
                                                                refine lv_iadd X.1.1 X.1.2.1 dL_law_1053 ?_
                                                                refine e_sld X hX hbl hbA hS dL_law_1054 hf (fun v219 hf => ?_)
                                                                refine e_vi (rest := []) (As := [.int v219]) X hl.1 hW hS (C := RX9) (T := TX9) (N := 35) rfl (by decide) (ctfX9_count X.2.2.2.2 F v219 m217) (cwV (rm := rmX9_count) 1 X.1.2.2.2.2 (gd_V mw_5_42 mw_5_43 mw_5_44 mw_1_11 mw_5_45) rfl rfl rfl (by decide +kernel) ⟨Nat.le_of_ble_eq_true rfl, Nat.le_of_ble_eq_true rfl⟩) rfl rfl (Nat.le_of_ble_eq_true rfl) dL_law_1055 ⟨hc0, hs0⟩ hf (fun r221 m220 H locs hf hW hS => ?_)
                                                                refine lv_pop X.1.1 X.1.2.1 dL_law_1058 rfl ?_
                                                                refine lv_goto (tgt := 1076) X.1.1 X.1.2.1 dL_law_1059 (by decide) ?_
                                                                refine lv_iinc (v := (y3 + 6)) (lv' := [(3, .int (y3 + 6)), (0, .ref b), (1, .ref (E.1 0)), (2, .ref (E.1 89))]) X.1.1 X.1.2.1 dL_law_1076 hl (k := 3) rfl rfl (by decide) rfl (fun ls hl => ?_)
                                                                refine lv_goto (tgt := 18) X.1.1 X.1.2.1 dL_law_1079 (by decide) ?_
                                                                exact hrec18 (y3 + 6) m220 H locs ls hf hW hS (lv_sub hl [1, 2, 3, 0] rfl)
                                                              · rw [if_neg c33_29] at hf
                                                                by_cases c33_30 : (v1 &&& 31) = 30
                                                                · rw [if_pos c33_30] at hf
                                                                  refine lv_tableIn (off := 1029) (tgt := 1062) X.1.1 X.1.2.1 dL_law_33 (by rw [c33_30]; decide) (by rw [c33_30]; decide) (by rw [c33_30]; rfl) (by decide) ?_
                                                                  refine lv_aload_n X.1.1 X.1.2.1 dL_law_1062 rfl (lv_at hl 1 rfl) ?_
                                                                  refine e_vl (rest := []) (As := []) X hl.1 hW hS (C := RX8) (T := TX8) (N := 11) rfl (by decide) (ctfX8_digest X.2.2.2.2 F μ) (cwV (rm := rmX8_digest) 0 X.1.2.2.2.2 (gd_V mw_3_156 mw_3_157 mw_3_158 mw_1_1 mw_3_159) rfl rfl rfl (by decide +kernel) ⟨Nat.le_of_ble_eq_true rfl, Nat.le_of_ble_eq_true rfl⟩) rfl rfl (Nat.le_of_ble_eq_true rfl) dL_law_1063 ⟨hc0, hs0⟩ hf (fun r223 m222 H locs hf hW hS => ?_)
                                                                  refine lv_aload_n X.1.1 X.1.2.1 dL_law_1066 rfl (lv_at hl 2 rfl) ?_
                                                                  refine e_vl (rest := [.long r223]) (As := []) X hl.1 hW hS (C := RX9) (T := TX9) (N := 35) rfl (by decide) (ctfX9_digest X.2.2.2.2 F m222) (cwV (rm := rmX9_digest) 0 X.1.2.2.2.2 (gd_V mw_5_46 mw_5_47 mw_5_48 mw_1_11 mw_5_49) rfl rfl rfl (by decide +kernel) ⟨Nat.le_of_ble_eq_true rfl, Nat.le_of_ble_eq_true rfl⟩) rfl rfl (Nat.le_of_ble_eq_true rfl) dL_law_1067 ⟨hc0, hs0⟩ hf (fun r225 m224 H locs hf hW hS => ?_)
                                                                  refine W.lcmp X.1.1 X.1.2.1 dL_law_1070 ?_
                                                                  refine lv_if_eq (tgt := 1076) X.1.1 X.1.2.1 dL_law_1071 (by decide) (fun c1071 => ?_) (fun c1071 => ?_)
                                                                  · replace c1071 := lc_eq.mp c1071
                                                                    rw [if_pos c1071] at hf
                                                                    refine lv_iinc (v := (y3 + 6)) (lv' := [(3, .int (y3 + 6)), (0, .ref b), (1, .ref (E.1 0)), (2, .ref (E.1 89))]) X.1.1 X.1.2.1 dL_law_1076 hl (k := 3) rfl rfl (by decide) rfl (fun ls hl => ?_)
                                                                    refine lv_goto (tgt := 18) X.1.1 X.1.2.1 dL_law_1079 (by decide) ?_
                                                                    exact hrec18 (y3 + 6) m224 H locs ls hf hW hS (lv_sub hl [1, 2, 3, 0] rfl)
                                                                  · replace c1071 := mt lc_eq.mpr c1071
                                                                    rw [if_neg c1071] at hf
                                                                    refine lv_iconst (v := 0) X.1.1 X.1.2.1 dL_law_1074 (by decide) ?_
                                                                    cases hf
                                                                · rw [if_neg c33_30] at hf
                                                                  refine lv_tableOut (tgt := 1076) X.1.1 X.1.2.1 dL_law_33 (by have e0 := lv_neT c33_0 (a := 0) rfl; have e1 := lv_neT c33_1 (a := 1) rfl; have e2 := lv_neT c33_2 (a := 2) rfl; have e3 := lv_neT c33_3 (a := 3) rfl; have e4 := lv_neT c33_4 (a := 4) rfl; have e5 := lv_neT c33_5 (a := 5) rfl; have e6 := lv_neT c33_6 (a := 6) rfl; have e7 := lv_neT c33_7 (a := 7) rfl; have e8 := lv_neT c33_8 (a := 8) rfl; have e9 := lv_neT c33_9 (a := 9) rfl; have e10 := lv_neT c33_10 (a := 10) rfl; have e11 := lv_neT c33_11 (a := 11) rfl; have e12 := lv_neT c33_12 (a := 12) rfl; have e13 := lv_neT c33_13 (a := 13) rfl; have e14 := lv_neT c33_14 (a := 14) rfl; have e15 := lv_neT c33_15 (a := 15) rfl; have e16 := lv_neT c33_16 (a := 16) rfl; have e17 := lv_neT c33_17 (a := 17) rfl; have e18 := lv_neT c33_18 (a := 18) rfl; have e19 := lv_neT c33_19 (a := 19) rfl; have e20 := lv_neT c33_20 (a := 20) rfl; have e21 := lv_neT c33_21 (a := 21) rfl; have e22 := lv_neT c33_22 (a := 22) rfl; have e23 := lv_neT c33_23 (a := 23) rfl; have e24 := lv_neT c33_24 (a := 24) rfl; have e25 := lv_neT c33_25 (a := 25) rfl; have e26 := lv_neT c33_26 (a := 26) rfl; have e27 := lv_neT c33_27 (a := 27) rfl; have e28 := lv_neT c33_28 (a := 28) rfl; have e29 := lv_neT c33_29 (a := 29) rfl; have e30 := lv_neT c33_30 (a := 30) rfl; have e := e0; omega) (by decide) ?_
                                                                  refine lv_iinc (v := (y3 + 6)) (lv' := [(3, .int (y3 + 6)), (0, .ref b), (1, .ref (E.1 0)), (2, .ref (E.1 89))]) X.1.1 X.1.2.1 dL_law_1076 hl (k := 3) rfl rfl (by decide) rfl (fun ls hl => ?_)
                                                                  refine lv_goto (tgt := 18) X.1.1 X.1.2.1 dL_law_1079 (by decide) ?_
                                                                  exact hrec18 (y3 + 6) μ H locs ls hf hW hS (lv_sub hl [1, 2, 3, 0] rfl)
theorem wfL_law {p : Program} {l : Launch} {e : Env} {s : State} {m : MethodId} {below : List Frame} {meth : Method} {c : Code} {E : Gv} {F : Nat} {xs : Nat → Int32} {L b : Nat} {H0 : Heap} {cells slots : Nat} (X : Fx p m c cL_law 4 s #[Value.ref b] w0L "OvenHouseLaw" meth (some .boolean) E) (hX : va_X b L xs s H0) (hbl : b < H0.size) (hbA : ¬ AE E b) (hA0 : ∀ q, AE E q → s.heap.size ≤ q) (hc0 : cells ≤ 600000) (hs0 : slots ≤ 7302250) (n : Nat) : ∀ (y3 : Int32) (μ : Mem) (H : Heap) (locs : List Loc) (ls : Array Slot) (_ : fL_law F xs L n y3 μ = some ()) (_ : Wo E μ H) (_ : va_S (AE E) H0 H locs) (_ : lv_has ls 4 [(0, .ref b), (1, .ref (E.1 0)), (2, .ref (E.1 89)), (3, .int y3)]), W p l e room_1 s m #[Value.ref b] below meth c H locs cells slots (lw_Z below #[Value.ref b] s) (F0 m 18 ls []) := by
  induction n with
  | zero => intro y3 μ H locs ls hf hW hS hl; cases hf
  | succ n ih => intro y3 μ H locs ls hf hW hS hl; exact wfL_law_b X hX hbl hbA hA0 hc0 hs0 _ ih y3 μ H locs ls hf hW hS hl
