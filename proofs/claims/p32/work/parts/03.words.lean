/-! the good words of the tables, and the place of each that a method needs -/
def GG : List Cond := lw_tbl.filter goodWord
theorem gg_of {w : Cond} (h : w ∈ lw_tbl) (hg : goodWord w = true) : w ∈ GG := List.mem_filter.mpr ⟨h, hg⟩
theorem gg_ok {w : Cond} (h : w ∈ GG) : goodWord w = true := (List.mem_filter.mp h).2
theorem gg_in {w : Cond} (h : w ∈ GG) : w ∈ lw_tbl := (List.mem_filter.mp h).1
theorem tb_0 {w : Cond} (i : Nat) (h : (k2_sels lw_privs)[i]? = some w) (hg : goodWord w = true) : w ∈ GG := gg_of (List.mem_append_left _ (List.mem_of_getElem? h)) hg
theorem tb_1 {w : Cond} (i : Nat) (h : tables_1_1[i]? = some w) (hg : goodWord w = true) : w ∈ GG := gg_of (List.mem_append_right _ (List.mem_append_left _ (List.mem_of_getElem? h))) hg
theorem tb_2 {w : Cond} (i : Nat) (h : tables_1_2[i]? = some w) (hg : goodWord w = true) : w ∈ GG := gg_of (List.mem_append_right _ (List.mem_append_right _ (List.mem_append_left _ (List.mem_of_getElem? h)))) hg
theorem tb_3 {w : Cond} (i : Nat) (h : tables_1_3[i]? = some w) (hg : goodWord w = true) : w ∈ GG := gg_of (List.mem_append_right _ (List.mem_append_right _ (List.mem_append_right _ (List.mem_append_left _ (List.mem_of_getElem? h))))) hg
theorem tb_4 {w : Cond} (i : Nat) (h : tables_1_4[i]? = some w) (hg : goodWord w = true) : w ∈ GG := gg_of (List.mem_append_right _ (List.mem_append_right _ (List.mem_append_right _ (List.mem_append_right _ (List.mem_append_left _ (List.mem_of_getElem? h)))))) hg
theorem tb_5 {w : Cond} (i : Nat) (h : tables_1_5[i]? = some w) (hg : goodWord w = true) : w ∈ GG := gg_of (List.mem_append_right _ (List.mem_append_right _ (List.mem_append_right _ (List.mem_append_right _ (List.mem_append_right _ (List.mem_of_getElem? h)))))) hg
theorem gd_V {w0 w1 : Cond} {own C : String} {i : Nat} {y : MethodName} (a : Cond.methodLink own i y ∈ GG) (b : Cond.instanceMethod y ∈ GG) (c : Cond.selects C y y ∈ GG) (d : Cond.initialized C ∈ GG) (e : w1 ∈ GG) : GoodIn (w0 :: GG) (wsV own i C y (w1 :: GG)) := by
  intro w h
  have k : w ∈ GG := by
    rcases List.mem_append.mp h with h | h
    · simp only [List.mem_cons, List.not_mem_nil, or_false] at h
      rcases h with rfl | rfl | rfl | rfl <;> assumption
    · rcases List.mem_cons.mp h with rfl | h <;> assumption
  exact ⟨List.mem_cons_of_mem _ k, good_of_word (gg_ok k)⟩
theorem gd_S {w0 w1 : Cond} {own : String} {i : Nat} {y : MethodName} (a : Cond.methodLink own i y ∈ GG) (b : Cond.static y ∈ GG) (d : Cond.initialized own ∈ GG) (e : w1 ∈ GG) : GoodIn (w0 :: GG) (wsS own i y (w1 :: GG)) := by
  intro w h
  have k : w ∈ GG := by
    rcases List.mem_append.mp h with h | h
    · simp only [List.mem_cons, List.not_mem_nil, or_false] at h
      rcases h with rfl | rfl | rfl <;> assumption
    · rcases List.mem_cons.mp h with rfl | h <;> assumption
  exact ⟨List.mem_cons_of_mem _ k, good_of_word (gg_ok k)⟩
theorem gd_N {w0 w1 : Cond} (e : w1 ∈ GG) : GoodIn (w0 :: GG) (w1 :: GG) := by
  intro w h
  have k : w ∈ GG := by rcases List.mem_cons.mp h with rfl | h <;> assumption
  exact ⟨List.mem_cons_of_mem _ k, good_of_word (gg_ok k)⟩
def nestL : List (String × Nat × MethodName × String) := [("OvenHouse", 18, ⟨"OvenHouse$Loaves", "<init>", "()V"⟩, "OvenHouse"), ("OvenHouse$History", 24, ⟨"OvenHouse$Loaves", "<init>", "()V"⟩, "OvenHouse"), ("OvenHouse", 32, ⟨"OvenHouse$Best", "<init>", "()V"⟩, "OvenHouse"), ("OvenHouse", 39, ⟨"OvenHouse$Day", "<init>", "()V"⟩, "OvenHouse"), ("OvenHouse", 46, ⟨"OvenHouse$Rings", "<init>", "()V"⟩, "OvenHouse"), ("OvenHouse", 53, ⟨"OvenHouse$Rows", "<init>", "()V"⟩, "OvenHouse"), ("OvenHouse$Loaves", 48, ⟨"OvenHouse", "rank", "([II[I)V"⟩, "OvenHouse"), ("OvenHouse$Loaves", 52, ⟨"OvenHouse", "exchange", "([III)V"⟩, "OvenHouse"), ("OvenHouse$Rings", 60, ⟨"OvenHouse", "rank", "([II[I)V"⟩, "OvenHouse"), ("OvenHouse$Rings", 112, ⟨"OvenHouse", "exchange", "([III)V"⟩, "OvenHouse"), ("OvenHouse$Rows", 19, ⟨"OvenHouse", "exchange", "([III)V"⟩, "OvenHouse")]
theorem mw_1_114 : (Cond.fieldLink "OvenHouse$Best" (9 : Nat) "OvenHouse$Best" "row" "[I") ∈ GG := tb_1 114 rfl rfl
theorem mw_3_77 : (Cond.methodLink "OvenHouse$Best" (23 : Nat) ({ cls := "java/lang/System", name := "arraycopy", desc := "(Ljava/lang/Object;ILjava/lang/Object;II)V" } : MethodName)) ∈ GG := tb_3 77 rfl rfl
theorem mw_2_100 : (Cond.native ({ cls := "java/lang/System", name := "arraycopy", desc := "(Ljava/lang/Object;ILjava/lang/Object;II)V" } : MethodName)) ∈ GG := tb_2 100 rfl rfl
theorem mw_2_99 : (Cond.static ({ cls := "java/lang/System", name := "arraycopy", desc := "(Ljava/lang/Object;ILjava/lang/Object;II)V" } : MethodName)) ∈ GG := tb_2 99 rfl rfl
theorem mw_1_12 : (Cond.initialized "java/lang/System") ∈ GG := tb_1 12 rfl rfl
theorem mw_1_116 : (Cond.fieldLink "OvenHouse$Best" (15 : Nat) "OvenHouse$Best" "size" "I") ∈ GG := tb_1 116 rfl rfl
theorem mw_1_118 : (Cond.fieldLink "OvenHouse$Best" (19 : Nat) "OvenHouse$Best" "fresh" "Z") ∈ GG := tb_1 118 rfl rfl
theorem mw_1_142 : (Cond.fieldLink "OvenHouse$Day" (27 : Nat) "OvenHouse$Day" "law" "I") ∈ GG := tb_1 142 rfl rfl
theorem mw_1_143 : (Cond.fieldLink "OvenHouse$Day" (31 : Nat) "OvenHouse$Day" "k" "I") ∈ GG := tb_1 143 rfl rfl
theorem mw_1_141 : (Cond.fieldLink "OvenHouse$Day" (24 : Nat) "OvenHouse$Day" "mixerFree" "[I") ∈ GG := tb_1 141 rfl rfl
theorem mw_1_139 : (Cond.fieldLink "OvenHouse$Day" (21 : Nat) "OvenHouse$Day" "bakeTo" "[I") ∈ GG := tb_1 139 rfl rfl
theorem mw_1_133 : (Cond.fieldLink "OvenHouse$Day" (9 : Nat) "OvenHouse$Day" "mixFrom" "[I") ∈ GG := tb_1 133 rfl rfl
theorem mw_2_197 : (Cond.methodLink "OvenHouse$Day" (49 : Nat) ({ cls := "java/lang/Math", name := "max", desc := "(II)I" } : MethodName)) ∈ GG := tb_2 197 rfl rfl
theorem mw_2_198 : (Cond.static ({ cls := "java/lang/Math", name := "max", desc := "(II)I" } : MethodName)) ∈ GG := tb_2 198 rfl rfl
theorem mw_1_13 : (Cond.initialized "java/lang/Math") ∈ GG := tb_1 13 rfl rfl
theorem mw_2_199 : (Cond.code ({ cls := "java/lang/Math", name := "max", desc := "(II)I" } : MethodName) prog_12_method_65_code (2 : Nat) (Option.some FieldType.int)) ∈ GG := tb_2 199 rfl rfl
theorem mw_1_135 : (Cond.fieldLink "OvenHouse$Day" (15 : Nat) "OvenHouse$Day" "mixTo" "[I") ∈ GG := tb_1 135 rfl rfl
theorem mw_1_137 : (Cond.fieldLink "OvenHouse$Day" (18 : Nat) "OvenHouse$Day" "bakeFrom" "[I") ∈ GG := tb_1 137 rfl rfl
theorem mw_1_71 : (Cond.fieldLink "OvenHouse$Day" (34 : Nat) "OvenHouse$Loaves" "size" "I") ∈ GG := tb_1 71 rfl rfl
theorem mw_1_58 : (Cond.fieldLink "OvenHouse$Day" (39 : Nat) "OvenHouse$Loaves" "mix" "[I") ∈ GG := tb_1 58 rfl rfl
theorem mw_1_61 : (Cond.fieldLink "OvenHouse$Day" (42 : Nat) "OvenHouse$Loaves" "bake" "[I") ∈ GG := tb_1 61 rfl rfl
theorem mw_2_196 : (Cond.code ({ cls := "OvenHouse$Day", name := "lay", desc := "(III)V" } : MethodName) prog_3_method_4_code (6 : Nat) (Option.none : Option FieldType)) ∈ GG := tb_2 196 rfl rfl
theorem mw_2_193 : (Cond.methodLink "OvenHouse$Day" (45 : Nat) ({ cls := "OvenHouse$Day", name := "lay", desc := "(III)V" } : MethodName)) ∈ GG := tb_2 193 rfl rfl
theorem mw_2_195 : (Cond.instanceMethod ({ cls := "OvenHouse$Day", name := "lay", desc := "(III)V" } : MethodName)) ∈ GG := tb_2 195 rfl rfl
theorem mw_0_0 : Cond.selects "OvenHouse$Day" ⟨"OvenHouse$Day", "lay", "(III)V"⟩ ⟨"OvenHouse$Day", "lay", "(III)V"⟩ ∈ GG := tb_0 0 (by decide +kernel) rfl
theorem mw_1_7 : (Cond.initialized "OvenHouse$Day") ∈ GG := tb_1 7 rfl rfl
theorem mw_1_70 : (Cond.fieldLink "OvenHouse$Loaves" (30 : Nat) "OvenHouse$Loaves" "size" "I") ∈ GG := tb_1 70 rfl rfl
theorem mw_1_57 : (Cond.fieldLink "OvenHouse$Loaves" (9 : Nat) "OvenHouse$Loaves" "mix" "[I") ∈ GG := tb_1 57 rfl rfl
theorem mw_2_120 : (Cond.methodLink "OvenHouse$Loaves" (34 : Nat) ({ cls := "java/lang/System", name := "arraycopy", desc := "(Ljava/lang/Object;ILjava/lang/Object;II)V" } : MethodName)) ∈ GG := tb_2 120 rfl rfl
theorem mw_1_60 : (Cond.fieldLink "OvenHouse$Loaves" (15 : Nat) "OvenHouse$Loaves" "bake" "[I") ∈ GG := tb_1 60 rfl rfl
theorem mw_1_63 : (Cond.fieldLink "OvenHouse$Loaves" (18 : Nat) "OvenHouse$Loaves" "from" "[I") ∈ GG := tb_1 63 rfl rfl
theorem mw_1_65 : (Cond.fieldLink "OvenHouse$Loaves" (21 : Nat) "OvenHouse$Loaves" "to" "[I") ∈ GG := tb_1 65 rfl rfl
theorem mw_1_67 : (Cond.fieldLink "OvenHouse$Loaves" (24 : Nat) "OvenHouse$Loaves" "order" "[I") ∈ GG := tb_1 67 rfl rfl
theorem mw_1_97 : (Cond.fieldLink "OvenHouse$History" (11 : Nat) "OvenHouse$History" "slots" "[LOvenHouse$Loaves;") ∈ GG := tb_1 97 rfl rfl
theorem mw_1_98 : (Cond.fieldLink "OvenHouse$History" (17 : Nat) "OvenHouse$History" "next" "I") ∈ GG := tb_1 98 rfl rfl
theorem mw_2_119 : (Cond.code ({ cls := "OvenHouse$Loaves", name := "become", desc := "(LOvenHouse$Loaves;)V" } : MethodName) prog_5_method_4_code (2 : Nat) (Option.none : Option FieldType)) ∈ GG := tb_2 119 rfl rfl
theorem mw_2_116 : (Cond.methodLink "OvenHouse$History" (25 : Nat) ({ cls := "OvenHouse$Loaves", name := "become", desc := "(LOvenHouse$Loaves;)V" } : MethodName)) ∈ GG := tb_2 116 rfl rfl
theorem mw_2_117 : (Cond.instanceMethod ({ cls := "OvenHouse$Loaves", name := "become", desc := "(LOvenHouse$Loaves;)V" } : MethodName)) ∈ GG := tb_2 117 rfl rfl
theorem mw_2_118 : (Cond.selects "OvenHouse$Loaves" ({ cls := "OvenHouse$Loaves", name := "become", desc := "(LOvenHouse$Loaves;)V" } : MethodName) ({ cls := "OvenHouse$Loaves", name := "become", desc := "(LOvenHouse$Loaves;)V" } : MethodName)) ∈ GG := tb_2 118 rfl rfl
theorem mw_1_4 : (Cond.initialized "OvenHouse$Loaves") ∈ GG := tb_1 4 rfl rfl
theorem mw_1_99 : (Cond.fieldLink "OvenHouse$History" (21 : Nat) "OvenHouse$History" "held" "I") ∈ GG := tb_1 99 rfl rfl
theorem mw_2_121 : (Cond.methodLink "OvenHouse$History" (29 : Nat) ({ cls := "java/lang/Math", name := "min", desc := "(II)I" } : MethodName)) ∈ GG := tb_2 121 rfl rfl
theorem mw_2_122 : (Cond.static ({ cls := "java/lang/Math", name := "min", desc := "(II)I" } : MethodName)) ∈ GG := tb_2 122 rfl rfl
theorem mw_2_123 : (Cond.code ({ cls := "java/lang/Math", name := "min", desc := "(II)I" } : MethodName) prog_12_method_69_code (2 : Nat) (Option.some FieldType.int)) ∈ GG := tb_2 123 rfl rfl
theorem mw_3_8 : (Cond.constant "OvenHouse$Loaves" (40 : Nat) (100000 : Int32)) ∈ GG := tb_3 8 rfl rfl
theorem mw_3_9 : (Cond.methodLink "OvenHouse$Loaves" (41 : Nat) ({ cls := "java/lang/Math", name := "min", desc := "(II)I" } : MethodName)) ∈ GG := tb_3 9 rfl rfl
theorem mw_1_69 : (Cond.fieldLink "OvenHouse$Loaves" (27 : Nat) "OvenHouse$Loaves" "keys" "[I") ∈ GG := tb_1 69 rfl rfl
theorem mw_2_184 : (Cond.code ({ cls := "OvenHouse", name := "rank", desc := "([II[I)V" } : MethodName) prog_1_method_42_code (5 : Nat) (Option.none : Option FieldType)) ∈ GG := tb_2 184 rfl rfl
theorem mw_2_183 : (Cond.static ({ cls := "OvenHouse", name := "rank", desc := "([II[I)V" } : MethodName)) ∈ GG := tb_2 183 rfl rfl
theorem mw_1_1 : (Cond.initialized "OvenHouse") ∈ GG := tb_1 1 rfl rfl
theorem mw_2_181 : (Cond.constant "OvenHouse$Loaves" (47 : Nat) (200001 : Int32)) ∈ GG := tb_2 181 rfl rfl
theorem mw_2_172 : (Cond.code ({ cls := "OvenHouse", name := "exchange", desc := "([III)V" } : MethodName) prog_1_method_41_code (4 : Nat) (Option.none : Option FieldType)) ∈ GG := tb_2 172 rfl rfl
theorem mw_2_171 : (Cond.static ({ cls := "OvenHouse", name := "exchange", desc := "([III)V" } : MethodName)) ∈ GG := tb_2 171 rfl rfl
theorem mw_2_2 : (Cond.fieldLink "OvenHouse$Prices" (9 : Nat) "OvenHouse$Prices" "up" "[I") ∈ GG := tb_2 2 rfl rfl
theorem mw_2_4 : (Cond.fieldLink "OvenHouse$Prices" (15 : Nat) "OvenHouse$Prices" "down" "[I") ∈ GG := tb_2 4 rfl rfl
theorem mw_3_35 : (Cond.methodLink "OvenHouse$Prices" (28 : Nat) ({ cls := "java/lang/Math", name := "min", desc := "(II)I" } : MethodName)) ∈ GG := tb_3 35 rfl rfl
theorem mw_3_36 : (Cond.methodLink "OvenHouse$Prices" (34 : Nat) ({ cls := "java/lang/Math", name := "max", desc := "(II)I" } : MethodName)) ∈ GG := tb_3 36 rfl rfl
theorem mw_3_34 : (Cond.code ({ cls := "OvenHouse$Prices", name := "below", desc := "([II)I" } : MethodName) prog_6_method_4_code (6 : Nat) (Option.some FieldType.int)) ∈ GG := tb_3 34 rfl rfl
theorem mw_3_33 : (Cond.static ({ cls := "OvenHouse$Prices", name := "below", desc := "([II)I" } : MethodName)) ∈ GG := tb_3 33 rfl rfl
theorem mw_1_10 : (Cond.initialized "OvenHouse$Prices") ∈ GG := tb_1 10 rfl rfl
theorem mw_3_32 : (Cond.methodLink "OvenHouse$Prices" (24 : Nat) ({ cls := "OvenHouse$Prices", name := "below", desc := "([II)I" } : MethodName)) ∈ GG := tb_3 32 rfl rfl
theorem mw_1_177 : (Cond.fieldLink "OvenHouse$Rings" (40 : Nat) "OvenHouse$Rings" "points" "I") ∈ GG := tb_1 177 rfl rfl
theorem mw_1_167 : (Cond.fieldLink "OvenHouse$Rings" (15 : Nat) "OvenHouse$Rings" "p" "[I") ∈ GG := tb_1 167 rfl rfl
theorem mw_1_165 : (Cond.fieldLink "OvenHouse$Rings" (9 : Nat) "OvenHouse$Rings" "q" "[I") ∈ GG := tb_1 165 rfl rfl
theorem mw_1_171 : (Cond.fieldLink "OvenHouse$Rings" (24 : Nat) "OvenHouse$Rings" "behind" "[I") ∈ GG := tb_1 171 rfl rfl
theorem mw_3_31 : (Cond.code ({ cls := "OvenHouse$Prices", name := "going", desc := "(II)I" } : MethodName) prog_6_method_3_code (3 : Nat) (Option.some FieldType.int)) ∈ GG := tb_3 31 rfl rfl
theorem mw_3_28 : (Cond.methodLink "OvenHouse$Rings" (81 : Nat) ({ cls := "OvenHouse$Prices", name := "going", desc := "(II)I" } : MethodName)) ∈ GG := tb_3 28 rfl rfl
theorem mw_3_29 : (Cond.instanceMethod ({ cls := "OvenHouse$Prices", name := "going", desc := "(II)I" } : MethodName)) ∈ GG := tb_3 29 rfl rfl
theorem mw_3_30 : (Cond.selects "OvenHouse$Prices" ({ cls := "OvenHouse$Prices", name := "going", desc := "(II)I" } : MethodName) ({ cls := "OvenHouse$Prices", name := "going", desc := "(II)I" } : MethodName)) ∈ GG := tb_3 30 rfl rfl
theorem mw_1_173 : (Cond.fieldLink "OvenHouse$Rings" (27 : Nat) "OvenHouse$Rings" "ringOf" "[I") ∈ GG := tb_1 173 rfl rfl
theorem mw_1_32 : (Cond.code ({ cls := "java/util/Arrays", name := "fill", desc := "([II)V" } : MethodName) prog_14_method_103_code (4 : Nat) (Option.none : Option FieldType)) ∈ GG := tb_1 32 rfl rfl
theorem mw_1_31 : (Cond.static ({ cls := "java/util/Arrays", name := "fill", desc := "([II)V" } : MethodName)) ∈ GG := tb_1 31 rfl rfl
theorem mw_1_3 : (Cond.initialized "java/util/Arrays") ∈ GG := tb_1 3 rfl rfl
theorem mw_3_41 : (Cond.methodLink "OvenHouse$Rings" (87 : Nat) ({ cls := "java/util/Arrays", name := "fill", desc := "([II)V" } : MethodName)) ∈ GG := tb_3 41 rfl rfl
theorem mw_1_181 : (Cond.fieldLink "OvenHouse$Rings" (48 : Nat) "OvenHouse$Rings" "pairingRings" "I") ∈ GG := tb_1 181 rfl rfl
theorem mw_3_45 : (Cond.code ({ cls := "OvenHouse$Rings", name := "nameRing", desc := "(II)V" } : MethodName) prog_7_method_6_code (5 : Nat) (Option.none : Option FieldType)) ∈ GG := tb_3 45 rfl rfl
theorem mw_3_42 : (Cond.methodLink "OvenHouse$Rings" (93 : Nat) ({ cls := "OvenHouse$Rings", name := "nameRing", desc := "(II)V" } : MethodName)) ∈ GG := tb_3 42 rfl rfl
theorem mw_3_44 : (Cond.instanceMethod ({ cls := "OvenHouse$Rings", name := "nameRing", desc := "(II)V" } : MethodName)) ∈ GG := tb_3 44 rfl rfl
theorem mw_0_4 : Cond.selects "OvenHouse$Rings" ⟨"OvenHouse$Rings", "nameRing", "(II)V"⟩ ⟨"OvenHouse$Rings", "nameRing", "(II)V"⟩ ∈ GG := tb_0 4 (by decide +kernel) rfl
theorem mw_1_8 : (Cond.initialized "OvenHouse$Rings") ∈ GG := tb_1 8 rfl rfl
theorem mw_1_169 : (Cond.fieldLink "OvenHouse$Rings" (18 : Nat) "OvenHouse$Rings" "u" "[I") ∈ GG := tb_1 169 rfl rfl
theorem mw_1_170 : (Cond.fieldLink "OvenHouse$Rings" (21 : Nat) "OvenHouse$Rings" "v" "[I") ∈ GG := tb_1 170 rfl rfl
theorem mw_3_50 : (Cond.methodLink "OvenHouse$Rings" (97 : Nat) ({ cls := "java/lang/Math", name := "max", desc := "(II)I" } : MethodName)) ∈ GG := tb_3 50 rfl rfl
theorem mw_3_51 : (Cond.methodLink "OvenHouse$Rings" (102 : Nat) ({ cls := "java/lang/Math", name := "min", desc := "(II)I" } : MethodName)) ∈ GG := tb_3 51 rfl rfl
theorem mw_1_185 : (Cond.fieldLink "OvenHouse$Rings" (54 : Nat) "OvenHouse$Rings" "joinsTaken" "I") ∈ GG := tb_1 185 rfl rfl
theorem mw_1_187 : (Cond.fieldLink "OvenHouse$Rings" (57 : Nat) "OvenHouse$Rings" "joinsWeight" "I") ∈ GG := tb_1 187 rfl rfl
theorem mw_1_175 : (Cond.fieldLink "OvenHouse$Rings" (33 : Nat) "OvenHouse$Rings" "byWeight" "[I") ∈ GG := tb_1 175 rfl rfl
theorem mw_1_176 : (Cond.fieldLink "OvenHouse$Rings" (36 : Nat) "OvenHouse$Rings" "taken" "[Z") ∈ GG := tb_1 176 rfl rfl
theorem mw_1_174 : (Cond.fieldLink "OvenHouse$Rings" (30 : Nat) "OvenHouse$Rings" "weights" "[I") ∈ GG := tb_1 174 rfl rfl
theorem mw_3_59 : (Cond.code ({ cls := "OvenHouse$Rings", name := "rename", desc := "(II)V" } : MethodName) prog_7_method_9_code (4 : Nat) (Option.none : Option FieldType)) ∈ GG := tb_3 59 rfl rfl
theorem mw_3_56 : (Cond.methodLink "OvenHouse$Rings" (105 : Nat) ({ cls := "OvenHouse$Rings", name := "rename", desc := "(II)V" } : MethodName)) ∈ GG := tb_3 56 rfl rfl
theorem mw_3_58 : (Cond.instanceMethod ({ cls := "OvenHouse$Rings", name := "rename", desc := "(II)V" } : MethodName)) ∈ GG := tb_3 58 rfl rfl
theorem mw_0_7 : Cond.selects "OvenHouse$Rings" ⟨"OvenHouse$Rings", "rename", "(II)V"⟩ ⟨"OvenHouse$Rings", "rename", "(II)V"⟩ ∈ GG := tb_0 7 (by decide +kernel) rfl
theorem mw_3_67 : (Cond.code ({ cls := "OvenHouse$Rings", name := "endsAbove", desc := "(I)Z" } : MethodName) prog_7_method_11_code (2 : Nat) (Option.some FieldType.boolean)) ∈ GG := tb_3 67 rfl rfl
theorem mw_3_64 : (Cond.methodLink "OvenHouse$Rings" (108 : Nat) ({ cls := "OvenHouse$Rings", name := "endsAbove", desc := "(I)Z" } : MethodName)) ∈ GG := tb_3 64 rfl rfl
theorem mw_3_66 : (Cond.instanceMethod ({ cls := "OvenHouse$Rings", name := "endsAbove", desc := "(I)Z" } : MethodName)) ∈ GG := tb_3 66 rfl rfl
theorem mw_0_9 : Cond.selects "OvenHouse$Rings" ⟨"OvenHouse$Rings", "endsAbove", "(I)Z"⟩ ⟨"OvenHouse$Rings", "endsAbove", "(I)Z"⟩ ∈ GG := tb_0 9 (by decide +kernel) rfl
theorem mw_1_179 : (Cond.fieldLink "OvenHouse$Rings" (44 : Nat) "OvenHouse$Rings" "told" "Z") ∈ GG := tb_1 179 rfl rfl
theorem mw_3_27 : (Cond.code ({ cls := "OvenHouse$Rings", name := "costOfAll", desc := "(LOvenHouse$Prices;)I" } : MethodName) prog_7_method_4_code (4 : Nat) (Option.some FieldType.int)) ∈ GG := tb_3 27 rfl rfl
theorem mw_3_24 : (Cond.methodLink "OvenHouse$Rings" (64 : Nat) ({ cls := "OvenHouse$Rings", name := "costOfAll", desc := "(LOvenHouse$Prices;)I" } : MethodName)) ∈ GG := tb_3 24 rfl rfl
theorem mw_3_26 : (Cond.instanceMethod ({ cls := "OvenHouse$Rings", name := "costOfAll", desc := "(LOvenHouse$Prices;)I" } : MethodName)) ∈ GG := tb_3 26 rfl rfl
theorem mw_0_2 : Cond.selects "OvenHouse$Rings" ⟨"OvenHouse$Rings", "costOfAll", "(LOvenHouse$Prices;)I"⟩ ⟨"OvenHouse$Rings", "costOfAll", "(LOvenHouse$Prices;)I"⟩ ∈ GG := tb_0 2 (by decide +kernel) rfl
theorem mw_1_183 : (Cond.fieldLink "OvenHouse$Rings" (51 : Nat) "OvenHouse$Rings" "pairingCost" "I") ∈ GG := tb_1 183 rfl rfl
theorem mw_3_40 : (Cond.code ({ cls := "OvenHouse$Rings", name := "nameRings", desc := "()V" } : MethodName) prog_7_method_5_code (2 : Nat) (Option.none : Option FieldType)) ∈ GG := tb_3 40 rfl rfl
theorem mw_3_37 : (Cond.methodLink "OvenHouse$Rings" (68 : Nat) ({ cls := "OvenHouse$Rings", name := "nameRings", desc := "()V" } : MethodName)) ∈ GG := tb_3 37 rfl rfl
theorem mw_3_39 : (Cond.instanceMethod ({ cls := "OvenHouse$Rings", name := "nameRings", desc := "()V" } : MethodName)) ∈ GG := tb_3 39 rfl rfl
theorem mw_0_3 : Cond.selects "OvenHouse$Rings" ⟨"OvenHouse$Rings", "nameRings", "()V"⟩ ⟨"OvenHouse$Rings", "nameRings", "()V"⟩ ∈ GG := tb_0 3 (by decide +kernel) rfl
theorem mw_3_55 : (Cond.code ({ cls := "OvenHouse$Rings", name := "takeJoins", desc := "()V" } : MethodName) prog_7_method_8_code (5 : Nat) (Option.none : Option FieldType)) ∈ GG := tb_3 55 rfl rfl
theorem mw_3_52 : (Cond.methodLink "OvenHouse$Rings" (75 : Nat) ({ cls := "OvenHouse$Rings", name := "takeJoins", desc := "()V" } : MethodName)) ∈ GG := tb_3 52 rfl rfl
theorem mw_3_54 : (Cond.instanceMethod ({ cls := "OvenHouse$Rings", name := "takeJoins", desc := "()V" } : MethodName)) ∈ GG := tb_3 54 rfl rfl
theorem mw_0_6 : Cond.selects "OvenHouse$Rings" ⟨"OvenHouse$Rings", "takeJoins", "()V"⟩ ⟨"OvenHouse$Rings", "takeJoins", "()V"⟩ ∈ GG := tb_0 6 (by decide +kernel) rfl
theorem mw_3_63 : (Cond.code ({ cls := "OvenHouse$Rings", name := "exchangeTaken", desc := "()V" } : MethodName) prog_7_method_10_code (2 : Nat) (Option.none : Option FieldType)) ∈ GG := tb_3 63 rfl rfl
theorem mw_3_60 : (Cond.methodLink "OvenHouse$Rings" (78 : Nat) ({ cls := "OvenHouse$Rings", name := "exchangeTaken", desc := "()V" } : MethodName)) ∈ GG := tb_3 60 rfl rfl
theorem mw_3_62 : (Cond.instanceMethod ({ cls := "OvenHouse$Rings", name := "exchangeTaken", desc := "()V" } : MethodName)) ∈ GG := tb_3 62 rfl rfl
theorem mw_0_8 : Cond.selects "OvenHouse$Rings" ⟨"OvenHouse$Rings", "exchangeTaken", "()V"⟩ ⟨"OvenHouse$Rings", "exchangeTaken", "()V"⟩ ∈ GG := tb_0 8 (by decide +kernel) rfl
theorem mw_3_49 : (Cond.code ({ cls := "OvenHouse$Rings", name := "weightOf", desc := "(ILOvenHouse$Prices;)I" } : MethodName) prog_7_method_7_code (5 : Nat) (Option.some FieldType.int)) ∈ GG := tb_3 49 rfl rfl
theorem mw_3_46 : (Cond.methodLink "OvenHouse$Rings" (71 : Nat) ({ cls := "OvenHouse$Rings", name := "weightOf", desc := "(ILOvenHouse$Prices;)I" } : MethodName)) ∈ GG := tb_3 46 rfl rfl
theorem mw_3_48 : (Cond.instanceMethod ({ cls := "OvenHouse$Rings", name := "weightOf", desc := "(ILOvenHouse$Prices;)I" } : MethodName)) ∈ GG := tb_3 48 rfl rfl
theorem mw_0_5 : Cond.selects "OvenHouse$Rings" ⟨"OvenHouse$Rings", "weightOf", "(ILOvenHouse$Prices;)I"⟩ ⟨"OvenHouse$Rings", "weightOf", "(ILOvenHouse$Prices;)I"⟩ ∈ GG := tb_0 5 (by decide +kernel) rfl
theorem mw_1_229 : (Cond.fieldLink "OvenHouse$Rows" (15 : Nat) "OvenHouse$Rows" "n" "I") ∈ GG := tb_1 229 rfl rfl
theorem mw_1_227 : (Cond.fieldLink "OvenHouse$Rows" (9 : Nat) "OvenHouse$Rows" "row" "[I") ∈ GG := tb_1 227 rfl rfl
theorem mw_1_39 : (Cond.fieldLink "OvenHouse$Sheets" (23 : Nat) "OvenHouse$Sheets" "latest" "I") ∈ GG := tb_1 39 rfl rfl
theorem mw_1_33 : (Cond.fieldLink "OvenHouse$Sheets" (9 : Nat) "OvenHouse$Sheets" "forms" "[I") ∈ GG := tb_1 33 rfl rfl
theorem mw_1_35 : (Cond.fieldLink "OvenHouse$Sheets" (15 : Nat) "OvenHouse$Sheets" "sizes" "[I") ∈ GG := tb_1 35 rfl rfl
theorem mw_1_37 : (Cond.fieldLink "OvenHouse$Sheets" (20 : Nat) "OvenHouse$Sheets" "items" "[[I") ∈ GG := tb_1 37 rfl rfl
theorem mw_1_30 : (Cond.methodLink "OvenHouse$Sheets" (27 : Nat) ({ cls := "java/util/Arrays", name := "fill", desc := "([II)V" } : MethodName)) ∈ GG := tb_1 30 rfl rfl
theorem mw_2_71 : (Cond.code ({ cls := "OvenHouse$Sheets", name := "isLost", desc := "(I)Z" } : MethodName) prog_9_method_3_code (2 : Nat) (Option.some FieldType.boolean)) ∈ GG := tb_2 71 rfl rfl
theorem mw_2_80 : (Cond.methodLink "OvenHouse$Sheets" (33 : Nat) ({ cls := "OvenHouse$Sheets", name := "isLost", desc := "(I)Z" } : MethodName)) ∈ GG := tb_2 80 rfl rfl
theorem mw_2_69 : (Cond.instanceMethod ({ cls := "OvenHouse$Sheets", name := "isLost", desc := "(I)Z" } : MethodName)) ∈ GG := tb_2 69 rfl rfl
theorem mw_2_70 : (Cond.selects "OvenHouse$Sheets" ({ cls := "OvenHouse$Sheets", name := "isLost", desc := "(I)Z" } : MethodName) ({ cls := "OvenHouse$Sheets", name := "isLost", desc := "(I)Z" } : MethodName)) ∈ GG := tb_2 70 rfl rfl
theorem mw_1_2 : (Cond.initialized "OvenHouse$Sheets") ∈ GG := tb_1 2 rfl rfl
theorem mw_2_84 : (Cond.code ({ cls := "OvenHouse$Sheets", name := "hasItems", desc := "(III)Z" } : MethodName) prog_9_method_5_code (4 : Nat) (Option.some FieldType.boolean)) ∈ GG := tb_2 84 rfl rfl
theorem mw_2_81 : (Cond.methodLink "OvenHouse$Sheets" (37 : Nat) ({ cls := "OvenHouse$Sheets", name := "hasItems", desc := "(III)Z" } : MethodName)) ∈ GG := tb_2 81 rfl rfl
theorem mw_2_82 : (Cond.instanceMethod ({ cls := "OvenHouse$Sheets", name := "hasItems", desc := "(III)Z" } : MethodName)) ∈ GG := tb_2 82 rfl rfl
theorem mw_2_83 : (Cond.selects "OvenHouse$Sheets" ({ cls := "OvenHouse$Sheets", name := "hasItems", desc := "(III)Z" } : MethodName) ({ cls := "OvenHouse$Sheets", name := "hasItems", desc := "(III)Z" } : MethodName)) ∈ GG := tb_2 83 rfl rfl
theorem mw_2_52 : (Cond.code ({ cls := "OvenHouse", name := "isSheet", desc := "(I)Z" } : MethodName) prog_1_method_33_code (1 : Nat) (Option.some FieldType.boolean)) ∈ GG := tb_2 52 rfl rfl
theorem mw_2_51 : (Cond.static ({ cls := "OvenHouse", name := "isSheet", desc := "(I)Z" } : MethodName)) ∈ GG := tb_2 51 rfl rfl
theorem mw_2_50 : (Cond.methodLink "OvenHouse" (79 : Nat) ({ cls := "OvenHouse", name := "isSheet", desc := "(I)Z" } : MethodName)) ∈ GG := tb_2 50 rfl rfl
theorem mw_2_55 : (Cond.code ({ cls := "OvenHouse", name := "isForm", desc := "(I)Z" } : MethodName) prog_1_method_34_code (1 : Nat) (Option.some FieldType.boolean)) ∈ GG := tb_2 55 rfl rfl
theorem mw_2_54 : (Cond.static ({ cls := "OvenHouse", name := "isForm", desc := "(I)Z" } : MethodName)) ∈ GG := tb_2 54 rfl rfl
theorem mw_2_53 : (Cond.methodLink "OvenHouse" (83 : Nat) ({ cls := "OvenHouse", name := "isForm", desc := "(I)Z" } : MethodName)) ∈ GG := tb_2 53 rfl rfl
theorem mw_2_12 : (Cond.fieldLink "OvenHouse" (10 : Nat) "OvenHouse" "sheets" "LOvenHouse$Sheets;") ∈ GG := tb_2 12 rfl rfl
theorem mw_2_63 : (Cond.code ({ cls := "OvenHouse$Sheets", name := "renew", desc := "(III)V" } : MethodName) prog_9_method_4_code (4 : Nat) (Option.none : Option FieldType)) ∈ GG := tb_2 63 rfl rfl
theorem mw_2_60 : (Cond.methodLink "OvenHouse" (90 : Nat) ({ cls := "OvenHouse$Sheets", name := "renew", desc := "(III)V" } : MethodName)) ∈ GG := tb_2 60 rfl rfl
theorem mw_2_61 : (Cond.instanceMethod ({ cls := "OvenHouse$Sheets", name := "renew", desc := "(III)V" } : MethodName)) ∈ GG := tb_2 61 rfl rfl
theorem mw_2_62 : (Cond.selects "OvenHouse$Sheets" ({ cls := "OvenHouse$Sheets", name := "renew", desc := "(III)V" } : MethodName) ({ cls := "OvenHouse$Sheets", name := "renew", desc := "(III)V" } : MethodName)) ∈ GG := tb_2 62 rfl rfl
theorem mw_2_59 : (Cond.code ({ cls := "OvenHouse$Sheets", name := "finding", desc := "(I)I" } : MethodName) prog_9_method_2_code (2 : Nat) (Option.some FieldType.int)) ∈ GG := tb_2 59 rfl rfl
theorem mw_2_56 : (Cond.methodLink "OvenHouse" (86 : Nat) ({ cls := "OvenHouse$Sheets", name := "finding", desc := "(I)I" } : MethodName)) ∈ GG := tb_2 56 rfl rfl
theorem mw_2_57 : (Cond.instanceMethod ({ cls := "OvenHouse$Sheets", name := "finding", desc := "(I)I" } : MethodName)) ∈ GG := tb_2 57 rfl rfl
theorem mw_2_58 : (Cond.selects "OvenHouse$Sheets" ({ cls := "OvenHouse$Sheets", name := "finding", desc := "(I)I" } : MethodName) ({ cls := "OvenHouse$Sheets", name := "finding", desc := "(I)I" } : MethodName)) ∈ GG := tb_2 58 rfl rfl
theorem mw_2_68 : (Cond.methodLink "OvenHouse" (94 : Nat) ({ cls := "OvenHouse$Sheets", name := "isLost", desc := "(I)Z" } : MethodName)) ∈ GG := tb_2 68 rfl rfl
theorem mw_1_34 : (Cond.fieldLink "OvenHouse" (97 : Nat) "OvenHouse$Sheets" "forms" "[I") ∈ GG := tb_1 34 rfl rfl
theorem mw_1_36 : (Cond.fieldLink "OvenHouse" (100 : Nat) "OvenHouse$Sheets" "sizes" "[I") ∈ GG := tb_1 36 rfl rfl
theorem mw_2_79 : (Cond.code ({ cls := "OvenHouse$Sheets", name := "lookAt", desc := "(III)I" } : MethodName) prog_9_method_6_code (4 : Nat) (Option.some FieldType.int)) ∈ GG := tb_2 79 rfl rfl
theorem mw_2_76 : (Cond.methodLink "OvenHouse" (103 : Nat) ({ cls := "OvenHouse$Sheets", name := "lookAt", desc := "(III)I" } : MethodName)) ∈ GG := tb_2 76 rfl rfl
theorem mw_2_77 : (Cond.instanceMethod ({ cls := "OvenHouse$Sheets", name := "lookAt", desc := "(III)I" } : MethodName)) ∈ GG := tb_2 77 rfl rfl
theorem mw_2_78 : (Cond.selects "OvenHouse$Sheets" ({ cls := "OvenHouse$Sheets", name := "lookAt", desc := "(III)I" } : MethodName) ({ cls := "OvenHouse$Sheets", name := "lookAt", desc := "(III)I" } : MethodName)) ∈ GG := tb_2 78 rfl rfl
theorem mw_1_38 : (Cond.fieldLink "OvenHouse" (107 : Nat) "OvenHouse$Sheets" "items" "[[I") ∈ GG := tb_1 38 rfl rfl
theorem mw_2_87 : (Cond.code ({ cls := "OvenHouse", name := "cutToForm", desc := "(II)I" } : MethodName) prog_1_method_40_code (2 : Nat) (Option.some FieldType.int)) ∈ GG := tb_2 87 rfl rfl
theorem mw_2_86 : (Cond.static ({ cls := "OvenHouse", name := "cutToForm", desc := "(II)I" } : MethodName)) ∈ GG := tb_2 86 rfl rfl
theorem mw_2_85 : (Cond.methodLink "OvenHouse" (110 : Nat) ({ cls := "OvenHouse", name := "cutToForm", desc := "(II)I" } : MethodName)) ∈ GG := tb_2 85 rfl rfl
theorem mw_2_92 : (Cond.constant "OvenHouse" (114 : Nat) (-2147483648 : Int32)) ∈ GG := tb_2 92 rfl rfl
theorem mw_2_97 : (Cond.methodLink "OvenHouse" (115 : Nat) ({ cls := "OvenHouse$Sheets", name := "hasItems", desc := "(III)Z" } : MethodName)) ∈ GG := tb_2 97 rfl rfl
theorem mw_2_98 : (Cond.methodLink "OvenHouse" (119 : Nat) ({ cls := "java/lang/System", name := "arraycopy", desc := "(Ljava/lang/Object;ILjava/lang/Object;II)V" } : MethodName)) ∈ GG := tb_2 98 rfl rfl
theorem mw_2_111 : (Cond.constant "OvenHouse" (326 : Nat) (100000 : Int32)) ∈ GG := tb_2 111 rfl rfl
theorem mw_2_110 : (Cond.code ({ cls := "OvenHouse", name := "isSpan", desc := "(I)Z" } : MethodName) prog_1_method_35_code (1 : Nat) (Option.some FieldType.boolean)) ∈ GG := tb_2 110 rfl rfl
theorem mw_2_109 : (Cond.static ({ cls := "OvenHouse", name := "isSpan", desc := "(I)Z" } : MethodName)) ∈ GG := tb_2 109 rfl rfl
theorem mw_2_108 : (Cond.methodLink "OvenHouse" (145 : Nat) ({ cls := "OvenHouse", name := "isSpan", desc := "(I)Z" } : MethodName)) ∈ GG := tb_2 108 rfl rfl
theorem mw_2_13 : (Cond.fieldLink "OvenHouse" (19 : Nat) "OvenHouse" "loaves" "LOvenHouse$Loaves;") ∈ GG := tb_2 13 rfl rfl
theorem mw_1_72 : (Cond.fieldLink "OvenHouse" (125 : Nat) "OvenHouse$Loaves" "size" "I") ∈ GG := tb_1 72 rfl rfl
theorem mw_2_107 : (Cond.code ({ cls := "OvenHouse", name := "areSpans", desc := "([II)Z" } : MethodName) prog_1_method_36_code (3 : Nat) (Option.some FieldType.boolean)) ∈ GG := tb_2 107 rfl rfl
theorem mw_2_106 : (Cond.static ({ cls := "OvenHouse", name := "areSpans", desc := "([II)Z" } : MethodName)) ∈ GG := tb_2 106 rfl rfl
theorem mw_2_105 : (Cond.methodLink "OvenHouse" (129 : Nat) ({ cls := "OvenHouse", name := "areSpans", desc := "([II)Z" } : MethodName)) ∈ GG := tb_2 105 rfl rfl
theorem mw_2_14 : (Cond.fieldLink "OvenHouse" (26 : Nat) "OvenHouse" "history" "LOvenHouse$History;") ∈ GG := tb_2 14 rfl rfl
theorem mw_2_115 : (Cond.code ({ cls := "OvenHouse$History", name := "keep", desc := "(LOvenHouse$Loaves;)V" } : MethodName) prog_4_method_2_code (2 : Nat) (Option.none : Option FieldType)) ∈ GG := tb_2 115 rfl rfl
theorem mw_2_112 : (Cond.methodLink "OvenHouse" (133 : Nat) ({ cls := "OvenHouse$History", name := "keep", desc := "(LOvenHouse$Loaves;)V" } : MethodName)) ∈ GG := tb_2 112 rfl rfl
theorem mw_2_113 : (Cond.instanceMethod ({ cls := "OvenHouse$History", name := "keep", desc := "(LOvenHouse$Loaves;)V" } : MethodName)) ∈ GG := tb_2 113 rfl rfl
theorem mw_2_114 : (Cond.selects "OvenHouse$History" ({ cls := "OvenHouse$History", name := "keep", desc := "(LOvenHouse$Loaves;)V" } : MethodName) ({ cls := "OvenHouse$History", name := "keep", desc := "(LOvenHouse$Loaves;)V" } : MethodName)) ∈ GG := tb_2 114 rfl rfl
theorem mw_1_5 : (Cond.initialized "OvenHouse$History") ∈ GG := tb_1 5 rfl rfl
theorem mw_2_15 : (Cond.fieldLink "OvenHouse" (33 : Nat) "OvenHouse" "found" "LOvenHouse$Best;") ∈ GG := tb_2 15 rfl rfl
theorem mw_1_119 : (Cond.fieldLink "OvenHouse" (141 : Nat) "OvenHouse$Best" "fresh" "Z") ∈ GG := tb_1 119 rfl rfl
theorem mw_2_127 : (Cond.code ({ cls := "OvenHouse$Loaves", name := "add", desc := "(II)V" } : MethodName) prog_5_method_3_code (3 : Nat) (Option.none : Option FieldType)) ∈ GG := tb_2 127 rfl rfl
theorem mw_2_124 : (Cond.methodLink "OvenHouse" (137 : Nat) ({ cls := "OvenHouse$Loaves", name := "add", desc := "(II)V" } : MethodName)) ∈ GG := tb_2 124 rfl rfl
theorem mw_2_125 : (Cond.instanceMethod ({ cls := "OvenHouse$Loaves", name := "add", desc := "(II)V" } : MethodName)) ∈ GG := tb_2 125 rfl rfl
theorem mw_2_126 : (Cond.selects "OvenHouse$Loaves" ({ cls := "OvenHouse$Loaves", name := "add", desc := "(II)V" } : MethodName) ({ cls := "OvenHouse$Loaves", name := "add", desc := "(II)V" } : MethodName)) ∈ GG := tb_2 126 rfl rfl
theorem mw_2_139 : (Cond.code ({ cls := "OvenHouse$Loaves", name := "has", desc := "(I)Z" } : MethodName) prog_5_method_2_code (2 : Nat) (Option.some FieldType.boolean)) ∈ GG := tb_2 139 rfl rfl
theorem mw_2_136 : (Cond.methodLink "OvenHouse" (148 : Nat) ({ cls := "OvenHouse$Loaves", name := "has", desc := "(I)Z" } : MethodName)) ∈ GG := tb_2 136 rfl rfl
theorem mw_2_137 : (Cond.instanceMethod ({ cls := "OvenHouse$Loaves", name := "has", desc := "(I)Z" } : MethodName)) ∈ GG := tb_2 137 rfl rfl
theorem mw_2_138 : (Cond.selects "OvenHouse$Loaves" ({ cls := "OvenHouse$Loaves", name := "has", desc := "(I)Z" } : MethodName) ({ cls := "OvenHouse$Loaves", name := "has", desc := "(I)Z" } : MethodName)) ∈ GG := tb_2 138 rfl rfl
theorem mw_1_59 : (Cond.fieldLink "OvenHouse" (151 : Nat) "OvenHouse$Loaves" "mix" "[I") ∈ GG := tb_1 59 rfl rfl
theorem mw_1_62 : (Cond.fieldLink "OvenHouse" (154 : Nat) "OvenHouse$Loaves" "bake" "[I") ∈ GG := tb_1 62 rfl rfl
theorem mw_1_64 : (Cond.fieldLink "OvenHouse" (157 : Nat) "OvenHouse$Loaves" "from" "[I") ∈ GG := tb_1 64 rfl rfl
theorem mw_1_66 : (Cond.fieldLink "OvenHouse" (160 : Nat) "OvenHouse$Loaves" "to" "[I") ∈ GG := tb_1 66 rfl rfl
theorem mw_2_143 : (Cond.code ({ cls := "OvenHouse$Loaves", name := "kindOf", desc := "(I)I" } : MethodName) prog_5_method_5_code (2 : Nat) (Option.some FieldType.int)) ∈ GG := tb_2 143 rfl rfl
theorem mw_2_140 : (Cond.methodLink "OvenHouse" (163 : Nat) ({ cls := "OvenHouse$Loaves", name := "kindOf", desc := "(I)I" } : MethodName)) ∈ GG := tb_2 140 rfl rfl
theorem mw_2_141 : (Cond.instanceMethod ({ cls := "OvenHouse$Loaves", name := "kindOf", desc := "(I)I" } : MethodName)) ∈ GG := tb_2 141 rfl rfl
theorem mw_2_142 : (Cond.selects "OvenHouse$Loaves" ({ cls := "OvenHouse$Loaves", name := "kindOf", desc := "(I)I" } : MethodName) ({ cls := "OvenHouse$Loaves", name := "kindOf", desc := "(I)I" } : MethodName)) ∈ GG := tb_2 142 rfl rfl
theorem mw_2_147 : (Cond.code ({ cls := "OvenHouse$Loaves", name := "placeOf", desc := "(I)I" } : MethodName) prog_5_method_6_code (3 : Nat) (Option.some FieldType.int)) ∈ GG := tb_2 147 rfl rfl
theorem mw_2_144 : (Cond.methodLink "OvenHouse" (166 : Nat) ({ cls := "OvenHouse$Loaves", name := "placeOf", desc := "(I)I" } : MethodName)) ∈ GG := tb_2 144 rfl rfl
theorem mw_2_145 : (Cond.instanceMethod ({ cls := "OvenHouse$Loaves", name := "placeOf", desc := "(I)I" } : MethodName)) ∈ GG := tb_2 145 rfl rfl
theorem mw_2_146 : (Cond.selects "OvenHouse$Loaves" ({ cls := "OvenHouse$Loaves", name := "placeOf", desc := "(I)I" } : MethodName) ({ cls := "OvenHouse$Loaves", name := "placeOf", desc := "(I)I" } : MethodName)) ∈ GG := tb_2 146 rfl rfl
theorem mw_2_154 : (Cond.code ({ cls := "OvenHouse", name := "isDegree", desc := "(I)Z" } : MethodName) prog_1_method_37_code (1 : Nat) (Option.some FieldType.boolean)) ∈ GG := tb_2 154 rfl rfl
theorem mw_2_153 : (Cond.static ({ cls := "OvenHouse", name := "isDegree", desc := "(I)Z" } : MethodName)) ∈ GG := tb_2 153 rfl rfl
theorem mw_2_152 : (Cond.methodLink "OvenHouse" (169 : Nat) ({ cls := "OvenHouse", name := "isDegree", desc := "(I)Z" } : MethodName)) ∈ GG := tb_2 152 rfl rfl
theorem mw_2_161 : (Cond.code ({ cls := "OvenHouse", name := "isPrice", desc := "(I)Z" } : MethodName) prog_1_method_38_code (1 : Nat) (Option.some FieldType.boolean)) ∈ GG := tb_2 161 rfl rfl
theorem mw_2_160 : (Cond.static ({ cls := "OvenHouse", name := "isPrice", desc := "(I)Z" } : MethodName)) ∈ GG := tb_2 160 rfl rfl
theorem mw_2_159 : (Cond.methodLink "OvenHouse" (172 : Nat) ({ cls := "OvenHouse", name := "isPrice", desc := "(I)Z" } : MethodName)) ∈ GG := tb_2 159 rfl rfl
theorem mw_2_19 : (Cond.fieldLink "OvenHouse" (63 : Nat) "OvenHouse" "heats" "LOvenHouse$Prices;") ∈ GG := tb_2 19 rfl rfl
theorem mw_2_3 : (Cond.fieldLink "OvenHouse" (175 : Nat) "OvenHouse$Prices" "up" "[I") ∈ GG := tb_2 3 rfl rfl
theorem mw_2_5 : (Cond.fieldLink "OvenHouse" (178 : Nat) "OvenHouse$Prices" "down" "[I") ∈ GG := tb_2 5 rfl rfl
theorem mw_1_68 : (Cond.fieldLink "OvenHouse" (181 : Nat) "OvenHouse$Loaves" "order" "[I") ∈ GG := tb_1 68 rfl rfl
theorem mw_2_170 : (Cond.methodLink "OvenHouse" (184 : Nat) ({ cls := "OvenHouse", name := "exchange", desc := "([III)V" } : MethodName)) ∈ GG := tb_2 170 rfl rfl
theorem mw_2_180 : (Cond.code ({ cls := "OvenHouse$Loaves", name := "byRule", desc := "([I)V" } : MethodName) prog_5_method_10_code (3 : Nat) (Option.none : Option FieldType)) ∈ GG := tb_2 180 rfl rfl
theorem mw_2_177 : (Cond.methodLink "OvenHouse" (188 : Nat) ({ cls := "OvenHouse$Loaves", name := "byRule", desc := "([I)V" } : MethodName)) ∈ GG := tb_2 177 rfl rfl
theorem mw_2_178 : (Cond.instanceMethod ({ cls := "OvenHouse$Loaves", name := "byRule", desc := "([I)V" } : MethodName)) ∈ GG := tb_2 178 rfl rfl
theorem mw_2_179 : (Cond.selects "OvenHouse$Loaves" ({ cls := "OvenHouse$Loaves", name := "byRule", desc := "([I)V" } : MethodName) ({ cls := "OvenHouse$Loaves", name := "byRule", desc := "([I)V" } : MethodName)) ∈ GG := tb_2 179 rfl rfl
theorem mw_2_16 : (Cond.fieldLink "OvenHouse" (40 : Nat) "OvenHouse" "schedule" "LOvenHouse$Day;") ∈ GG := tb_2 16 rfl rfl
theorem mw_2_188 : (Cond.code ({ cls := "OvenHouse$Day", name := "follow", desc := "(II)V" } : MethodName) prog_3_method_2_code (3 : Nat) (Option.none : Option FieldType)) ∈ GG := tb_2 188 rfl rfl
theorem mw_2_185 : (Cond.methodLink "OvenHouse" (192 : Nat) ({ cls := "OvenHouse$Day", name := "follow", desc := "(II)V" } : MethodName)) ∈ GG := tb_2 185 rfl rfl
theorem mw_2_186 : (Cond.instanceMethod ({ cls := "OvenHouse$Day", name := "follow", desc := "(II)V" } : MethodName)) ∈ GG := tb_2 186 rfl rfl
theorem mw_2_187 : (Cond.selects "OvenHouse$Day" ({ cls := "OvenHouse$Day", name := "follow", desc := "(II)V" } : MethodName) ({ cls := "OvenHouse$Day", name := "follow", desc := "(II)V" } : MethodName)) ∈ GG := tb_2 187 rfl rfl
theorem mw_2_192 : (Cond.code ({ cls := "OvenHouse$Day", name := "endOf", desc := "(LOvenHouse$Loaves;[II)I" } : MethodName) prog_3_method_3_code (5 : Nat) (Option.some FieldType.int)) ∈ GG := tb_2 192 rfl rfl
theorem mw_2_189 : (Cond.methodLink "OvenHouse" (195 : Nat) ({ cls := "OvenHouse$Day", name := "endOf", desc := "(LOvenHouse$Loaves;[II)I" } : MethodName)) ∈ GG := tb_2 189 rfl rfl
theorem mw_2_190 : (Cond.instanceMethod ({ cls := "OvenHouse$Day", name := "endOf", desc := "(LOvenHouse$Loaves;[II)I" } : MethodName)) ∈ GG := tb_2 190 rfl rfl
theorem mw_2_191 : (Cond.selects "OvenHouse$Day" ({ cls := "OvenHouse$Day", name := "endOf", desc := "(LOvenHouse$Loaves;[II)I" } : MethodName) ({ cls := "OvenHouse$Day", name := "endOf", desc := "(LOvenHouse$Loaves;[II)I" } : MethodName)) ∈ GG := tb_2 191 rfl rfl
theorem mw_1_115 : (Cond.fieldLink "OvenHouse" (199 : Nat) "OvenHouse$Best" "row" "[I") ∈ GG := tb_1 115 rfl rfl
theorem mw_1_117 : (Cond.fieldLink "OvenHouse" (202 : Nat) "OvenHouse$Best" "size" "I") ∈ GG := tb_1 117 rfl rfl
theorem mw_2_211 : (Cond.code ({ cls := "OvenHouse$Loaves", name := "turnAbout", desc := "()V" } : MethodName) prog_5_method_11_code (4 : Nat) (Option.none : Option FieldType)) ∈ GG := tb_2 211 rfl rfl
theorem mw_2_208 : (Cond.methodLink "OvenHouse" (203 : Nat) ({ cls := "OvenHouse$Loaves", name := "turnAbout", desc := "()V" } : MethodName)) ∈ GG := tb_2 208 rfl rfl
theorem mw_2_209 : (Cond.instanceMethod ({ cls := "OvenHouse$Loaves", name := "turnAbout", desc := "()V" } : MethodName)) ∈ GG := tb_2 209 rfl rfl
theorem mw_2_210 : (Cond.selects "OvenHouse$Loaves" ({ cls := "OvenHouse$Loaves", name := "turnAbout", desc := "()V" } : MethodName) ({ cls := "OvenHouse$Loaves", name := "turnAbout", desc := "()V" } : MethodName)) ∈ GG := tb_2 210 rfl rfl
theorem mw_1_100 : (Cond.fieldLink "OvenHouse" (206 : Nat) "OvenHouse$History" "held" "I") ∈ GG := tb_1 100 rfl rfl
theorem mw_2_220 : (Cond.code ({ cls := "OvenHouse$History", name := "giveBack", desc := "(LOvenHouse$Loaves;)V" } : MethodName) prog_4_method_3_code (2 : Nat) (Option.none : Option FieldType)) ∈ GG := tb_2 220 rfl rfl
theorem mw_2_217 : (Cond.methodLink "OvenHouse" (209 : Nat) ({ cls := "OvenHouse$History", name := "giveBack", desc := "(LOvenHouse$Loaves;)V" } : MethodName)) ∈ GG := tb_2 217 rfl rfl
theorem mw_2_218 : (Cond.instanceMethod ({ cls := "OvenHouse$History", name := "giveBack", desc := "(LOvenHouse$Loaves;)V" } : MethodName)) ∈ GG := tb_2 218 rfl rfl
theorem mw_2_219 : (Cond.selects "OvenHouse$History" ({ cls := "OvenHouse$History", name := "giveBack", desc := "(LOvenHouse$Loaves;)V" } : MethodName) ({ cls := "OvenHouse$History", name := "giveBack", desc := "(LOvenHouse$Loaves;)V" } : MethodName)) ∈ GG := tb_2 219 rfl rfl
theorem mw_2_227 : (Cond.code ({ cls := "OvenHouse", name := "isLaw", desc := "(II)Z" } : MethodName) prog_1_method_39_code (2 : Nat) (Option.some FieldType.boolean)) ∈ GG := tb_2 227 rfl rfl
theorem mw_2_226 : (Cond.static ({ cls := "OvenHouse", name := "isLaw", desc := "(II)Z" } : MethodName)) ∈ GG := tb_2 226 rfl rfl
theorem mw_2_225 : (Cond.methodLink "OvenHouse" (212 : Nat) ({ cls := "OvenHouse", name := "isLaw", desc := "(II)Z" } : MethodName)) ∈ GG := tb_2 225 rfl rfl
theorem mw_1_134 : (Cond.fieldLink "OvenHouse" (216 : Nat) "OvenHouse$Day" "mixFrom" "[I") ∈ GG := tb_1 134 rfl rfl
theorem mw_1_136 : (Cond.fieldLink "OvenHouse" (219 : Nat) "OvenHouse$Day" "mixTo" "[I") ∈ GG := tb_1 136 rfl rfl
theorem mw_1_138 : (Cond.fieldLink "OvenHouse" (222 : Nat) "OvenHouse$Day" "bakeFrom" "[I") ∈ GG := tb_1 138 rfl rfl
theorem mw_1_140 : (Cond.fieldLink "OvenHouse" (225 : Nat) "OvenHouse$Day" "bakeTo" "[I") ∈ GG := tb_1 140 rfl rfl
theorem mw_2_239 : (Cond.code ({ cls := "OvenHouse$Loaves", name := "sum", desc := "([I)I" } : MethodName) prog_5_method_7_code (4 : Nat) (Option.some FieldType.int)) ∈ GG := tb_2 239 rfl rfl
theorem mw_2_236 : (Cond.methodLink "OvenHouse" (228 : Nat) ({ cls := "OvenHouse$Loaves", name := "sum", desc := "([I)I" } : MethodName)) ∈ GG := tb_2 236 rfl rfl
theorem mw_2_237 : (Cond.instanceMethod ({ cls := "OvenHouse$Loaves", name := "sum", desc := "([I)I" } : MethodName)) ∈ GG := tb_2 237 rfl rfl
theorem mw_2_238 : (Cond.selects "OvenHouse$Loaves" ({ cls := "OvenHouse$Loaves", name := "sum", desc := "([I)I" } : MethodName) ({ cls := "OvenHouse$Loaves", name := "sum", desc := "([I)I" } : MethodName)) ∈ GG := tb_2 238 rfl rfl
theorem mw_3_7 : (Cond.code ({ cls := "OvenHouse$Loaves", name := "leastOf", desc := "([I)I" } : MethodName) prog_5_method_8_code (4 : Nat) (Option.some FieldType.int)) ∈ GG := tb_3 7 rfl rfl
theorem mw_3_4 : (Cond.methodLink "OvenHouse" (232 : Nat) ({ cls := "OvenHouse$Loaves", name := "leastOf", desc := "([I)I" } : MethodName)) ∈ GG := tb_3 4 rfl rfl
theorem mw_3_5 : (Cond.instanceMethod ({ cls := "OvenHouse$Loaves", name := "leastOf", desc := "([I)I" } : MethodName)) ∈ GG := tb_3 5 rfl rfl
theorem mw_3_6 : (Cond.selects "OvenHouse$Loaves" ({ cls := "OvenHouse$Loaves", name := "leastOf", desc := "([I)I" } : MethodName) ({ cls := "OvenHouse$Loaves", name := "leastOf", desc := "([I)I" } : MethodName)) ∈ GG := tb_3 6 rfl rfl
theorem mw_3_10 : (Cond.methodLink "OvenHouse" (235 : Nat) ({ cls := "java/lang/Math", name := "max", desc := "(II)I" } : MethodName)) ∈ GG := tb_3 10 rfl rfl
theorem mw_2_17 : (Cond.fieldLink "OvenHouse" (47 : Nat) "OvenHouse" "circles" "LOvenHouse$Rings;") ∈ GG := tb_2 17 rfl rfl
theorem mw_1_178 : (Cond.fieldLink "OvenHouse" (278 : Nat) "OvenHouse$Rings" "points" "I") ∈ GG := tb_1 178 rfl rfl
theorem mw_1_166 : (Cond.fieldLink "OvenHouse" (281 : Nat) "OvenHouse$Rings" "q" "[I") ∈ GG := tb_1 166 rfl rfl
theorem mw_1_168 : (Cond.fieldLink "OvenHouse" (284 : Nat) "OvenHouse$Rings" "p" "[I") ∈ GG := tb_1 168 rfl rfl
theorem mw_2_20 : (Cond.fieldLink "OvenHouse" (67 : Nat) "OvenHouse" "waits" "LOvenHouse$Prices;") ∈ GG := tb_2 20 rfl rfl
theorem mw_3_22 : (Cond.code ({ cls := "OvenHouse$Rings", name := "joinAll", desc := "(LOvenHouse$Prices;)I" } : MethodName) prog_7_method_2_code (3 : Nat) (Option.some FieldType.int)) ∈ GG := tb_3 22 rfl rfl
theorem mw_3_19 : (Cond.methodLink "OvenHouse" (287 : Nat) ({ cls := "OvenHouse$Rings", name := "joinAll", desc := "(LOvenHouse$Prices;)I" } : MethodName)) ∈ GG := tb_3 19 rfl rfl
theorem mw_3_20 : (Cond.instanceMethod ({ cls := "OvenHouse$Rings", name := "joinAll", desc := "(LOvenHouse$Prices;)I" } : MethodName)) ∈ GG := tb_3 20 rfl rfl
theorem mw_3_21 : (Cond.selects "OvenHouse$Rings" ({ cls := "OvenHouse$Rings", name := "joinAll", desc := "(LOvenHouse$Prices;)I" } : MethodName) ({ cls := "OvenHouse$Rings", name := "joinAll", desc := "(LOvenHouse$Prices;)I" } : MethodName)) ∈ GG := tb_3 21 rfl rfl
theorem mw_1_172 : (Cond.fieldLink "OvenHouse" (327 : Nat) "OvenHouse$Rings" "behind" "[I") ∈ GG := tb_1 172 rfl rfl
theorem mw_2_21 : (Cond.fieldLink "OvenHouse" (70 : Nat) "OvenHouse" "scratch" "[I") ∈ GG := tb_2 21 rfl rfl
theorem mw_3_72 : (Cond.code ({ cls := "OvenHouse$Rings", name := "rowFrom", desc := "(I[II)V" } : MethodName) prog_7_method_3_code (6 : Nat) (Option.none : Option FieldType)) ∈ GG := tb_3 72 rfl rfl
theorem mw_3_69 : (Cond.methodLink "OvenHouse" (291 : Nat) ({ cls := "OvenHouse$Rings", name := "rowFrom", desc := "(I[II)V" } : MethodName)) ∈ GG := tb_3 69 rfl rfl
theorem mw_3_70 : (Cond.instanceMethod ({ cls := "OvenHouse$Rings", name := "rowFrom", desc := "(I[II)V" } : MethodName)) ∈ GG := tb_3 70 rfl rfl
theorem mw_3_71 : (Cond.selects "OvenHouse$Rings" ({ cls := "OvenHouse$Rings", name := "rowFrom", desc := "(I[II)V" } : MethodName) ({ cls := "OvenHouse$Rings", name := "rowFrom", desc := "(I[II)V" } : MethodName)) ∈ GG := tb_3 71 rfl rfl
theorem mw_3_76 : (Cond.code ({ cls := "OvenHouse$Best", name := "become", desc := "([II)V" } : MethodName) prog_2_method_2_code (3 : Nat) (Option.none : Option FieldType)) ∈ GG := tb_3 76 rfl rfl
theorem mw_3_73 : (Cond.methodLink "OvenHouse" (248 : Nat) ({ cls := "OvenHouse$Best", name := "become", desc := "([II)V" } : MethodName)) ∈ GG := tb_3 73 rfl rfl
theorem mw_3_74 : (Cond.instanceMethod ({ cls := "OvenHouse$Best", name := "become", desc := "([II)V" } : MethodName)) ∈ GG := tb_3 74 rfl rfl
theorem mw_3_75 : (Cond.selects "OvenHouse$Best" ({ cls := "OvenHouse$Best", name := "become", desc := "([II)V" } : MethodName) ({ cls := "OvenHouse$Best", name := "become", desc := "([II)V" } : MethodName)) ∈ GG := tb_3 75 rfl rfl
theorem mw_1_6 : (Cond.initialized "OvenHouse$Best") ∈ GG := tb_1 6 rfl rfl
theorem mw_2_18 : (Cond.fieldLink "OvenHouse" (54 : Nat) "OvenHouse" "rows" "LOvenHouse$Rows;") ∈ GG := tb_2 18 rfl rfl
theorem mw_3_85 : (Cond.code ({ cls := "OvenHouse$Rows", name := "begin", desc := "(I)V" } : MethodName) prog_8_method_2_code (3 : Nat) (Option.none : Option FieldType)) ∈ GG := tb_3 85 rfl rfl
theorem mw_3_82 : (Cond.methodLink "OvenHouse" (298 : Nat) ({ cls := "OvenHouse$Rows", name := "begin", desc := "(I)V" } : MethodName)) ∈ GG := tb_3 82 rfl rfl
theorem mw_3_83 : (Cond.instanceMethod ({ cls := "OvenHouse$Rows", name := "begin", desc := "(I)V" } : MethodName)) ∈ GG := tb_3 83 rfl rfl
theorem mw_3_84 : (Cond.selects "OvenHouse$Rows" ({ cls := "OvenHouse$Rows", name := "begin", desc := "(I)V" } : MethodName) ({ cls := "OvenHouse$Rows", name := "begin", desc := "(I)V" } : MethodName)) ∈ GG := tb_3 84 rfl rfl
theorem mw_1_9 : (Cond.initialized "OvenHouse$Rows") ∈ GG := tb_1 9 rfl rfl
theorem mw_3_86 : (Cond.constant "OvenHouse" (301 : Nat) (2147483647 : Int32)) ∈ GG := tb_3 86 rfl rfl
theorem mw_1_228 : (Cond.fieldLink "OvenHouse" (302 : Nat) "OvenHouse$Rows" "row" "[I") ∈ GG := tb_1 228 rfl rfl
theorem mw_3_90 : (Cond.code ({ cls := "OvenHouse$Loaves", name := "isOrder", desc := "([I)Z" } : MethodName) prog_5_method_9_code (3 : Nat) (Option.some FieldType.boolean)) ∈ GG := tb_3 90 rfl rfl
theorem mw_3_87 : (Cond.methodLink "OvenHouse" (330 : Nat) ({ cls := "OvenHouse$Loaves", name := "isOrder", desc := "([I)Z" } : MethodName)) ∈ GG := tb_3 87 rfl rfl
theorem mw_3_88 : (Cond.instanceMethod ({ cls := "OvenHouse$Loaves", name := "isOrder", desc := "([I)Z" } : MethodName)) ∈ GG := tb_3 88 rfl rfl
theorem mw_3_89 : (Cond.selects "OvenHouse$Loaves" ({ cls := "OvenHouse$Loaves", name := "isOrder", desc := "([I)Z" } : MethodName) ({ cls := "OvenHouse$Loaves", name := "isOrder", desc := "([I)Z" } : MethodName)) ∈ GG := tb_3 89 rfl rfl
theorem mw_3_94 : (Cond.code ({ cls := "OvenHouse$Rows", name := "step", desc := "()I" } : MethodName) prog_8_method_3_code (5 : Nat) (Option.some FieldType.int)) ∈ GG := tb_3 94 rfl rfl
theorem mw_3_91 : (Cond.methodLink "OvenHouse" (309 : Nat) ({ cls := "OvenHouse$Rows", name := "step", desc := "()I" } : MethodName)) ∈ GG := tb_3 91 rfl rfl
theorem mw_3_92 : (Cond.instanceMethod ({ cls := "OvenHouse$Rows", name := "step", desc := "()I" } : MethodName)) ∈ GG := tb_3 92 rfl rfl
theorem mw_3_93 : (Cond.selects "OvenHouse$Rows" ({ cls := "OvenHouse$Rows", name := "step", desc := "()I" } : MethodName) ({ cls := "OvenHouse$Rows", name := "step", desc := "()I" } : MethodName)) ∈ GG := tb_3 93 rfl rfl
theorem mw_3_81 : (Cond.code ({ cls := "OvenHouse", name := "leastOfAllRows", desc := "(Z)I" } : MethodName) prog_1_method_44_code (6 : Nat) (Option.some FieldType.int)) ∈ GG := tb_3 81 rfl rfl
theorem mw_3_78 : (Cond.methodLink "OvenHouse" (244 : Nat) ({ cls := "OvenHouse", name := "leastOfAllRows", desc := "(Z)I" } : MethodName)) ∈ GG := tb_3 78 rfl rfl
theorem mw_3_80 : (Cond.instanceMethod ({ cls := "OvenHouse", name := "leastOfAllRows", desc := "(Z)I" } : MethodName)) ∈ GG := tb_3 80 rfl rfl
theorem mw_0_10 : Cond.selects "OvenHouse" ⟨"OvenHouse", "leastOfAllRows", "(Z)I"⟩ ⟨"OvenHouse", "leastOfAllRows", "(Z)I"⟩ ∈ GG := tb_0 10 (by decide +kernel) rfl
theorem mw_3_18 : (Cond.code ({ cls := "OvenHouse", name := "leastByRings", desc := "()I" } : MethodName) prog_1_method_43_code (3 : Nat) (Option.some FieldType.int)) ∈ GG := tb_3 18 rfl rfl
theorem mw_3_15 : (Cond.methodLink "OvenHouse" (240 : Nat) ({ cls := "OvenHouse", name := "leastByRings", desc := "()I" } : MethodName)) ∈ GG := tb_3 15 rfl rfl
theorem mw_3_17 : (Cond.instanceMethod ({ cls := "OvenHouse", name := "leastByRings", desc := "()I" } : MethodName)) ∈ GG := tb_3 17 rfl rfl
theorem mw_0_1 : Cond.selects "OvenHouse" ⟨"OvenHouse", "leastByRings", "()I"⟩ ⟨"OvenHouse", "leastByRings", "()I"⟩ ∈ GG := tb_0 1 (by decide +kernel) rfl
theorem mw_3_104 : (Cond.constant "OvenHouse" (252 : Nat) (1000000 : Int32)) ∈ GG := tb_3 104 rfl rfl
theorem mw_3_108 : (Cond.code ({ cls := "OvenHouse", name := "passOfNeighbours", desc := "()I" } : MethodName) prog_1_method_45_code (5 : Nat) (Option.some FieldType.int)) ∈ GG := tb_3 108 rfl rfl
theorem mw_3_105 : (Cond.methodLink "OvenHouse" (253 : Nat) ({ cls := "OvenHouse", name := "passOfNeighbours", desc := "()I" } : MethodName)) ∈ GG := tb_3 105 rfl rfl
theorem mw_3_107 : (Cond.instanceMethod ({ cls := "OvenHouse", name := "passOfNeighbours", desc := "()I" } : MethodName)) ∈ GG := tb_3 107 rfl rfl
theorem mw_0_11 : Cond.selects "OvenHouse" ⟨"OvenHouse", "passOfNeighbours", "()I"⟩ ⟨"OvenHouse", "passOfNeighbours", "()I"⟩ ∈ GG := tb_0 11 (by decide +kernel) rfl
theorem mw_1_180 : (Cond.fieldLink "OvenHouse" (256 : Nat) "OvenHouse$Rings" "told" "Z") ∈ GG := tb_1 180 rfl rfl
theorem mw_1_182 : (Cond.fieldLink "OvenHouse" (259 : Nat) "OvenHouse$Rings" "pairingRings" "I") ∈ GG := tb_1 182 rfl rfl
theorem mw_1_184 : (Cond.fieldLink "OvenHouse" (262 : Nat) "OvenHouse$Rings" "pairingCost" "I") ∈ GG := tb_1 184 rfl rfl
theorem mw_1_186 : (Cond.fieldLink "OvenHouse" (265 : Nat) "OvenHouse$Rings" "joinsTaken" "I") ∈ GG := tb_1 186 rfl rfl
theorem mw_1_188 : (Cond.fieldLink "OvenHouse" (268 : Nat) "OvenHouse$Rings" "joinsWeight" "I") ∈ GG := tb_1 188 rfl rfl
theorem mw_3_125 : (Cond.methodLink "OvenHouse" (334 : Nat) ({ cls := "OvenHouse$Prices", name := "going", desc := "(II)I" } : MethodName)) ∈ GG := tb_3 125 rfl rfl
theorem mw_3_124 : (Cond.code ({ cls := "OvenHouse", name := "wayBetween", desc := "(II)I" } : MethodName) prog_1_method_46_code (3 : Nat) (Option.some FieldType.int)) ∈ GG := tb_3 124 rfl rfl
theorem mw_3_121 : (Cond.methodLink "OvenHouse" (271 : Nat) ({ cls := "OvenHouse", name := "wayBetween", desc := "(II)I" } : MethodName)) ∈ GG := tb_3 121 rfl rfl
theorem mw_3_123 : (Cond.instanceMethod ({ cls := "OvenHouse", name := "wayBetween", desc := "(II)I" } : MethodName)) ∈ GG := tb_3 123 rfl rfl
theorem mw_0_12 : Cond.selects "OvenHouse" ⟨"OvenHouse", "wayBetween", "(II)I"⟩ ⟨"OvenHouse", "wayBetween", "(II)I"⟩ ∈ GG := tb_0 12 (by decide +kernel) rfl
theorem mw_3_133 : (Cond.code ({ cls := "OvenHouse$Prices", name := "hasLossyStretch", desc := "()Z" } : MethodName) prog_6_method_2_code (2 : Nat) (Option.some FieldType.boolean)) ∈ GG := tb_3 133 rfl rfl
theorem mw_3_130 : (Cond.methodLink "OvenHouse" (274 : Nat) ({ cls := "OvenHouse$Prices", name := "hasLossyStretch", desc := "()Z" } : MethodName)) ∈ GG := tb_3 130 rfl rfl
theorem mw_3_131 : (Cond.instanceMethod ({ cls := "OvenHouse$Prices", name := "hasLossyStretch", desc := "()Z" } : MethodName)) ∈ GG := tb_3 131 rfl rfl
theorem mw_3_132 : (Cond.selects "OvenHouse$Prices" ({ cls := "OvenHouse$Prices", name := "hasLossyStretch", desc := "()Z" } : MethodName) ({ cls := "OvenHouse$Prices", name := "hasLossyStretch", desc := "()Z" } : MethodName)) ∈ GG := tb_3 132 rfl rfl
theorem mw_2_22 : (Cond.fieldLink "OvenHouse" (76 : Nat) "OvenHouse" "ways" "[[I") ∈ GG := tb_2 22 rfl rfl
theorem mw_3_141 : (Cond.code ({ cls := "OvenHouse", name := "layWays", desc := "()V" } : MethodName) prog_1_method_47_code (3 : Nat) (Option.none : Option FieldType)) ∈ GG := tb_3 141 rfl rfl
theorem mw_3_138 : (Cond.methodLink "OvenHouse" (295 : Nat) ({ cls := "OvenHouse", name := "layWays", desc := "()V" } : MethodName)) ∈ GG := tb_3 138 rfl rfl
theorem mw_3_140 : (Cond.instanceMethod ({ cls := "OvenHouse", name := "layWays", desc := "()V" } : MethodName)) ∈ GG := tb_3 140 rfl rfl
theorem mw_0_13 : Cond.selects "OvenHouse" ⟨"OvenHouse", "layWays", "()V"⟩ ⟨"OvenHouse", "layWays", "()V"⟩ ∈ GG := tb_0 13 (by decide +kernel) rfl
theorem mw_3_145 : (Cond.code ({ cls := "OvenHouse", name := "roundOfWays", desc := "([I)I" } : MethodName) prog_1_method_48_code (5 : Nat) (Option.some FieldType.int)) ∈ GG := tb_3 145 rfl rfl
theorem mw_3_142 : (Cond.methodLink "OvenHouse" (303 : Nat) ({ cls := "OvenHouse", name := "roundOfWays", desc := "([I)I" } : MethodName)) ∈ GG := tb_3 142 rfl rfl
theorem mw_3_144 : (Cond.instanceMethod ({ cls := "OvenHouse", name := "roundOfWays", desc := "([I)I" } : MethodName)) ∈ GG := tb_3 144 rfl rfl
theorem mw_0_14 : Cond.selects "OvenHouse" ⟨"OvenHouse", "roundOfWays", "([I)I"⟩ ⟨"OvenHouse", "roundOfWays", "([I)I"⟩ ∈ GG := tb_0 14 (by decide +kernel) rfl
theorem mw_3_146 : (Cond.methodLink "OvenHouse" (306 : Nat) ({ cls := "java/lang/Math", name := "min", desc := "(II)I" } : MethodName)) ∈ GG := tb_3 146 rfl rfl
theorem mw_3_151 : (Cond.methodLink "OvenHouse" (312 : Nat) ({ cls := "OvenHouse", name := "rank", desc := "([II[I)V" } : MethodName)) ∈ GG := tb_3 151 rfl rfl
theorem mw_1_40 : (Cond.fieldLink "OvenHouse" (316 : Nat) "OvenHouse$Sheets" "latest" "I") ∈ GG := tb_1 40 rfl rfl
theorem mw_3_160 : (Cond.constantLong "OvenHouse" (319 : Nat) (17 : Int64)) ∈ GG := tb_3 160 rfl rfl
theorem mw_3_161 : (Cond.constantLong "OvenHouse" (321 : Nat) (31 : Int64)) ∈ GG := tb_3 161 rfl rfl
theorem mw_2_135 : (Cond.code ({ cls := "OvenHouse", name := "of", desc := "(II)I" } : MethodName) prog_1_method_9_code (3 : Nat) (Option.some FieldType.int)) ∈ GG := tb_2 135 rfl rfl
theorem mw_3_162 : (Cond.methodLink "OvenHouse" (323 : Nat) ({ cls := "OvenHouse", name := "of", desc := "(II)I" } : MethodName)) ∈ GG := tb_3 162 rfl rfl
theorem mw_2_133 : (Cond.instanceMethod ({ cls := "OvenHouse", name := "of", desc := "(II)I" } : MethodName)) ∈ GG := tb_2 133 rfl rfl
theorem mw_2_134 : (Cond.selects "OvenHouse" ({ cls := "OvenHouse", name := "of", desc := "(II)I" } : MethodName) ({ cls := "OvenHouse", name := "of", desc := "(II)I" } : MethodName)) ∈ GG := tb_2 134 rfl rfl
theorem mw_3_169 : (Cond.fieldLink "OvenHouseModel" (92 : Nat) "OvenHouseModel" "found" "I") ∈ GG := tb_3 169 rfl rfl
theorem mw_4_42 : (Cond.constantLong "OvenHouseModel" (96 : Nat) (3 : Int64)) ∈ GG := tb_4 42 rfl rfl
theorem mw_4_45 : (Cond.code ({ cls := "OvenHouseModel", name := "in", desc := "(JJJ)Z" } : MethodName) prog_11_method_3_code (6 : Nat) (Option.some FieldType.boolean)) ∈ GG := tb_4 45 rfl rfl
theorem mw_4_44 : (Cond.static ({ cls := "OvenHouseModel", name := "in", desc := "(JJJ)Z" } : MethodName)) ∈ GG := tb_4 44 rfl rfl
theorem mw_1_11 : (Cond.initialized "OvenHouseModel") ∈ GG := tb_1 11 rfl rfl
theorem mw_4_43 : (Cond.methodLink "OvenHouseModel" (98 : Nat) ({ cls := "OvenHouseModel", name := "in", desc := "(JJJ)Z" } : MethodName)) ∈ GG := tb_4 43 rfl rfl
theorem mw_4_41 : (Cond.code ({ cls := "OvenHouseModel", name := "isSheet", desc := "(I)Z" } : MethodName) prog_11_method_5_code (1 : Nat) (Option.some FieldType.boolean)) ∈ GG := tb_4 41 rfl rfl
theorem mw_4_40 : (Cond.static ({ cls := "OvenHouseModel", name := "isSheet", desc := "(I)Z" } : MethodName)) ∈ GG := tb_4 40 rfl rfl
theorem mw_4_39 : (Cond.methodLink "OvenHouseModel" (102 : Nat) ({ cls := "OvenHouseModel", name := "isSheet", desc := "(I)Z" } : MethodName)) ∈ GG := tb_4 39 rfl rfl
theorem mw_4_46 : (Cond.constantLong "OvenHouseModel" (106 : Nat) (2 : Int64)) ∈ GG := tb_4 46 rfl rfl
theorem mw_3_170 : (Cond.fieldLink "OvenHouseModel" (7 : Nat) "OvenHouseModel" "forms" "[I") ∈ GG := tb_3 170 rfl rfl
theorem mw_3_171 : (Cond.fieldLink "OvenHouseModel" (13 : Nat) "OvenHouseModel" "sizes" "[I") ∈ GG := tb_3 171 rfl rfl
theorem mw_4_50 : (Cond.code ({ cls := "OvenHouseModel", name := "met", desc := "(I)I" } : MethodName) prog_11_method_4_code (2 : Nat) (Option.some FieldType.int)) ∈ GG := tb_4 50 rfl rfl
theorem mw_4_47 : (Cond.methodLink "OvenHouseModel" (108 : Nat) ({ cls := "OvenHouseModel", name := "met", desc := "(I)I" } : MethodName)) ∈ GG := tb_4 47 rfl rfl
theorem mw_4_49 : (Cond.instanceMethod ({ cls := "OvenHouseModel", name := "met", desc := "(I)I" } : MethodName)) ∈ GG := tb_4 49 rfl rfl
theorem mw_0_15 : Cond.selects "OvenHouseModel" ⟨"OvenHouseModel", "met", "(I)I"⟩ ⟨"OvenHouseModel", "met", "(I)I"⟩ ∈ GG := tb_0 15 (by decide +kernel) rfl
theorem mw_3_172 : (Cond.fieldLink "OvenHouseModel" (16 : Nat) "OvenHouseModel" "items" "[I") ∈ GG := tb_3 172 rfl rfl
theorem mw_4_62 : (Cond.code ({ cls := "OvenHouseModel", name := "lacks", desc := "(III)I" } : MethodName) prog_11_method_8_code (4 : Nat) (Option.some FieldType.int)) ∈ GG := tb_4 62 rfl rfl
theorem mw_4_59 : (Cond.methodLink "OvenHouseModel" (112 : Nat) ({ cls := "OvenHouseModel", name := "lacks", desc := "(III)I" } : MethodName)) ∈ GG := tb_4 59 rfl rfl
theorem mw_4_61 : (Cond.instanceMethod ({ cls := "OvenHouseModel", name := "lacks", desc := "(III)I" } : MethodName)) ∈ GG := tb_4 61 rfl rfl
theorem mw_0_16 : Cond.selects "OvenHouseModel" ⟨"OvenHouseModel", "lacks", "(III)I"⟩ ⟨"OvenHouseModel", "lacks", "(III)I"⟩ ∈ GG := tb_0 16 (by decide +kernel) rfl
theorem mw_4_67 : (Cond.constant "OvenHouseModel" (116 : Nat) (-2147483648 : Int32)) ∈ GG := tb_4 67 rfl rfl
theorem mw_3_173 : (Cond.fieldLink "OvenHouseModel" (19 : Nat) "OvenHouseModel" "moved" "[I") ∈ GG := tb_3 173 rfl rfl
theorem mw_3_174 : (Cond.fieldLink "OvenHouseModel" (22 : Nat) "OvenHouseModel" "many" "[I") ∈ GG := tb_3 174 rfl rfl
theorem mw_3_175 : (Cond.fieldLink "OvenHouseModel" (25 : Nat) "OvenHouseModel" "mix" "[I") ∈ GG := tb_3 175 rfl rfl
theorem mw_3_176 : (Cond.fieldLink "OvenHouseModel" (28 : Nat) "OvenHouseModel" "bake" "[I") ∈ GG := tb_3 176 rfl rfl
theorem mw_3_177 : (Cond.fieldLink "OvenHouseModel" (31 : Nat) "OvenHouseModel" "from" "[I") ∈ GG := tb_3 177 rfl rfl
theorem mw_3_178 : (Cond.fieldLink "OvenHouseModel" (34 : Nat) "OvenHouseModel" "to" "[I") ∈ GG := tb_3 178 rfl rfl
theorem mw_3_179 : (Cond.fieldLink "OvenHouseModel" (37 : Nat) "OvenHouseModel" "order" "[I") ∈ GG := tb_3 179 rfl rfl
theorem mw_3_180 : (Cond.fieldLink "OvenHouseModel" (117 : Nat) "OvenHouseModel" "kept" "I") ∈ GG := tb_3 180 rfl rfl
theorem mw_4_79 : (Cond.code ({ cls := "OvenHouseModel", name := "copyAll", desc := "(II)V" } : MethodName) prog_11_method_12_code (4 : Nat) (Option.none : Option FieldType)) ∈ GG := tb_4 79 rfl rfl
theorem mw_4_76 : (Cond.methodLink "OvenHouseModel" (120 : Nat) ({ cls := "OvenHouseModel", name := "copyAll", desc := "(II)V" } : MethodName)) ∈ GG := tb_4 76 rfl rfl
theorem mw_4_78 : (Cond.instanceMethod ({ cls := "OvenHouseModel", name := "copyAll", desc := "(II)V" } : MethodName)) ∈ GG := tb_4 78 rfl rfl
theorem mw_0_17 : Cond.selects "OvenHouseModel" ⟨"OvenHouseModel", "copyAll", "(II)V"⟩ ⟨"OvenHouseModel", "copyAll", "(II)V"⟩ ∈ GG := tb_0 17 (by decide +kernel) rfl
theorem mw_3_184 : (Cond.fieldLink "OvenHouseModel" (124 : Nat) "OvenHouseModel" "isFresh" "Z") ∈ GG := tb_3 184 rfl rfl
theorem mw_4_84 : (Cond.constantLong "OvenHouseModel" (128 : Nat) (40 : Int64)) ∈ GG := tb_4 84 rfl rfl
theorem mw_4_89 : (Cond.code ({ cls := "OvenHouseModel", name := "keep", desc := "()V" } : MethodName) prog_11_method_13_code (2 : Nat) (Option.none : Option FieldType)) ∈ GG := tb_4 89 rfl rfl
theorem mw_4_86 : (Cond.methodLink "OvenHouseModel" (132 : Nat) ({ cls := "OvenHouseModel", name := "keep", desc := "()V" } : MethodName)) ∈ GG := tb_4 86 rfl rfl
theorem mw_4_88 : (Cond.instanceMethod ({ cls := "OvenHouseModel", name := "keep", desc := "()V" } : MethodName)) ∈ GG := tb_4 88 rfl rfl
theorem mw_0_18 : Cond.selects "OvenHouseModel" ⟨"OvenHouseModel", "keep", "()V"⟩ ⟨"OvenHouseModel", "keep", "()V"⟩ ∈ GG := tb_0 18 (by decide +kernel) rfl
theorem mw_4_85 : (Cond.constantLong "OvenHouseModel" (130 : Nat) (100000 : Int64)) ∈ GG := tb_4 85 rfl rfl
theorem mw_4_93 : (Cond.code ({ cls := "OvenHouseModel", name := "come", desc := "(II)V" } : MethodName) prog_11_method_15_code (4 : Nat) (Option.none : Option FieldType)) ∈ GG := tb_4 93 rfl rfl
theorem mw_4_90 : (Cond.methodLink "OvenHouseModel" (135 : Nat) ({ cls := "OvenHouseModel", name := "come", desc := "(II)V" } : MethodName)) ∈ GG := tb_4 90 rfl rfl
theorem mw_4_92 : (Cond.instanceMethod ({ cls := "OvenHouseModel", name := "come", desc := "(II)V" } : MethodName)) ∈ GG := tb_4 92 rfl rfl
theorem mw_0_19 : Cond.selects "OvenHouseModel" ⟨"OvenHouseModel", "come", "(II)V"⟩ ⟨"OvenHouseModel", "come", "(II)V"⟩ ∈ GG := tb_0 19 (by decide +kernel) rfl
theorem mw_4_105 : (Cond.code ({ cls := "OvenHouseModel", name := "isLoaf", desc := "(I)Z" } : MethodName) prog_11_method_18_code (2 : Nat) (Option.some FieldType.boolean)) ∈ GG := tb_4 105 rfl rfl
theorem mw_4_102 : (Cond.methodLink "OvenHouseModel" (138 : Nat) ({ cls := "OvenHouseModel", name := "isLoaf", desc := "(I)Z" } : MethodName)) ∈ GG := tb_4 102 rfl rfl
theorem mw_4_104 : (Cond.instanceMethod ({ cls := "OvenHouseModel", name := "isLoaf", desc := "(I)Z" } : MethodName)) ∈ GG := tb_4 104 rfl rfl
theorem mw_0_20 : Cond.selects "OvenHouseModel" ⟨"OvenHouseModel", "isLoaf", "(I)Z"⟩ ⟨"OvenHouseModel", "isLoaf", "(I)Z"⟩ ∈ GG := tb_0 20 (by decide +kernel) rfl
theorem mw_4_109 : (Cond.code ({ cls := "OvenHouseModel", name := "kindOf", desc := "(I)I" } : MethodName) prog_11_method_19_code (2 : Nat) (Option.some FieldType.int)) ∈ GG := tb_4 109 rfl rfl
theorem mw_4_106 : (Cond.methodLink "OvenHouseModel" (141 : Nat) ({ cls := "OvenHouseModel", name := "kindOf", desc := "(I)I" } : MethodName)) ∈ GG := tb_4 106 rfl rfl
theorem mw_4_108 : (Cond.instanceMethod ({ cls := "OvenHouseModel", name := "kindOf", desc := "(I)I" } : MethodName)) ∈ GG := tb_4 108 rfl rfl
theorem mw_0_21 : Cond.selects "OvenHouseModel" ⟨"OvenHouseModel", "kindOf", "(I)I"⟩ ⟨"OvenHouseModel", "kindOf", "(I)I"⟩ ∈ GG := tb_0 21 (by decide +kernel) rfl
theorem mw_4_113 : (Cond.code ({ cls := "OvenHouseModel", name := "placeOf", desc := "(I)I" } : MethodName) prog_11_method_20_code (3 : Nat) (Option.some FieldType.int)) ∈ GG := tb_4 113 rfl rfl
theorem mw_4_110 : (Cond.methodLink "OvenHouseModel" (144 : Nat) ({ cls := "OvenHouseModel", name := "placeOf", desc := "(I)I" } : MethodName)) ∈ GG := tb_4 110 rfl rfl
theorem mw_4_112 : (Cond.instanceMethod ({ cls := "OvenHouseModel", name := "placeOf", desc := "(I)I" } : MethodName)) ∈ GG := tb_4 112 rfl rfl
theorem mw_0_22 : Cond.selects "OvenHouseModel" ⟨"OvenHouseModel", "placeOf", "(I)I"⟩ ⟨"OvenHouseModel", "placeOf", "(I)I"⟩ ∈ GG := tb_0 22 (by decide +kernel) rfl
theorem mw_4_118 : (Cond.constantLong "OvenHouseModel" (147 : Nat) (399 : Int64)) ∈ GG := tb_4 118 rfl rfl
theorem mw_4_123 : (Cond.constantLong "OvenHouseModel" (149 : Nat) (7 : Int64)) ∈ GG := tb_4 123 rfl rfl
theorem mw_4_124 : (Cond.constantLong "OvenHouseModel" (151 : Nat) (-100 : Int64)) ∈ GG := tb_4 124 rfl rfl
theorem mw_4_125 : (Cond.constantLong "OvenHouseModel" (153 : Nat) (100 : Int64)) ∈ GG := tb_4 125 rfl rfl
theorem mw_3_185 : (Cond.fieldLink "OvenHouseModel" (43 : Nat) "OvenHouseModel" "ups" "[I") ∈ GG := tb_3 185 rfl rfl
theorem mw_3_186 : (Cond.fieldLink "OvenHouseModel" (46 : Nat) "OvenHouseModel" "downs" "[I") ∈ GG := tb_3 186 rfl rfl
theorem mw_4_145 : (Cond.code ({ cls := "OvenHouseModel", name := "isAhead", desc := "(II)Z" } : MethodName) prog_11_method_26_code (5 : Nat) (Option.some FieldType.boolean)) ∈ GG := tb_4 145 rfl rfl
theorem mw_4_142 : (Cond.methodLink "OvenHouseModel" (155 : Nat) ({ cls := "OvenHouseModel", name := "isAhead", desc := "(II)Z" } : MethodName)) ∈ GG := tb_4 142 rfl rfl
theorem mw_4_144 : (Cond.instanceMethod ({ cls := "OvenHouseModel", name := "isAhead", desc := "(II)Z" } : MethodName)) ∈ GG := tb_4 144 rfl rfl
theorem mw_0_24 : Cond.selects "OvenHouseModel" ⟨"OvenHouseModel", "isAhead", "(II)Z"⟩ ⟨"OvenHouseModel", "isAhead", "(II)Z"⟩ ∈ GG := tb_0 24 (by decide +kernel) rfl
theorem mw_3_187 : (Cond.fieldLink "OvenHouseModel" (49 : Nat) "OvenHouseModel" "mixBegins" "[I") ∈ GG := tb_3 187 rfl rfl
theorem mw_3_188 : (Cond.fieldLink "OvenHouseModel" (52 : Nat) "OvenHouseModel" "bakeBegins" "[I") ∈ GG := tb_3 188 rfl rfl
theorem mw_4_141 : (Cond.code ({ cls := "OvenHouseModel", name := "byRule", desc := "([I)V" } : MethodName) prog_11_method_27_code (4 : Nat) (Option.none : Option FieldType)) ∈ GG := tb_4 141 rfl rfl
theorem mw_4_138 : (Cond.methodLink "OvenHouseModel" (159 : Nat) ({ cls := "OvenHouseModel", name := "byRule", desc := "([I)V" } : MethodName)) ∈ GG := tb_4 138 rfl rfl
theorem mw_4_140 : (Cond.instanceMethod ({ cls := "OvenHouseModel", name := "byRule", desc := "([I)V" } : MethodName)) ∈ GG := tb_4 140 rfl rfl
theorem mw_0_23 : Cond.selects "OvenHouseModel" ⟨"OvenHouseModel", "byRule", "([I)V"⟩ ⟨"OvenHouseModel", "byRule", "([I)V"⟩ ∈ GG := tb_0 23 (by decide +kernel) rfl
theorem mw_4_149 : (Cond.code ({ cls := "OvenHouseModel", name := "endOf", desc := "([III)I" } : MethodName) prog_11_method_32_code (11 : Nat) (Option.some FieldType.int)) ∈ GG := tb_4 149 rfl rfl
theorem mw_4_146 : (Cond.methodLink "OvenHouseModel" (163 : Nat) ({ cls := "OvenHouseModel", name := "endOf", desc := "([III)I" } : MethodName)) ∈ GG := tb_4 146 rfl rfl
theorem mw_4_148 : (Cond.instanceMethod ({ cls := "OvenHouseModel", name := "endOf", desc := "([III)I" } : MethodName)) ∈ GG := tb_4 148 rfl rfl
theorem mw_0_25 : Cond.selects "OvenHouseModel" ⟨"OvenHouseModel", "endOf", "([III)I"⟩ ⟨"OvenHouseModel", "endOf", "([III)I"⟩ ∈ GG := tb_0 25 (by decide +kernel) rfl
theorem mw_3_183 : (Cond.fieldLink "OvenHouseModel" (167 : Nat) "OvenHouseModel" "isFound" "Z") ∈ GG := tb_3 183 rfl rfl
theorem mw_3_182 : (Cond.fieldLink "OvenHouseModel" (40 : Nat) "OvenHouseModel" "best" "[I") ∈ GG := tb_3 182 rfl rfl
theorem mw_4_165 : (Cond.constantLong "OvenHouseModel" (170 : Nat) (5 : Int64)) ∈ GG := tb_4 165 rfl rfl
theorem mw_4_164 : (Cond.code ({ cls := "OvenHouseModel", name := "isLaw", desc := "(II)Z" } : MethodName) prog_11_method_31_code (2 : Nat) (Option.some FieldType.boolean)) ∈ GG := tb_4 164 rfl rfl
theorem mw_4_163 : (Cond.static ({ cls := "OvenHouseModel", name := "isLaw", desc := "(II)Z" } : MethodName)) ∈ GG := tb_4 163 rfl rfl
theorem mw_4_162 : (Cond.methodLink "OvenHouseModel" (172 : Nat) ({ cls := "OvenHouseModel", name := "isLaw", desc := "(II)Z" } : MethodName)) ∈ GG := tb_4 162 rfl rfl
theorem mw_4_177 : (Cond.code ({ cls := "OvenHouseModel", name := "allBake", desc := "()I" } : MethodName) prog_11_method_36_code (3 : Nat) (Option.some FieldType.int)) ∈ GG := tb_4 177 rfl rfl
theorem mw_4_174 : (Cond.methodLink "OvenHouseModel" (175 : Nat) ({ cls := "OvenHouseModel", name := "allBake", desc := "()I" } : MethodName)) ∈ GG := tb_4 174 rfl rfl
theorem mw_4_176 : (Cond.instanceMethod ({ cls := "OvenHouseModel", name := "allBake", desc := "()I" } : MethodName)) ∈ GG := tb_4 176 rfl rfl
theorem mw_0_26 : Cond.selects "OvenHouseModel" ⟨"OvenHouseModel", "allBake", "()I"⟩ ⟨"OvenHouseModel", "allBake", "()I"⟩ ∈ GG := tb_0 26 (by decide +kernel) rfl
theorem mw_4_185 : (Cond.code ({ cls := "OvenHouseModel", name := "allMix", desc := "()I" } : MethodName) prog_11_method_35_code (3 : Nat) (Option.some FieldType.int)) ∈ GG := tb_4 185 rfl rfl
theorem mw_4_182 : (Cond.methodLink "OvenHouseModel" (179 : Nat) ({ cls := "OvenHouseModel", name := "allMix", desc := "()I" } : MethodName)) ∈ GG := tb_4 182 rfl rfl
theorem mw_4_184 : (Cond.instanceMethod ({ cls := "OvenHouseModel", name := "allMix", desc := "()I" } : MethodName)) ∈ GG := tb_4 184 rfl rfl
theorem mw_0_27 : Cond.selects "OvenHouseModel" ⟨"OvenHouseModel", "allMix", "()I"⟩ ⟨"OvenHouseModel", "allMix", "()I"⟩ ∈ GG := tb_0 27 (by decide +kernel) rfl
theorem mw_3_189 : (Cond.fieldLink "OvenHouseModel" (55 : Nat) "OvenHouseModel" "row" "[I") ∈ GG := tb_3 189 rfl rfl
theorem mw_3_181 : (Cond.fieldLink "OvenHouseModel" (182 : Nat) "OvenHouseModel" "bestMany" "I") ∈ GG := tb_3 181 rfl rfl
theorem mw_3_190 : (Cond.fieldLink "OvenHouseModel" (208 : Nat) "OvenHouseModel" "points" "I") ∈ GG := tb_3 190 rfl rfl
theorem mw_3_191 : (Cond.fieldLink "OvenHouseModel" (201 : Nat) "OvenHouseModel" "byHeat" "Z") ∈ GG := tb_3 191 rfl rfl
theorem mw_4_213 : (Cond.code ({ cls := "OvenHouseModel", name := "between", desc := "(IIII)I" } : MethodName) prog_11_method_47_code (7 : Nat) (Option.some FieldType.int)) ∈ GG := tb_4 213 rfl rfl
theorem mw_4_210 : (Cond.methodLink "OvenHouseModel" (204 : Nat) ({ cls := "OvenHouseModel", name := "between", desc := "(IIII)I" } : MethodName)) ∈ GG := tb_4 210 rfl rfl
theorem mw_4_212 : (Cond.instanceMethod ({ cls := "OvenHouseModel", name := "between", desc := "(IIII)I" } : MethodName)) ∈ GG := tb_4 212 rfl rfl
theorem mw_0_33 : Cond.selects "OvenHouseModel" ⟨"OvenHouseModel", "between", "(IIII)I"⟩ ⟨"OvenHouseModel", "between", "(IIII)I"⟩ ∈ GG := tb_0 33 (by decide +kernel) rfl
theorem mw_3_193 : (Cond.fieldLink "OvenHouseModel" (61 : Nat) "OvenHouseModel" "ends" "[I") ∈ GG := tb_3 193 rfl rfl
theorem mw_3_192 : (Cond.fieldLink "OvenHouseModel" (58 : Nat) "OvenHouseModel" "begins" "[I") ∈ GG := tb_3 192 rfl rfl
theorem mw_3_196 : (Cond.fieldLink "OvenHouseModel" (70 : Nat) "OvenHouseModel" "behind" "[I") ∈ GG := tb_3 196 rfl rfl
theorem mw_4_209 : (Cond.code ({ cls := "OvenHouseModel", name := "costOf", desc := "(II)I" } : MethodName) prog_11_method_48_code (3 : Nat) (Option.some FieldType.int)) ∈ GG := tb_4 209 rfl rfl
theorem mw_4_206 : (Cond.methodLink "OvenHouseModel" (211 : Nat) ({ cls := "OvenHouseModel", name := "costOf", desc := "(II)I" } : MethodName)) ∈ GG := tb_4 206 rfl rfl
theorem mw_4_208 : (Cond.instanceMethod ({ cls := "OvenHouseModel", name := "costOf", desc := "(II)I" } : MethodName)) ∈ GG := tb_4 208 rfl rfl
theorem mw_0_32 : Cond.selects "OvenHouseModel" ⟨"OvenHouseModel", "costOf", "(II)I"⟩ ⟨"OvenHouseModel", "costOf", "(II)I"⟩ ∈ GG := tb_0 32 (by decide +kernel) rfl
theorem mw_3_194 : (Cond.fieldLink "OvenHouseModel" (64 : Nat) "OvenHouseModel" "u" "[I") ∈ GG := tb_3 194 rfl rfl
theorem mw_3_195 : (Cond.fieldLink "OvenHouseModel" (67 : Nat) "OvenHouseModel" "v" "[I") ∈ GG := tb_3 195 rfl rfl
theorem mw_4_201 : (Cond.code ({ cls := "OvenHouseModel", name := "sorts", desc := "([I[I)V" } : MethodName) prog_11_method_49_code (5 : Nat) (Option.none : Option FieldType)) ∈ GG := tb_4 201 rfl rfl
theorem mw_4_198 : (Cond.methodLink "OvenHouseModel" (215 : Nat) ({ cls := "OvenHouseModel", name := "sorts", desc := "([I[I)V" } : MethodName)) ∈ GG := tb_4 198 rfl rfl
theorem mw_4_200 : (Cond.instanceMethod ({ cls := "OvenHouseModel", name := "sorts", desc := "([I[I)V" } : MethodName)) ∈ GG := tb_4 200 rfl rfl
theorem mw_0_30 : Cond.selects "OvenHouseModel" ⟨"OvenHouseModel", "sorts", "([I[I)V"⟩ ⟨"OvenHouseModel", "sorts", "([I[I)V"⟩ ∈ GG := tb_0 30 (by decide +kernel) rfl
theorem mw_3_202 : (Cond.fieldLink "OvenHouseModel" (219 : Nat) "OvenHouseModel" "hasRings" "Z") ∈ GG := tb_3 202 rfl rfl
theorem mw_3_201 : (Cond.fieldLink "OvenHouseModel" (86 : Nat) "OvenHouseModel" "told" "[I") ∈ GG := tb_3 201 rfl rfl
theorem mw_3_197 : (Cond.fieldLink "OvenHouseModel" (73 : Nat) "OvenHouseModel" "ring" "[I") ∈ GG := tb_3 197 rfl rfl
theorem mw_3_199 : (Cond.fieldLink "OvenHouseModel" (79 : Nat) "OvenHouseModel" "looked" "[Z") ∈ GG := tb_3 199 rfl rfl
theorem mw_3_200 : (Cond.fieldLink "OvenHouseModel" (83 : Nat) "OvenHouseModel" "taken" "[Z") ∈ GG := tb_3 200 rfl rfl
theorem mw_4_205 : (Cond.code ({ cls := "OvenHouseModel", name := "ringCost", desc := "()I" } : MethodName) prog_11_method_50_code (3 : Nat) (Option.some FieldType.int)) ∈ GG := tb_4 205 rfl rfl
theorem mw_4_202 : (Cond.methodLink "OvenHouseModel" (222 : Nat) ({ cls := "OvenHouseModel", name := "ringCost", desc := "()I" } : MethodName)) ∈ GG := tb_4 202 rfl rfl
theorem mw_4_204 : (Cond.instanceMethod ({ cls := "OvenHouseModel", name := "ringCost", desc := "()I" } : MethodName)) ∈ GG := tb_4 204 rfl rfl
theorem mw_0_31 : Cond.selects "OvenHouseModel" ⟨"OvenHouseModel", "ringCost", "()I"⟩ ⟨"OvenHouseModel", "ringCost", "()I"⟩ ∈ GG := tb_0 31 (by decide +kernel) rfl
theorem mw_4_217 : (Cond.code ({ cls := "OvenHouseModel", name := "higher", desc := "(I)I" } : MethodName) prog_11_method_51_code (2 : Nat) (Option.some FieldType.int)) ∈ GG := tb_4 217 rfl rfl
theorem mw_4_214 : (Cond.methodLink "OvenHouseModel" (225 : Nat) ({ cls := "OvenHouseModel", name := "higher", desc := "(I)I" } : MethodName)) ∈ GG := tb_4 214 rfl rfl
theorem mw_4_216 : (Cond.instanceMethod ({ cls := "OvenHouseModel", name := "higher", desc := "(I)I" } : MethodName)) ∈ GG := tb_4 216 rfl rfl
theorem mw_0_34 : Cond.selects "OvenHouseModel" ⟨"OvenHouseModel", "higher", "(I)I"⟩ ⟨"OvenHouseModel", "higher", "(I)I"⟩ ∈ GG := tb_0 34 (by decide +kernel) rfl
theorem mw_4_221 : (Cond.code ({ cls := "OvenHouseModel", name := "lower", desc := "(I)I" } : MethodName) prog_11_method_52_code (2 : Nat) (Option.some FieldType.int)) ∈ GG := tb_4 221 rfl rfl
theorem mw_4_218 : (Cond.methodLink "OvenHouseModel" (228 : Nat) ({ cls := "OvenHouseModel", name := "lower", desc := "(I)I" } : MethodName)) ∈ GG := tb_4 218 rfl rfl
theorem mw_4_220 : (Cond.instanceMethod ({ cls := "OvenHouseModel", name := "lower", desc := "(I)I" } : MethodName)) ∈ GG := tb_4 220 rfl rfl
theorem mw_0_35 : Cond.selects "OvenHouseModel" ⟨"OvenHouseModel", "lower", "(I)I"⟩ ⟨"OvenHouseModel", "lower", "(I)I"⟩ ∈ GG := tb_0 35 (by decide +kernel) rfl
theorem mw_3_198 : (Cond.fieldLink "OvenHouseModel" (76 : Nat) "OvenHouseModel" "weight" "[I") ∈ GG := tb_3 198 rfl rfl
theorem mw_4_225 : (Cond.code ({ cls := "OvenHouseModel", name := "exchange", desc := "(I)V" } : MethodName) prog_11_method_53_code (3 : Nat) (Option.none : Option FieldType)) ∈ GG := tb_4 225 rfl rfl
theorem mw_4_222 : (Cond.methodLink "OvenHouseModel" (231 : Nat) ({ cls := "OvenHouseModel", name := "exchange", desc := "(I)V" } : MethodName)) ∈ GG := tb_4 222 rfl rfl
theorem mw_4_224 : (Cond.instanceMethod ({ cls := "OvenHouseModel", name := "exchange", desc := "(I)V" } : MethodName)) ∈ GG := tb_4 224 rfl rfl
theorem mw_0_36 : Cond.selects "OvenHouseModel" ⟨"OvenHouseModel", "exchange", "(I)V"⟩ ⟨"OvenHouseModel", "exchange", "(I)V"⟩ ∈ GG := tb_0 36 (by decide +kernel) rfl
theorem mw_4_233 : (Cond.code ({ cls := "OvenHouseModel", name := "finds", desc := "([I)V" } : MethodName) prog_11_method_41_code (3 : Nat) (Option.none : Option FieldType)) ∈ GG := tb_4 233 rfl rfl
theorem mw_4_230 : (Cond.methodLink "OvenHouseModel" (188 : Nat) ({ cls := "OvenHouseModel", name := "finds", desc := "([I)V" } : MethodName)) ∈ GG := tb_4 230 rfl rfl
theorem mw_4_232 : (Cond.instanceMethod ({ cls := "OvenHouseModel", name := "finds", desc := "([I)V" } : MethodName)) ∈ GG := tb_4 232 rfl rfl
theorem mw_0_38 : Cond.selects "OvenHouseModel" ⟨"OvenHouseModel", "finds", "([I)V"⟩ ⟨"OvenHouseModel", "finds", "([I)V"⟩ ∈ GG := tb_0 38 (by decide +kernel) rfl
theorem mw_4_197 : (Cond.code ({ cls := "OvenHouseModel", name := "joined", desc := "()I" } : MethodName) prog_11_method_54_code (6 : Nat) (Option.some FieldType.int)) ∈ GG := tb_4 197 rfl rfl
theorem mw_4_194 : (Cond.methodLink "OvenHouseModel" (235 : Nat) ({ cls := "OvenHouseModel", name := "joined", desc := "()I" } : MethodName)) ∈ GG := tb_4 194 rfl rfl
theorem mw_4_196 : (Cond.instanceMethod ({ cls := "OvenHouseModel", name := "joined", desc := "()I" } : MethodName)) ∈ GG := tb_4 196 rfl rfl
theorem mw_0_29 : Cond.selects "OvenHouseModel" ⟨"OvenHouseModel", "joined", "()I"⟩ ⟨"OvenHouseModel", "joined", "()I"⟩ ∈ GG := tb_0 29 (by decide +kernel) rfl
theorem mw_4_229 : (Cond.code ({ cls := "OvenHouseModel", name := "roundFrom", desc := "(I)V" } : MethodName) prog_11_method_55_code (4 : Nat) (Option.none : Option FieldType)) ∈ GG := tb_4 229 rfl rfl
theorem mw_4_226 : (Cond.methodLink "OvenHouseModel" (238 : Nat) ({ cls := "OvenHouseModel", name := "roundFrom", desc := "(I)V" } : MethodName)) ∈ GG := tb_4 226 rfl rfl
theorem mw_4_228 : (Cond.instanceMethod ({ cls := "OvenHouseModel", name := "roundFrom", desc := "(I)V" } : MethodName)) ∈ GG := tb_4 228 rfl rfl
theorem mw_0_37 : Cond.selects "OvenHouseModel" ⟨"OvenHouseModel", "roundFrom", "(I)V"⟩ ⟨"OvenHouseModel", "roundFrom", "(I)V"⟩ ∈ GG := tb_0 37 (by decide +kernel) rfl
theorem mw_4_237 : (Cond.code ({ cls := "OvenHouseModel", name := "firstRow", desc := "()V" } : MethodName) prog_11_method_39_code (2 : Nat) (Option.none : Option FieldType)) ∈ GG := tb_4 237 rfl rfl
theorem mw_4_234 : (Cond.methodLink "OvenHouseModel" (191 : Nat) ({ cls := "OvenHouseModel", name := "firstRow", desc := "()V" } : MethodName)) ∈ GG := tb_4 234 rfl rfl
theorem mw_4_236 : (Cond.instanceMethod ({ cls := "OvenHouseModel", name := "firstRow", desc := "()V" } : MethodName)) ∈ GG := tb_4 236 rfl rfl
theorem mw_0_39 : Cond.selects "OvenHouseModel" ⟨"OvenHouseModel", "firstRow", "()V"⟩ ⟨"OvenHouseModel", "firstRow", "()V"⟩ ∈ GG := tb_0 39 (by decide +kernel) rfl
theorem mw_4_193 : (Cond.code ({ cls := "OvenHouseModel", name := "atOnce", desc := "()I" } : MethodName) prog_11_method_56_code (3 : Nat) (Option.some FieldType.int)) ∈ GG := tb_4 193 rfl rfl
theorem mw_4_190 : (Cond.methodLink "OvenHouseModel" (185 : Nat) ({ cls := "OvenHouseModel", name := "atOnce", desc := "()I" } : MethodName)) ∈ GG := tb_4 190 rfl rfl
theorem mw_4_192 : (Cond.instanceMethod ({ cls := "OvenHouseModel", name := "atOnce", desc := "()I" } : MethodName)) ∈ GG := tb_4 192 rfl rfl
theorem mw_0_28 : Cond.selects "OvenHouseModel" ⟨"OvenHouseModel", "atOnce", "()I"⟩ ⟨"OvenHouseModel", "atOnce", "()I"⟩ ∈ GG := tb_0 28 (by decide +kernel) rfl
theorem mw_5_1 : (Cond.code ({ cls := "OvenHouseModel", name := "nextRow", desc := "()Z" } : MethodName) prog_11_method_40_code (7 : Nat) (Option.some FieldType.boolean)) ∈ GG := tb_5 1 rfl rfl
theorem mw_4_238 : (Cond.methodLink "OvenHouseModel" (194 : Nat) ({ cls := "OvenHouseModel", name := "nextRow", desc := "()Z" } : MethodName)) ∈ GG := tb_4 238 rfl rfl
theorem mw_5_0 : (Cond.instanceMethod ({ cls := "OvenHouseModel", name := "nextRow", desc := "()Z" } : MethodName)) ∈ GG := tb_5 0 rfl rfl
theorem mw_0_40 : Cond.selects "OvenHouseModel" ⟨"OvenHouseModel", "nextRow", "()Z"⟩ ⟨"OvenHouseModel", "nextRow", "()Z"⟩ ∈ GG := tb_0 40 (by decide +kernel) rfl
theorem mw_5_9 : (Cond.code ({ cls := "OvenHouseModel", name := "isOrder", desc := "()Z" } : MethodName) prog_11_method_43_code (3 : Nat) (Option.some FieldType.boolean)) ∈ GG := tb_5 9 rfl rfl
theorem mw_5_6 : (Cond.methodLink "OvenHouseModel" (198 : Nat) ({ cls := "OvenHouseModel", name := "isOrder", desc := "()Z" } : MethodName)) ∈ GG := tb_5 6 rfl rfl
theorem mw_5_8 : (Cond.instanceMethod ({ cls := "OvenHouseModel", name := "isOrder", desc := "()Z" } : MethodName)) ∈ GG := tb_5 8 rfl rfl
theorem mw_0_41 : Cond.selects "OvenHouseModel" ⟨"OvenHouseModel", "isOrder", "()Z"⟩ ⟨"OvenHouseModel", "isOrder", "()Z"⟩ ∈ GG := tb_0 41 (by decide +kernel) rfl
theorem mw_5_29 : (Cond.code ({ cls := "OvenHouseModel", name := "roundCost", desc := "([I)I" } : MethodName) prog_11_method_58_code (6 : Nat) (Option.some FieldType.int)) ∈ GG := tb_5 29 rfl rfl
theorem mw_5_26 : (Cond.methodLink "OvenHouseModel" (241 : Nat) ({ cls := "OvenHouseModel", name := "roundCost", desc := "([I)I" } : MethodName)) ∈ GG := tb_5 26 rfl rfl
theorem mw_5_28 : (Cond.instanceMethod ({ cls := "OvenHouseModel", name := "roundCost", desc := "([I)I" } : MethodName)) ∈ GG := tb_5 28 rfl rfl
theorem mw_0_42 : Cond.selects "OvenHouseModel" ⟨"OvenHouseModel", "roundCost", "([I)I"⟩ ⟨"OvenHouseModel", "roundCost", "([I)I"⟩ ∈ GG := tb_0 42 (by decide +kernel) rfl
theorem mw_3_203 : (Cond.fieldLink "OvenHouseModel" (89 : Nat) "OvenHouseModel" "sorted" "[I") ∈ GG := tb_3 203 rfl rfl
theorem mw_5_50 : (Cond.constantLong "OvenHouseModel" (245 : Nat) (17 : Int64)) ∈ GG := tb_5 50 rfl rfl
theorem mw_5_51 : (Cond.constantLong "OvenHouseModel" (247 : Nat) (31 : Int64)) ∈ GG := tb_5 51 rfl rfl
theorem mw_4_101 : (Cond.code ({ cls := "OvenHouseModel", name := "of", desc := "(II)I" } : MethodName) prog_11_method_21_code (3 : Nat) (Option.some FieldType.int)) ∈ GG := tb_4 101 rfl rfl
theorem mw_5_52 : (Cond.methodLink "OvenHouseModel" (249 : Nat) ({ cls := "OvenHouseModel", name := "of", desc := "(II)I" } : MethodName)) ∈ GG := tb_5 52 rfl rfl
theorem mw_4_99 : (Cond.instanceMethod ({ cls := "OvenHouseModel", name := "of", desc := "(II)I" } : MethodName)) ∈ GG := tb_4 99 rfl rfl
theorem mw_4_100 : (Cond.selects "OvenHouseModel" ({ cls := "OvenHouseModel", name := "of", desc := "(II)I" } : MethodName) ({ cls := "OvenHouseModel", name := "of", desc := "(II)I" } : MethodName)) ∈ GG := tb_4 100 rfl rfl
theorem mw_1_120 : (Cond.laysFinal "OvenHouse$Best" "OvenHouse$Best" "row" "[I") ∈ GG := tb_1 120 rfl rfl
theorem mw_1_122 : (Cond.lays "OvenHouse$Best" "OvenHouse$Best" "size" "I") ∈ GG := tb_1 122 rfl rfl
theorem mw_1_124 : (Cond.lays "OvenHouse$Best" "OvenHouse$Best" "fresh" "Z") ∈ GG := tb_1 124 rfl rfl
theorem mw_1_144 : (Cond.laysFinal "OvenHouse$Day" "OvenHouse$Day" "mixFrom" "[I") ∈ GG := tb_1 144 rfl rfl
theorem mw_1_146 : (Cond.laysFinal "OvenHouse$Day" "OvenHouse$Day" "mixTo" "[I") ∈ GG := tb_1 146 rfl rfl
theorem mw_1_148 : (Cond.laysFinal "OvenHouse$Day" "OvenHouse$Day" "bakeFrom" "[I") ∈ GG := tb_1 148 rfl rfl
theorem mw_1_150 : (Cond.laysFinal "OvenHouse$Day" "OvenHouse$Day" "bakeTo" "[I") ∈ GG := tb_1 150 rfl rfl
theorem mw_1_152 : (Cond.laysFinal "OvenHouse$Day" "OvenHouse$Day" "mixerFree" "[I") ∈ GG := tb_1 152 rfl rfl
theorem mw_1_154 : (Cond.lays "OvenHouse$Day" "OvenHouse$Day" "law" "I") ∈ GG := tb_1 154 rfl rfl
theorem mw_1_156 : (Cond.lays "OvenHouse$Day" "OvenHouse$Day" "k" "I") ∈ GG := tb_1 156 rfl rfl
theorem mw_1_101 : (Cond.laysFinal "OvenHouse$History" "OvenHouse$History" "slots" "[LOvenHouse$Loaves;") ∈ GG := tb_1 101 rfl rfl
theorem mw_1_103 : (Cond.lays "OvenHouse$History" "OvenHouse$History" "next" "I") ∈ GG := tb_1 103 rfl rfl
theorem mw_1_105 : (Cond.lays "OvenHouse$History" "OvenHouse$History" "held" "I") ∈ GG := tb_1 105 rfl rfl
theorem mw_1_73 : (Cond.laysFinal "OvenHouse$Loaves" "OvenHouse$Loaves" "mix" "[I") ∈ GG := tb_1 73 rfl rfl
theorem mw_1_75 : (Cond.laysFinal "OvenHouse$Loaves" "OvenHouse$Loaves" "bake" "[I") ∈ GG := tb_1 75 rfl rfl
theorem mw_1_77 : (Cond.laysFinal "OvenHouse$Loaves" "OvenHouse$Loaves" "from" "[I") ∈ GG := tb_1 77 rfl rfl
theorem mw_1_79 : (Cond.laysFinal "OvenHouse$Loaves" "OvenHouse$Loaves" "to" "[I") ∈ GG := tb_1 79 rfl rfl
theorem mw_1_81 : (Cond.laysFinal "OvenHouse$Loaves" "OvenHouse$Loaves" "order" "[I") ∈ GG := tb_1 81 rfl rfl
theorem mw_1_83 : (Cond.laysFinal "OvenHouse$Loaves" "OvenHouse$Loaves" "keys" "[I") ∈ GG := tb_1 83 rfl rfl
theorem mw_1_85 : (Cond.lays "OvenHouse$Loaves" "OvenHouse$Loaves" "size" "I") ∈ GG := tb_1 85 rfl rfl
theorem mw_2_6 : (Cond.laysFinal "OvenHouse$Prices" "OvenHouse$Prices" "up" "[I") ∈ GG := tb_2 6 rfl rfl
theorem mw_2_8 : (Cond.laysFinal "OvenHouse$Prices" "OvenHouse$Prices" "down" "[I") ∈ GG := tb_2 8 rfl rfl
theorem mw_1_189 : (Cond.laysFinal "OvenHouse$Rings" "OvenHouse$Rings" "q" "[I") ∈ GG := tb_1 189 rfl rfl
theorem mw_1_191 : (Cond.laysFinal "OvenHouse$Rings" "OvenHouse$Rings" "p" "[I") ∈ GG := tb_1 191 rfl rfl
theorem mw_1_193 : (Cond.laysFinal "OvenHouse$Rings" "OvenHouse$Rings" "u" "[I") ∈ GG := tb_1 193 rfl rfl
theorem mw_1_195 : (Cond.laysFinal "OvenHouse$Rings" "OvenHouse$Rings" "v" "[I") ∈ GG := tb_1 195 rfl rfl
theorem mw_1_197 : (Cond.laysFinal "OvenHouse$Rings" "OvenHouse$Rings" "behind" "[I") ∈ GG := tb_1 197 rfl rfl
theorem mw_1_199 : (Cond.laysFinal "OvenHouse$Rings" "OvenHouse$Rings" "ringOf" "[I") ∈ GG := tb_1 199 rfl rfl
theorem mw_1_201 : (Cond.laysFinal "OvenHouse$Rings" "OvenHouse$Rings" "weights" "[I") ∈ GG := tb_1 201 rfl rfl
theorem mw_1_203 : (Cond.laysFinal "OvenHouse$Rings" "OvenHouse$Rings" "byWeight" "[I") ∈ GG := tb_1 203 rfl rfl
theorem mw_1_205 : (Cond.laysFinal "OvenHouse$Rings" "OvenHouse$Rings" "taken" "[Z") ∈ GG := tb_1 205 rfl rfl
theorem mw_1_207 : (Cond.lays "OvenHouse$Rings" "OvenHouse$Rings" "points" "I") ∈ GG := tb_1 207 rfl rfl
theorem mw_1_209 : (Cond.lays "OvenHouse$Rings" "OvenHouse$Rings" "told" "Z") ∈ GG := tb_1 209 rfl rfl
theorem mw_1_211 : (Cond.lays "OvenHouse$Rings" "OvenHouse$Rings" "pairingRings" "I") ∈ GG := tb_1 211 rfl rfl
theorem mw_1_213 : (Cond.lays "OvenHouse$Rings" "OvenHouse$Rings" "pairingCost" "I") ∈ GG := tb_1 213 rfl rfl
theorem mw_1_215 : (Cond.lays "OvenHouse$Rings" "OvenHouse$Rings" "joinsTaken" "I") ∈ GG := tb_1 215 rfl rfl
theorem mw_1_217 : (Cond.lays "OvenHouse$Rings" "OvenHouse$Rings" "joinsWeight" "I") ∈ GG := tb_1 217 rfl rfl
theorem mw_1_230 : (Cond.laysFinal "OvenHouse$Rows" "OvenHouse$Rows" "row" "[I") ∈ GG := tb_1 230 rfl rfl
theorem mw_1_232 : (Cond.lays "OvenHouse$Rows" "OvenHouse$Rows" "n" "I") ∈ GG := tb_1 232 rfl rfl
theorem mw_1_41 : (Cond.laysFinal "OvenHouse$Sheets" "OvenHouse$Sheets" "forms" "[I") ∈ GG := tb_1 41 rfl rfl
theorem mw_1_43 : (Cond.laysFinal "OvenHouse$Sheets" "OvenHouse$Sheets" "sizes" "[I") ∈ GG := tb_1 43 rfl rfl
theorem mw_1_45 : (Cond.laysFinal "OvenHouse$Sheets" "OvenHouse$Sheets" "items" "[[I") ∈ GG := tb_1 45 rfl rfl
theorem mw_1_47 : (Cond.lays "OvenHouse$Sheets" "OvenHouse$Sheets" "latest" "I") ∈ GG := tb_1 47 rfl rfl
theorem mw_2_23 : (Cond.laysFinal "OvenHouse" "OvenHouse" "sheets" "LOvenHouse$Sheets;") ∈ GG := tb_2 23 rfl rfl
theorem mw_2_25 : (Cond.laysFinal "OvenHouse" "OvenHouse" "loaves" "LOvenHouse$Loaves;") ∈ GG := tb_2 25 rfl rfl
theorem mw_2_27 : (Cond.laysFinal "OvenHouse" "OvenHouse" "history" "LOvenHouse$History;") ∈ GG := tb_2 27 rfl rfl
theorem mw_2_29 : (Cond.laysFinal "OvenHouse" "OvenHouse" "found" "LOvenHouse$Best;") ∈ GG := tb_2 29 rfl rfl
theorem mw_2_31 : (Cond.laysFinal "OvenHouse" "OvenHouse" "schedule" "LOvenHouse$Day;") ∈ GG := tb_2 31 rfl rfl
theorem mw_2_33 : (Cond.laysFinal "OvenHouse" "OvenHouse" "circles" "LOvenHouse$Rings;") ∈ GG := tb_2 33 rfl rfl
theorem mw_2_35 : (Cond.laysFinal "OvenHouse" "OvenHouse" "rows" "LOvenHouse$Rows;") ∈ GG := tb_2 35 rfl rfl
theorem mw_2_37 : (Cond.laysFinal "OvenHouse" "OvenHouse" "heats" "LOvenHouse$Prices;") ∈ GG := tb_2 37 rfl rfl
theorem mw_2_39 : (Cond.laysFinal "OvenHouse" "OvenHouse" "waits" "LOvenHouse$Prices;") ∈ GG := tb_2 39 rfl rfl
theorem mw_2_41 : (Cond.laysFinal "OvenHouse" "OvenHouse" "scratch" "[I") ∈ GG := tb_2 41 rfl rfl
theorem mw_2_43 : (Cond.laysFinal "OvenHouse" "OvenHouse" "ways" "[[I") ∈ GG := tb_2 43 rfl rfl
theorem mw_3_204 : (Cond.lays "OvenHouseModel" "OvenHouseModel" "found" "I") ∈ GG := tb_3 204 rfl rfl
theorem mw_3_206 : (Cond.laysFinal "OvenHouseModel" "OvenHouseModel" "forms" "[I") ∈ GG := tb_3 206 rfl rfl
theorem mw_3_208 : (Cond.laysFinal "OvenHouseModel" "OvenHouseModel" "sizes" "[I") ∈ GG := tb_3 208 rfl rfl
theorem mw_3_210 : (Cond.laysFinal "OvenHouseModel" "OvenHouseModel" "items" "[I") ∈ GG := tb_3 210 rfl rfl
theorem mw_3_212 : (Cond.laysFinal "OvenHouseModel" "OvenHouseModel" "moved" "[I") ∈ GG := tb_3 212 rfl rfl
theorem mw_3_214 : (Cond.laysFinal "OvenHouseModel" "OvenHouseModel" "many" "[I") ∈ GG := tb_3 214 rfl rfl
theorem mw_3_216 : (Cond.laysFinal "OvenHouseModel" "OvenHouseModel" "mix" "[I") ∈ GG := tb_3 216 rfl rfl
theorem mw_3_218 : (Cond.laysFinal "OvenHouseModel" "OvenHouseModel" "bake" "[I") ∈ GG := tb_3 218 rfl rfl
theorem mw_3_220 : (Cond.laysFinal "OvenHouseModel" "OvenHouseModel" "from" "[I") ∈ GG := tb_3 220 rfl rfl
theorem mw_3_222 : (Cond.laysFinal "OvenHouseModel" "OvenHouseModel" "to" "[I") ∈ GG := tb_3 222 rfl rfl
theorem mw_3_224 : (Cond.laysFinal "OvenHouseModel" "OvenHouseModel" "order" "[I") ∈ GG := tb_3 224 rfl rfl
theorem mw_3_226 : (Cond.lays "OvenHouseModel" "OvenHouseModel" "kept" "I") ∈ GG := tb_3 226 rfl rfl
theorem mw_3_228 : (Cond.lays "OvenHouseModel" "OvenHouseModel" "bestMany" "I") ∈ GG := tb_3 228 rfl rfl
theorem mw_3_230 : (Cond.laysFinal "OvenHouseModel" "OvenHouseModel" "best" "[I") ∈ GG := tb_3 230 rfl rfl
theorem mw_3_232 : (Cond.lays "OvenHouseModel" "OvenHouseModel" "isFound" "Z") ∈ GG := tb_3 232 rfl rfl
theorem mw_3_234 : (Cond.lays "OvenHouseModel" "OvenHouseModel" "isFresh" "Z") ∈ GG := tb_3 234 rfl rfl
theorem mw_3_236 : (Cond.laysFinal "OvenHouseModel" "OvenHouseModel" "ups" "[I") ∈ GG := tb_3 236 rfl rfl
theorem mw_3_238 : (Cond.laysFinal "OvenHouseModel" "OvenHouseModel" "downs" "[I") ∈ GG := tb_3 238 rfl rfl
theorem mw_4_0 : (Cond.laysFinal "OvenHouseModel" "OvenHouseModel" "mixBegins" "[I") ∈ GG := tb_4 0 rfl rfl
theorem mw_4_2 : (Cond.laysFinal "OvenHouseModel" "OvenHouseModel" "bakeBegins" "[I") ∈ GG := tb_4 2 rfl rfl
theorem mw_4_4 : (Cond.laysFinal "OvenHouseModel" "OvenHouseModel" "row" "[I") ∈ GG := tb_4 4 rfl rfl
theorem mw_4_6 : (Cond.lays "OvenHouseModel" "OvenHouseModel" "points" "I") ∈ GG := tb_4 6 rfl rfl
theorem mw_4_8 : (Cond.lays "OvenHouseModel" "OvenHouseModel" "byHeat" "Z") ∈ GG := tb_4 8 rfl rfl
theorem mw_4_10 : (Cond.laysFinal "OvenHouseModel" "OvenHouseModel" "begins" "[I") ∈ GG := tb_4 10 rfl rfl
theorem mw_4_12 : (Cond.laysFinal "OvenHouseModel" "OvenHouseModel" "ends" "[I") ∈ GG := tb_4 12 rfl rfl
theorem mw_4_14 : (Cond.laysFinal "OvenHouseModel" "OvenHouseModel" "u" "[I") ∈ GG := tb_4 14 rfl rfl
theorem mw_4_16 : (Cond.laysFinal "OvenHouseModel" "OvenHouseModel" "v" "[I") ∈ GG := tb_4 16 rfl rfl
theorem mw_4_18 : (Cond.laysFinal "OvenHouseModel" "OvenHouseModel" "behind" "[I") ∈ GG := tb_4 18 rfl rfl
theorem mw_4_20 : (Cond.laysFinal "OvenHouseModel" "OvenHouseModel" "ring" "[I") ∈ GG := tb_4 20 rfl rfl
theorem mw_4_22 : (Cond.laysFinal "OvenHouseModel" "OvenHouseModel" "weight" "[I") ∈ GG := tb_4 22 rfl rfl
theorem mw_4_24 : (Cond.laysFinal "OvenHouseModel" "OvenHouseModel" "looked" "[Z") ∈ GG := tb_4 24 rfl rfl
theorem mw_4_26 : (Cond.laysFinal "OvenHouseModel" "OvenHouseModel" "taken" "[Z") ∈ GG := tb_4 26 rfl rfl
theorem mw_4_28 : (Cond.laysFinal "OvenHouseModel" "OvenHouseModel" "told" "[I") ∈ GG := tb_4 28 rfl rfl
theorem mw_4_30 : (Cond.lays "OvenHouseModel" "OvenHouseModel" "hasRings" "Z") ∈ GG := tb_4 30 rfl rfl
theorem mw_4_32 : (Cond.laysFinal "OvenHouseModel" "OvenHouseModel" "sorted" "[I") ∈ GG := tb_4 32 rfl rfl
theorem mw_2_49 : (Cond.code ({ cls := "OvenHouse", name := "sheet", desc := "(III)I" } : MethodName) prog_1_method_2_code (4 : Nat) (Option.some FieldType.int)) ∈ GG := tb_2 49 rfl rfl
theorem mw_2_46 : (Cond.methodLink "OvenHouseLaw" (13 : Nat) ({ cls := "OvenHouse", name := "sheet", desc := "(III)I" } : MethodName)) ∈ GG := tb_2 46 rfl rfl
theorem mw_2_47 : (Cond.instanceMethod ({ cls := "OvenHouse", name := "sheet", desc := "(III)I" } : MethodName)) ∈ GG := tb_2 47 rfl rfl
theorem mw_2_48 : (Cond.selects "OvenHouse" ({ cls := "OvenHouse", name := "sheet", desc := "(III)I" } : MethodName) ({ cls := "OvenHouse", name := "sheet", desc := "(III)I" } : MethodName)) ∈ GG := tb_2 48 rfl rfl
theorem mw_4_38 : (Cond.code ({ cls := "OvenHouseModel", name := "sheet", desc := "(III)I" } : MethodName) prog_11_method_6_code (5 : Nat) (Option.some FieldType.int)) ∈ GG := tb_4 38 rfl rfl
theorem mw_4_35 : (Cond.methodLink "OvenHouseLaw" (17 : Nat) ({ cls := "OvenHouseModel", name := "sheet", desc := "(III)I" } : MethodName)) ∈ GG := tb_4 35 rfl rfl
theorem mw_4_36 : (Cond.instanceMethod ({ cls := "OvenHouseModel", name := "sheet", desc := "(III)I" } : MethodName)) ∈ GG := tb_4 36 rfl rfl
theorem mw_4_37 : (Cond.selects "OvenHouseModel" ({ cls := "OvenHouseModel", name := "sheet", desc := "(III)I" } : MethodName) ({ cls := "OvenHouseModel", name := "sheet", desc := "(III)I" } : MethodName)) ∈ GG := tb_4 37 rfl rfl
theorem mw_2_67 : (Cond.code ({ cls := "OvenHouse", name := "lose", desc := "(I)I" } : MethodName) prog_1_method_3_code (2 : Nat) (Option.some FieldType.int)) ∈ GG := tb_2 67 rfl rfl
theorem mw_2_64 : (Cond.methodLink "OvenHouseLaw" (18 : Nat) ({ cls := "OvenHouse", name := "lose", desc := "(I)I" } : MethodName)) ∈ GG := tb_2 64 rfl rfl
theorem mw_2_65 : (Cond.instanceMethod ({ cls := "OvenHouse", name := "lose", desc := "(I)I" } : MethodName)) ∈ GG := tb_2 65 rfl rfl
theorem mw_2_66 : (Cond.selects "OvenHouse" ({ cls := "OvenHouse", name := "lose", desc := "(I)I" } : MethodName) ({ cls := "OvenHouse", name := "lose", desc := "(I)I" } : MethodName)) ∈ GG := tb_2 66 rfl rfl
theorem mw_4_54 : (Cond.code ({ cls := "OvenHouseModel", name := "lose", desc := "(I)I" } : MethodName) prog_11_method_7_code (2 : Nat) (Option.some FieldType.int)) ∈ GG := tb_4 54 rfl rfl
theorem mw_4_51 : (Cond.methodLink "OvenHouseLaw" (22 : Nat) ({ cls := "OvenHouseModel", name := "lose", desc := "(I)I" } : MethodName)) ∈ GG := tb_4 51 rfl rfl
theorem mw_4_52 : (Cond.instanceMethod ({ cls := "OvenHouseModel", name := "lose", desc := "(I)I" } : MethodName)) ∈ GG := tb_4 52 rfl rfl
theorem mw_4_53 : (Cond.selects "OvenHouseModel" ({ cls := "OvenHouseModel", name := "lose", desc := "(I)I" } : MethodName) ({ cls := "OvenHouseModel", name := "lose", desc := "(I)I" } : MethodName)) ∈ GG := tb_4 53 rfl rfl
theorem mw_2_75 : (Cond.code ({ cls := "OvenHouse", name := "put", desc := "(IIII)I" } : MethodName) prog_1_method_4_code (6 : Nat) (Option.some FieldType.int)) ∈ GG := tb_2 75 rfl rfl
theorem mw_2_72 : (Cond.methodLink "OvenHouseLaw" (23 : Nat) ({ cls := "OvenHouse", name := "put", desc := "(IIII)I" } : MethodName)) ∈ GG := tb_2 72 rfl rfl
theorem mw_2_73 : (Cond.instanceMethod ({ cls := "OvenHouse", name := "put", desc := "(IIII)I" } : MethodName)) ∈ GG := tb_2 73 rfl rfl
theorem mw_2_74 : (Cond.selects "OvenHouse" ({ cls := "OvenHouse", name := "put", desc := "(IIII)I" } : MethodName) ({ cls := "OvenHouse", name := "put", desc := "(IIII)I" } : MethodName)) ∈ GG := tb_2 74 rfl rfl
theorem mw_4_58 : (Cond.code ({ cls := "OvenHouseModel", name := "put", desc := "(IIII)I" } : MethodName) prog_11_method_9_code (6 : Nat) (Option.some FieldType.int)) ∈ GG := tb_4 58 rfl rfl
theorem mw_4_55 : (Cond.methodLink "OvenHouseLaw" (27 : Nat) ({ cls := "OvenHouseModel", name := "put", desc := "(IIII)I" } : MethodName)) ∈ GG := tb_4 55 rfl rfl
theorem mw_4_56 : (Cond.instanceMethod ({ cls := "OvenHouseModel", name := "put", desc := "(IIII)I" } : MethodName)) ∈ GG := tb_4 56 rfl rfl
theorem mw_4_57 : (Cond.selects "OvenHouseModel" ({ cls := "OvenHouseModel", name := "put", desc := "(IIII)I" } : MethodName) ({ cls := "OvenHouseModel", name := "put", desc := "(IIII)I" } : MethodName)) ∈ GG := tb_4 57 rfl rfl
theorem mw_2_91 : (Cond.code ({ cls := "OvenHouse", name := "get", desc := "(III)I" } : MethodName) prog_1_method_5_code (5 : Nat) (Option.some FieldType.int)) ∈ GG := tb_2 91 rfl rfl
theorem mw_2_88 : (Cond.methodLink "OvenHouseLaw" (28 : Nat) ({ cls := "OvenHouse", name := "get", desc := "(III)I" } : MethodName)) ∈ GG := tb_2 88 rfl rfl
theorem mw_2_89 : (Cond.instanceMethod ({ cls := "OvenHouse", name := "get", desc := "(III)I" } : MethodName)) ∈ GG := tb_2 89 rfl rfl
theorem mw_2_90 : (Cond.selects "OvenHouse" ({ cls := "OvenHouse", name := "get", desc := "(III)I" } : MethodName) ({ cls := "OvenHouse", name := "get", desc := "(III)I" } : MethodName)) ∈ GG := tb_2 90 rfl rfl
theorem mw_4_66 : (Cond.code ({ cls := "OvenHouseModel", name := "get", desc := "(III)I" } : MethodName) prog_11_method_10_code (4 : Nat) (Option.some FieldType.int)) ∈ GG := tb_4 66 rfl rfl
theorem mw_4_63 : (Cond.methodLink "OvenHouseLaw" (31 : Nat) ({ cls := "OvenHouseModel", name := "get", desc := "(III)I" } : MethodName)) ∈ GG := tb_4 63 rfl rfl
theorem mw_4_64 : (Cond.instanceMethod ({ cls := "OvenHouseModel", name := "get", desc := "(III)I" } : MethodName)) ∈ GG := tb_4 64 rfl rfl
theorem mw_4_65 : (Cond.selects "OvenHouseModel" ({ cls := "OvenHouseModel", name := "get", desc := "(III)I" } : MethodName) ({ cls := "OvenHouseModel", name := "get", desc := "(III)I" } : MethodName)) ∈ GG := tb_4 65 rfl rfl
theorem mw_2_96 : (Cond.code ({ cls := "OvenHouse", name := "copy", desc := "(IIIII)I" } : MethodName) prog_1_method_6_code (6 : Nat) (Option.some FieldType.int)) ∈ GG := tb_2 96 rfl rfl
theorem mw_2_93 : (Cond.methodLink "OvenHouseLaw" (32 : Nat) ({ cls := "OvenHouse", name := "copy", desc := "(IIIII)I" } : MethodName)) ∈ GG := tb_2 93 rfl rfl
theorem mw_2_94 : (Cond.instanceMethod ({ cls := "OvenHouse", name := "copy", desc := "(IIIII)I" } : MethodName)) ∈ GG := tb_2 94 rfl rfl
theorem mw_2_95 : (Cond.selects "OvenHouse" ({ cls := "OvenHouse", name := "copy", desc := "(IIIII)I" } : MethodName) ({ cls := "OvenHouse", name := "copy", desc := "(IIIII)I" } : MethodName)) ∈ GG := tb_2 95 rfl rfl
theorem mw_4_71 : (Cond.code ({ cls := "OvenHouseModel", name := "copy", desc := "(IIIII)I" } : MethodName) prog_11_method_11_code (7 : Nat) (Option.some FieldType.int)) ∈ GG := tb_4 71 rfl rfl
theorem mw_4_68 : (Cond.methodLink "OvenHouseLaw" (36 : Nat) ({ cls := "OvenHouseModel", name := "copy", desc := "(IIIII)I" } : MethodName)) ∈ GG := tb_4 68 rfl rfl
theorem mw_4_69 : (Cond.instanceMethod ({ cls := "OvenHouseModel", name := "copy", desc := "(IIIII)I" } : MethodName)) ∈ GG := tb_4 69 rfl rfl
theorem mw_4_70 : (Cond.selects "OvenHouseModel" ({ cls := "OvenHouseModel", name := "copy", desc := "(IIIII)I" } : MethodName) ({ cls := "OvenHouseModel", name := "copy", desc := "(IIIII)I" } : MethodName)) ∈ GG := tb_4 70 rfl rfl
theorem mw_2_104 : (Cond.code ({ cls := "OvenHouse", name := "take", desc := "(III)I" } : MethodName) prog_1_method_7_code (5 : Nat) (Option.some FieldType.int)) ∈ GG := tb_2 104 rfl rfl
theorem mw_2_101 : (Cond.methodLink "OvenHouseLaw" (37 : Nat) ({ cls := "OvenHouse", name := "take", desc := "(III)I" } : MethodName)) ∈ GG := tb_2 101 rfl rfl
theorem mw_2_102 : (Cond.instanceMethod ({ cls := "OvenHouse", name := "take", desc := "(III)I" } : MethodName)) ∈ GG := tb_2 102 rfl rfl
theorem mw_2_103 : (Cond.selects "OvenHouse" ({ cls := "OvenHouse", name := "take", desc := "(III)I" } : MethodName) ({ cls := "OvenHouse", name := "take", desc := "(III)I" } : MethodName)) ∈ GG := tb_2 103 rfl rfl
theorem mw_4_83 : (Cond.code ({ cls := "OvenHouseModel", name := "take", desc := "(III)I" } : MethodName) prog_11_method_16_code (5 : Nat) (Option.some FieldType.int)) ∈ GG := tb_4 83 rfl rfl
theorem mw_4_80 : (Cond.methodLink "OvenHouseLaw" (40 : Nat) ({ cls := "OvenHouseModel", name := "take", desc := "(III)I" } : MethodName)) ∈ GG := tb_4 80 rfl rfl
theorem mw_4_81 : (Cond.instanceMethod ({ cls := "OvenHouseModel", name := "take", desc := "(III)I" } : MethodName)) ∈ GG := tb_4 81 rfl rfl
theorem mw_4_82 : (Cond.selects "OvenHouseModel" ({ cls := "OvenHouseModel", name := "take", desc := "(III)I" } : MethodName) ({ cls := "OvenHouseModel", name := "take", desc := "(III)I" } : MethodName)) ∈ GG := tb_4 82 rfl rfl
theorem mw_2_131 : (Cond.code ({ cls := "OvenHouse", name := "loaf", desc := "(II)I" } : MethodName) prog_1_method_8_code (3 : Nat) (Option.some FieldType.int)) ∈ GG := tb_2 131 rfl rfl
theorem mw_2_128 : (Cond.methodLink "OvenHouseLaw" (41 : Nat) ({ cls := "OvenHouse", name := "loaf", desc := "(II)I" } : MethodName)) ∈ GG := tb_2 128 rfl rfl
theorem mw_2_129 : (Cond.instanceMethod ({ cls := "OvenHouse", name := "loaf", desc := "(II)I" } : MethodName)) ∈ GG := tb_2 129 rfl rfl
theorem mw_2_130 : (Cond.selects "OvenHouse" ({ cls := "OvenHouse", name := "loaf", desc := "(II)I" } : MethodName) ({ cls := "OvenHouse", name := "loaf", desc := "(II)I" } : MethodName)) ∈ GG := tb_2 130 rfl rfl
theorem mw_4_97 : (Cond.code ({ cls := "OvenHouseModel", name := "loaf", desc := "(II)I" } : MethodName) prog_11_method_17_code (3 : Nat) (Option.some FieldType.int)) ∈ GG := tb_4 97 rfl rfl
theorem mw_4_94 : (Cond.methodLink "OvenHouseLaw" (45 : Nat) ({ cls := "OvenHouseModel", name := "loaf", desc := "(II)I" } : MethodName)) ∈ GG := tb_4 94 rfl rfl
theorem mw_4_95 : (Cond.instanceMethod ({ cls := "OvenHouseModel", name := "loaf", desc := "(II)I" } : MethodName)) ∈ GG := tb_4 95 rfl rfl
theorem mw_4_96 : (Cond.selects "OvenHouseModel" ({ cls := "OvenHouseModel", name := "loaf", desc := "(II)I" } : MethodName) ({ cls := "OvenHouseModel", name := "loaf", desc := "(II)I" } : MethodName)) ∈ GG := tb_4 96 rfl rfl
theorem mw_2_132 : (Cond.methodLink "OvenHouseLaw" (46 : Nat) ({ cls := "OvenHouse", name := "of", desc := "(II)I" } : MethodName)) ∈ GG := tb_2 132 rfl rfl
theorem mw_4_98 : (Cond.methodLink "OvenHouseLaw" (49 : Nat) ({ cls := "OvenHouseModel", name := "of", desc := "(II)I" } : MethodName)) ∈ GG := tb_4 98 rfl rfl
theorem mw_2_151 : (Cond.code ({ cls := "OvenHouse", name := "heat", desc := "(III)I" } : MethodName) prog_1_method_10_code (4 : Nat) (Option.some FieldType.int)) ∈ GG := tb_2 151 rfl rfl
theorem mw_2_148 : (Cond.methodLink "OvenHouseLaw" (50 : Nat) ({ cls := "OvenHouse", name := "heat", desc := "(III)I" } : MethodName)) ∈ GG := tb_2 148 rfl rfl
theorem mw_2_149 : (Cond.instanceMethod ({ cls := "OvenHouse", name := "heat", desc := "(III)I" } : MethodName)) ∈ GG := tb_2 149 rfl rfl
theorem mw_2_150 : (Cond.selects "OvenHouse" ({ cls := "OvenHouse", name := "heat", desc := "(III)I" } : MethodName) ({ cls := "OvenHouse", name := "heat", desc := "(III)I" } : MethodName)) ∈ GG := tb_2 150 rfl rfl
theorem mw_4_117 : (Cond.code ({ cls := "OvenHouseModel", name := "heat", desc := "(III)I" } : MethodName) prog_11_method_22_code (4 : Nat) (Option.some FieldType.int)) ∈ GG := tb_4 117 rfl rfl
theorem mw_4_114 : (Cond.methodLink "OvenHouseLaw" (53 : Nat) ({ cls := "OvenHouseModel", name := "heat", desc := "(III)I" } : MethodName)) ∈ GG := tb_4 114 rfl rfl
theorem mw_4_115 : (Cond.instanceMethod ({ cls := "OvenHouseModel", name := "heat", desc := "(III)I" } : MethodName)) ∈ GG := tb_4 115 rfl rfl
theorem mw_4_116 : (Cond.selects "OvenHouseModel" ({ cls := "OvenHouseModel", name := "heat", desc := "(III)I" } : MethodName) ({ cls := "OvenHouseModel", name := "heat", desc := "(III)I" } : MethodName)) ∈ GG := tb_4 116 rfl rfl
theorem mw_2_158 : (Cond.code ({ cls := "OvenHouse", name := "price", desc := "(III)I" } : MethodName) prog_1_method_11_code (4 : Nat) (Option.some FieldType.int)) ∈ GG := tb_2 158 rfl rfl
theorem mw_2_155 : (Cond.methodLink "OvenHouseLaw" (54 : Nat) ({ cls := "OvenHouse", name := "price", desc := "(III)I" } : MethodName)) ∈ GG := tb_2 155 rfl rfl
theorem mw_2_156 : (Cond.instanceMethod ({ cls := "OvenHouse", name := "price", desc := "(III)I" } : MethodName)) ∈ GG := tb_2 156 rfl rfl
theorem mw_2_157 : (Cond.selects "OvenHouse" ({ cls := "OvenHouse", name := "price", desc := "(III)I" } : MethodName) ({ cls := "OvenHouse", name := "price", desc := "(III)I" } : MethodName)) ∈ GG := tb_2 157 rfl rfl
theorem mw_4_122 : (Cond.code ({ cls := "OvenHouseModel", name := "price", desc := "(III)I" } : MethodName) prog_11_method_23_code (4 : Nat) (Option.some FieldType.int)) ∈ GG := tb_4 122 rfl rfl
theorem mw_4_119 : (Cond.methodLink "OvenHouseLaw" (57 : Nat) ({ cls := "OvenHouseModel", name := "price", desc := "(III)I" } : MethodName)) ∈ GG := tb_4 119 rfl rfl
theorem mw_4_120 : (Cond.instanceMethod ({ cls := "OvenHouseModel", name := "price", desc := "(III)I" } : MethodName)) ∈ GG := tb_4 120 rfl rfl
theorem mw_4_121 : (Cond.selects "OvenHouseModel" ({ cls := "OvenHouseModel", name := "price", desc := "(III)I" } : MethodName) ({ cls := "OvenHouseModel", name := "price", desc := "(III)I" } : MethodName)) ∈ GG := tb_4 121 rfl rfl
theorem mw_2_165 : (Cond.code ({ cls := "OvenHouse", name := "at", desc := "(I)I" } : MethodName) prog_1_method_12_code (2 : Nat) (Option.some FieldType.int)) ∈ GG := tb_2 165 rfl rfl
theorem mw_2_162 : (Cond.methodLink "OvenHouseLaw" (58 : Nat) ({ cls := "OvenHouse", name := "at", desc := "(I)I" } : MethodName)) ∈ GG := tb_2 162 rfl rfl
theorem mw_2_163 : (Cond.instanceMethod ({ cls := "OvenHouse", name := "at", desc := "(I)I" } : MethodName)) ∈ GG := tb_2 163 rfl rfl
theorem mw_2_164 : (Cond.selects "OvenHouse" ({ cls := "OvenHouse", name := "at", desc := "(I)I" } : MethodName) ({ cls := "OvenHouse", name := "at", desc := "(I)I" } : MethodName)) ∈ GG := tb_2 164 rfl rfl
theorem mw_4_129 : (Cond.code ({ cls := "OvenHouseModel", name := "at", desc := "(I)I" } : MethodName) prog_11_method_24_code (2 : Nat) (Option.some FieldType.int)) ∈ GG := tb_4 129 rfl rfl
theorem mw_4_126 : (Cond.methodLink "OvenHouseLaw" (61 : Nat) ({ cls := "OvenHouseModel", name := "at", desc := "(I)I" } : MethodName)) ∈ GG := tb_4 126 rfl rfl
theorem mw_4_127 : (Cond.instanceMethod ({ cls := "OvenHouseModel", name := "at", desc := "(I)I" } : MethodName)) ∈ GG := tb_4 127 rfl rfl
theorem mw_4_128 : (Cond.selects "OvenHouseModel" ({ cls := "OvenHouseModel", name := "at", desc := "(I)I" } : MethodName) ({ cls := "OvenHouseModel", name := "at", desc := "(I)I" } : MethodName)) ∈ GG := tb_4 128 rfl rfl
theorem mw_2_169 : (Cond.code ({ cls := "OvenHouse", name := "swap", desc := "(II)I" } : MethodName) prog_1_method_13_code (3 : Nat) (Option.some FieldType.int)) ∈ GG := tb_2 169 rfl rfl
theorem mw_2_166 : (Cond.methodLink "OvenHouseLaw" (62 : Nat) ({ cls := "OvenHouse", name := "swap", desc := "(II)I" } : MethodName)) ∈ GG := tb_2 166 rfl rfl
theorem mw_2_167 : (Cond.instanceMethod ({ cls := "OvenHouse", name := "swap", desc := "(II)I" } : MethodName)) ∈ GG := tb_2 167 rfl rfl
theorem mw_2_168 : (Cond.selects "OvenHouse" ({ cls := "OvenHouse", name := "swap", desc := "(II)I" } : MethodName) ({ cls := "OvenHouse", name := "swap", desc := "(II)I" } : MethodName)) ∈ GG := tb_2 168 rfl rfl
theorem mw_4_133 : (Cond.code ({ cls := "OvenHouseModel", name := "swap", desc := "(II)I" } : MethodName) prog_11_method_25_code (4 : Nat) (Option.some FieldType.int)) ∈ GG := tb_4 133 rfl rfl
theorem mw_4_130 : (Cond.methodLink "OvenHouseLaw" (65 : Nat) ({ cls := "OvenHouseModel", name := "swap", desc := "(II)I" } : MethodName)) ∈ GG := tb_4 130 rfl rfl
theorem mw_4_131 : (Cond.instanceMethod ({ cls := "OvenHouseModel", name := "swap", desc := "(II)I" } : MethodName)) ∈ GG := tb_4 131 rfl rfl
theorem mw_4_132 : (Cond.selects "OvenHouseModel" ({ cls := "OvenHouseModel", name := "swap", desc := "(II)I" } : MethodName) ({ cls := "OvenHouseModel", name := "swap", desc := "(II)I" } : MethodName)) ∈ GG := tb_4 132 rfl rfl
theorem mw_2_176 : (Cond.code ({ cls := "OvenHouse", name := "rule", desc := "()I" } : MethodName) prog_1_method_14_code (1 : Nat) (Option.some FieldType.int)) ∈ GG := tb_2 176 rfl rfl
theorem mw_2_173 : (Cond.methodLink "OvenHouseLaw" (66 : Nat) ({ cls := "OvenHouse", name := "rule", desc := "()I" } : MethodName)) ∈ GG := tb_2 173 rfl rfl
theorem mw_2_174 : (Cond.instanceMethod ({ cls := "OvenHouse", name := "rule", desc := "()I" } : MethodName)) ∈ GG := tb_2 174 rfl rfl
theorem mw_2_175 : (Cond.selects "OvenHouse" ({ cls := "OvenHouse", name := "rule", desc := "()I" } : MethodName) ({ cls := "OvenHouse", name := "rule", desc := "()I" } : MethodName)) ∈ GG := tb_2 175 rfl rfl
theorem mw_4_137 : (Cond.code ({ cls := "OvenHouseModel", name := "rule", desc := "()I" } : MethodName) prog_11_method_28_code (1 : Nat) (Option.some FieldType.int)) ∈ GG := tb_4 137 rfl rfl
theorem mw_4_134 : (Cond.methodLink "OvenHouseLaw" (70 : Nat) ({ cls := "OvenHouseModel", name := "rule", desc := "()I" } : MethodName)) ∈ GG := tb_4 134 rfl rfl
theorem mw_4_135 : (Cond.instanceMethod ({ cls := "OvenHouseModel", name := "rule", desc := "()I" } : MethodName)) ∈ GG := tb_4 135 rfl rfl
theorem mw_4_136 : (Cond.selects "OvenHouseModel" ({ cls := "OvenHouseModel", name := "rule", desc := "()I" } : MethodName) ({ cls := "OvenHouseModel", name := "rule", desc := "()I" } : MethodName)) ∈ GG := tb_4 136 rfl rfl
theorem mw_2_203 : (Cond.code ({ cls := "OvenHouse", name := "use", desc := "()I" } : MethodName) prog_1_method_15_code (1 : Nat) (Option.some FieldType.int)) ∈ GG := tb_2 203 rfl rfl
theorem mw_2_200 : (Cond.methodLink "OvenHouseLaw" (71 : Nat) ({ cls := "OvenHouse", name := "use", desc := "()I" } : MethodName)) ∈ GG := tb_2 200 rfl rfl
theorem mw_2_201 : (Cond.instanceMethod ({ cls := "OvenHouse", name := "use", desc := "()I" } : MethodName)) ∈ GG := tb_2 201 rfl rfl
theorem mw_2_202 : (Cond.selects "OvenHouse" ({ cls := "OvenHouse", name := "use", desc := "()I" } : MethodName) ({ cls := "OvenHouse", name := "use", desc := "()I" } : MethodName)) ∈ GG := tb_2 202 rfl rfl
theorem mw_4_153 : (Cond.code ({ cls := "OvenHouseModel", name := "use", desc := "()I" } : MethodName) prog_11_method_29_code (2 : Nat) (Option.some FieldType.int)) ∈ GG := tb_4 153 rfl rfl
theorem mw_4_150 : (Cond.methodLink "OvenHouseLaw" (74 : Nat) ({ cls := "OvenHouseModel", name := "use", desc := "()I" } : MethodName)) ∈ GG := tb_4 150 rfl rfl
theorem mw_4_151 : (Cond.instanceMethod ({ cls := "OvenHouseModel", name := "use", desc := "()I" } : MethodName)) ∈ GG := tb_4 151 rfl rfl
theorem mw_4_152 : (Cond.selects "OvenHouseModel" ({ cls := "OvenHouseModel", name := "use", desc := "()I" } : MethodName) ({ cls := "OvenHouseModel", name := "use", desc := "()I" } : MethodName)) ∈ GG := tb_4 152 rfl rfl
theorem mw_2_207 : (Cond.code ({ cls := "OvenHouse", name := "turn", desc := "()I" } : MethodName) prog_1_method_16_code (1 : Nat) (Option.some FieldType.int)) ∈ GG := tb_2 207 rfl rfl
theorem mw_2_204 : (Cond.methodLink "OvenHouseLaw" (75 : Nat) ({ cls := "OvenHouse", name := "turn", desc := "()I" } : MethodName)) ∈ GG := tb_2 204 rfl rfl
theorem mw_2_205 : (Cond.instanceMethod ({ cls := "OvenHouse", name := "turn", desc := "()I" } : MethodName)) ∈ GG := tb_2 205 rfl rfl
theorem mw_2_206 : (Cond.selects "OvenHouse" ({ cls := "OvenHouse", name := "turn", desc := "()I" } : MethodName) ({ cls := "OvenHouse", name := "turn", desc := "()I" } : MethodName)) ∈ GG := tb_2 206 rfl rfl
theorem mw_4_157 : (Cond.code ({ cls := "OvenHouseModel", name := "turn", desc := "()I" } : MethodName) prog_11_method_30_code (5 : Nat) (Option.some FieldType.int)) ∈ GG := tb_4 157 rfl rfl
theorem mw_4_154 : (Cond.methodLink "OvenHouseLaw" (78 : Nat) ({ cls := "OvenHouseModel", name := "turn", desc := "()I" } : MethodName)) ∈ GG := tb_4 154 rfl rfl
theorem mw_4_155 : (Cond.instanceMethod ({ cls := "OvenHouseModel", name := "turn", desc := "()I" } : MethodName)) ∈ GG := tb_4 155 rfl rfl
theorem mw_4_156 : (Cond.selects "OvenHouseModel" ({ cls := "OvenHouseModel", name := "turn", desc := "()I" } : MethodName) ({ cls := "OvenHouseModel", name := "turn", desc := "()I" } : MethodName)) ∈ GG := tb_4 156 rfl rfl
theorem mw_2_216 : (Cond.code ({ cls := "OvenHouse", name := "undo", desc := "()I" } : MethodName) prog_1_method_17_code (1 : Nat) (Option.some FieldType.int)) ∈ GG := tb_2 216 rfl rfl
theorem mw_2_213 : (Cond.methodLink "OvenHouseLaw" (79 : Nat) ({ cls := "OvenHouse", name := "undo", desc := "()I" } : MethodName)) ∈ GG := tb_2 213 rfl rfl
theorem mw_2_214 : (Cond.instanceMethod ({ cls := "OvenHouse", name := "undo", desc := "()I" } : MethodName)) ∈ GG := tb_2 214 rfl rfl
theorem mw_2_215 : (Cond.selects "OvenHouse" ({ cls := "OvenHouse", name := "undo", desc := "()I" } : MethodName) ({ cls := "OvenHouse", name := "undo", desc := "()I" } : MethodName)) ∈ GG := tb_2 215 rfl rfl
theorem mw_4_75 : (Cond.code ({ cls := "OvenHouseModel", name := "undo", desc := "()I" } : MethodName) prog_11_method_14_code (1 : Nat) (Option.some FieldType.int)) ∈ GG := tb_4 75 rfl rfl
theorem mw_4_72 : (Cond.methodLink "OvenHouseLaw" (82 : Nat) ({ cls := "OvenHouseModel", name := "undo", desc := "()I" } : MethodName)) ∈ GG := tb_4 72 rfl rfl
theorem mw_4_73 : (Cond.instanceMethod ({ cls := "OvenHouseModel", name := "undo", desc := "()I" } : MethodName)) ∈ GG := tb_4 73 rfl rfl
theorem mw_4_74 : (Cond.selects "OvenHouseModel" ({ cls := "OvenHouseModel", name := "undo", desc := "()I" } : MethodName) ({ cls := "OvenHouseModel", name := "undo", desc := "()I" } : MethodName)) ∈ GG := tb_4 74 rfl rfl
theorem mw_2_224 : (Cond.code ({ cls := "OvenHouse", name := "day", desc := "(II)I" } : MethodName) prog_1_method_18_code (3 : Nat) (Option.some FieldType.int)) ∈ GG := tb_2 224 rfl rfl
theorem mw_2_221 : (Cond.methodLink "OvenHouseLaw" (83 : Nat) ({ cls := "OvenHouse", name := "day", desc := "(II)I" } : MethodName)) ∈ GG := tb_2 221 rfl rfl
theorem mw_2_222 : (Cond.instanceMethod ({ cls := "OvenHouse", name := "day", desc := "(II)I" } : MethodName)) ∈ GG := tb_2 222 rfl rfl
theorem mw_2_223 : (Cond.selects "OvenHouse" ({ cls := "OvenHouse", name := "day", desc := "(II)I" } : MethodName) ({ cls := "OvenHouse", name := "day", desc := "(II)I" } : MethodName)) ∈ GG := tb_2 223 rfl rfl
theorem mw_4_161 : (Cond.code ({ cls := "OvenHouseModel", name := "day", desc := "(II)I" } : MethodName) prog_11_method_33_code (3 : Nat) (Option.some FieldType.int)) ∈ GG := tb_4 161 rfl rfl
theorem mw_4_158 : (Cond.methodLink "OvenHouseLaw" (86 : Nat) ({ cls := "OvenHouseModel", name := "day", desc := "(II)I" } : MethodName)) ∈ GG := tb_4 158 rfl rfl
theorem mw_4_159 : (Cond.instanceMethod ({ cls := "OvenHouseModel", name := "day", desc := "(II)I" } : MethodName)) ∈ GG := tb_4 159 rfl rfl
theorem mw_4_160 : (Cond.selects "OvenHouseModel" ({ cls := "OvenHouseModel", name := "day", desc := "(II)I" } : MethodName) ({ cls := "OvenHouseModel", name := "day", desc := "(II)I" } : MethodName)) ∈ GG := tb_4 160 rfl rfl
theorem mw_2_231 : (Cond.code ({ cls := "OvenHouse", name := "moment", desc := "(IIII)I" } : MethodName) prog_1_method_19_code (5 : Nat) (Option.some FieldType.int)) ∈ GG := tb_2 231 rfl rfl
theorem mw_2_228 : (Cond.methodLink "OvenHouseLaw" (87 : Nat) ({ cls := "OvenHouse", name := "moment", desc := "(IIII)I" } : MethodName)) ∈ GG := tb_2 228 rfl rfl
theorem mw_2_229 : (Cond.instanceMethod ({ cls := "OvenHouse", name := "moment", desc := "(IIII)I" } : MethodName)) ∈ GG := tb_2 229 rfl rfl
theorem mw_2_230 : (Cond.selects "OvenHouse" ({ cls := "OvenHouse", name := "moment", desc := "(IIII)I" } : MethodName) ({ cls := "OvenHouse", name := "moment", desc := "(IIII)I" } : MethodName)) ∈ GG := tb_2 230 rfl rfl
theorem mw_4_169 : (Cond.code ({ cls := "OvenHouseModel", name := "moment", desc := "(IIII)I" } : MethodName) prog_11_method_34_code (7 : Nat) (Option.some FieldType.int)) ∈ GG := tb_4 169 rfl rfl
theorem mw_4_166 : (Cond.methodLink "OvenHouseLaw" (90 : Nat) ({ cls := "OvenHouseModel", name := "moment", desc := "(IIII)I" } : MethodName)) ∈ GG := tb_4 166 rfl rfl
theorem mw_4_167 : (Cond.instanceMethod ({ cls := "OvenHouseModel", name := "moment", desc := "(IIII)I" } : MethodName)) ∈ GG := tb_4 167 rfl rfl
theorem mw_4_168 : (Cond.selects "OvenHouseModel" ({ cls := "OvenHouseModel", name := "moment", desc := "(IIII)I" } : MethodName) ({ cls := "OvenHouseModel", name := "moment", desc := "(IIII)I" } : MethodName)) ∈ GG := tb_4 168 rfl rfl
theorem mw_2_235 : (Cond.code ({ cls := "OvenHouse", name := "idle", desc := "(II)I" } : MethodName) prog_1_method_20_code (3 : Nat) (Option.some FieldType.int)) ∈ GG := tb_2 235 rfl rfl
theorem mw_2_232 : (Cond.methodLink "OvenHouseLaw" (91 : Nat) ({ cls := "OvenHouse", name := "idle", desc := "(II)I" } : MethodName)) ∈ GG := tb_2 232 rfl rfl
theorem mw_2_233 : (Cond.instanceMethod ({ cls := "OvenHouse", name := "idle", desc := "(II)I" } : MethodName)) ∈ GG := tb_2 233 rfl rfl
theorem mw_2_234 : (Cond.selects "OvenHouse" ({ cls := "OvenHouse", name := "idle", desc := "(II)I" } : MethodName) ({ cls := "OvenHouse", name := "idle", desc := "(II)I" } : MethodName)) ∈ GG := tb_2 234 rfl rfl
theorem mw_4_173 : (Cond.code ({ cls := "OvenHouseModel", name := "idle", desc := "(II)I" } : MethodName) prog_11_method_37_code (3 : Nat) (Option.some FieldType.int)) ∈ GG := tb_4 173 rfl rfl
theorem mw_4_170 : (Cond.methodLink "OvenHouseLaw" (94 : Nat) ({ cls := "OvenHouseModel", name := "idle", desc := "(II)I" } : MethodName)) ∈ GG := tb_4 170 rfl rfl
theorem mw_4_171 : (Cond.instanceMethod ({ cls := "OvenHouseModel", name := "idle", desc := "(II)I" } : MethodName)) ∈ GG := tb_4 171 rfl rfl
theorem mw_4_172 : (Cond.selects "OvenHouseModel" ({ cls := "OvenHouseModel", name := "idle", desc := "(II)I" } : MethodName) ({ cls := "OvenHouseModel", name := "idle", desc := "(II)I" } : MethodName)) ∈ GG := tb_4 172 rfl rfl
theorem mw_3_3 : (Cond.code ({ cls := "OvenHouse", name := "bound", desc := "()I" } : MethodName) prog_1_method_21_code (1 : Nat) (Option.some FieldType.int)) ∈ GG := tb_3 3 rfl rfl
theorem mw_3_0 : (Cond.methodLink "OvenHouseLaw" (95 : Nat) ({ cls := "OvenHouse", name := "bound", desc := "()I" } : MethodName)) ∈ GG := tb_3 0 rfl rfl
theorem mw_3_1 : (Cond.instanceMethod ({ cls := "OvenHouse", name := "bound", desc := "()I" } : MethodName)) ∈ GG := tb_3 1 rfl rfl
theorem mw_3_2 : (Cond.selects "OvenHouse" ({ cls := "OvenHouse", name := "bound", desc := "()I" } : MethodName) ({ cls := "OvenHouse", name := "bound", desc := "()I" } : MethodName)) ∈ GG := tb_3 2 rfl rfl
theorem mw_4_181 : (Cond.code ({ cls := "OvenHouseModel", name := "bound", desc := "()I" } : MethodName) prog_11_method_38_code (5 : Nat) (Option.some FieldType.int)) ∈ GG := tb_4 181 rfl rfl
theorem mw_4_178 : (Cond.methodLink "OvenHouseLaw" (98 : Nat) ({ cls := "OvenHouseModel", name := "bound", desc := "()I" } : MethodName)) ∈ GG := tb_4 178 rfl rfl
theorem mw_4_179 : (Cond.instanceMethod ({ cls := "OvenHouseModel", name := "bound", desc := "()I" } : MethodName)) ∈ GG := tb_4 179 rfl rfl
theorem mw_4_180 : (Cond.selects "OvenHouseModel" ({ cls := "OvenHouseModel", name := "bound", desc := "()I" } : MethodName) ({ cls := "OvenHouseModel", name := "bound", desc := "()I" } : MethodName)) ∈ GG := tb_4 180 rfl rfl
theorem mw_3_14 : (Cond.code ({ cls := "OvenHouse", name := "least", desc := "(II)I" } : MethodName) prog_1_method_22_code (4 : Nat) (Option.some FieldType.int)) ∈ GG := tb_3 14 rfl rfl
theorem mw_3_11 : (Cond.methodLink "OvenHouseLaw" (99 : Nat) ({ cls := "OvenHouse", name := "least", desc := "(II)I" } : MethodName)) ∈ GG := tb_3 11 rfl rfl
theorem mw_3_12 : (Cond.instanceMethod ({ cls := "OvenHouse", name := "least", desc := "(II)I" } : MethodName)) ∈ GG := tb_3 12 rfl rfl
theorem mw_3_13 : (Cond.selects "OvenHouse" ({ cls := "OvenHouse", name := "least", desc := "(II)I" } : MethodName) ({ cls := "OvenHouse", name := "least", desc := "(II)I" } : MethodName)) ∈ GG := tb_3 13 rfl rfl
theorem mw_4_189 : (Cond.code ({ cls := "OvenHouseModel", name := "least", desc := "(II)I" } : MethodName) prog_11_method_42_code (5 : Nat) (Option.some FieldType.int)) ∈ GG := tb_4 189 rfl rfl
theorem mw_4_186 : (Cond.methodLink "OvenHouseLaw" (102 : Nat) ({ cls := "OvenHouseModel", name := "least", desc := "(II)I" } : MethodName)) ∈ GG := tb_4 186 rfl rfl
theorem mw_4_187 : (Cond.instanceMethod ({ cls := "OvenHouseModel", name := "least", desc := "(II)I" } : MethodName)) ∈ GG := tb_4 187 rfl rfl
theorem mw_4_188 : (Cond.selects "OvenHouseModel" ({ cls := "OvenHouseModel", name := "least", desc := "(II)I" } : MethodName) ({ cls := "OvenHouseModel", name := "least", desc := "(II)I" } : MethodName)) ∈ GG := tb_4 188 rfl rfl
theorem mw_3_99 : (Cond.code ({ cls := "OvenHouse", name := "second", desc := "(II)I" } : MethodName) prog_1_method_23_code (3 : Nat) (Option.some FieldType.int)) ∈ GG := tb_3 99 rfl rfl
theorem mw_3_96 : (Cond.methodLink "OvenHouseLaw" (103 : Nat) ({ cls := "OvenHouse", name := "second", desc := "(II)I" } : MethodName)) ∈ GG := tb_3 96 rfl rfl
theorem mw_3_97 : (Cond.instanceMethod ({ cls := "OvenHouse", name := "second", desc := "(II)I" } : MethodName)) ∈ GG := tb_3 97 rfl rfl
theorem mw_3_98 : (Cond.selects "OvenHouse" ({ cls := "OvenHouse", name := "second", desc := "(II)I" } : MethodName) ({ cls := "OvenHouse", name := "second", desc := "(II)I" } : MethodName)) ∈ GG := tb_3 98 rfl rfl
theorem mw_5_5 : (Cond.code ({ cls := "OvenHouseModel", name := "second", desc := "(II)I" } : MethodName) prog_11_method_44_code (6 : Nat) (Option.some FieldType.int)) ∈ GG := tb_5 5 rfl rfl
theorem mw_5_2 : (Cond.methodLink "OvenHouseLaw" (106 : Nat) ({ cls := "OvenHouseModel", name := "second", desc := "(II)I" } : MethodName)) ∈ GG := tb_5 2 rfl rfl
theorem mw_5_3 : (Cond.instanceMethod ({ cls := "OvenHouseModel", name := "second", desc := "(II)I" } : MethodName)) ∈ GG := tb_5 3 rfl rfl
theorem mw_5_4 : (Cond.selects "OvenHouseModel" ({ cls := "OvenHouseModel", name := "second", desc := "(II)I" } : MethodName) ({ cls := "OvenHouseModel", name := "second", desc := "(II)I" } : MethodName)) ∈ GG := tb_5 4 rfl rfl
theorem mw_3_103 : (Cond.code ({ cls := "OvenHouse", name := "better", desc := "(II)I" } : MethodName) prog_1_method_24_code (6 : Nat) (Option.some FieldType.int)) ∈ GG := tb_3 103 rfl rfl
theorem mw_3_100 : (Cond.methodLink "OvenHouseLaw" (107 : Nat) ({ cls := "OvenHouse", name := "better", desc := "(II)I" } : MethodName)) ∈ GG := tb_3 100 rfl rfl
theorem mw_3_101 : (Cond.instanceMethod ({ cls := "OvenHouse", name := "better", desc := "(II)I" } : MethodName)) ∈ GG := tb_3 101 rfl rfl
theorem mw_3_102 : (Cond.selects "OvenHouse" ({ cls := "OvenHouse", name := "better", desc := "(II)I" } : MethodName) ({ cls := "OvenHouse", name := "better", desc := "(II)I" } : MethodName)) ∈ GG := tb_3 102 rfl rfl
theorem mw_5_13 : (Cond.code ({ cls := "OvenHouseModel", name := "better", desc := "(II)I" } : MethodName) prog_11_method_45_code (9 : Nat) (Option.some FieldType.int)) ∈ GG := tb_5 13 rfl rfl
theorem mw_5_10 : (Cond.methodLink "OvenHouseLaw" (110 : Nat) ({ cls := "OvenHouseModel", name := "better", desc := "(II)I" } : MethodName)) ∈ GG := tb_5 10 rfl rfl
theorem mw_5_11 : (Cond.instanceMethod ({ cls := "OvenHouseModel", name := "better", desc := "(II)I" } : MethodName)) ∈ GG := tb_5 11 rfl rfl
theorem mw_5_12 : (Cond.selects "OvenHouseModel" ({ cls := "OvenHouseModel", name := "better", desc := "(II)I" } : MethodName) ({ cls := "OvenHouseModel", name := "better", desc := "(II)I" } : MethodName)) ∈ GG := tb_5 12 rfl rfl
theorem mw_3_112 : (Cond.code ({ cls := "OvenHouse", name := "best", desc := "(I)I" } : MethodName) prog_1_method_25_code (2 : Nat) (Option.some FieldType.int)) ∈ GG := tb_3 112 rfl rfl
theorem mw_3_109 : (Cond.methodLink "OvenHouseLaw" (111 : Nat) ({ cls := "OvenHouse", name := "best", desc := "(I)I" } : MethodName)) ∈ GG := tb_3 109 rfl rfl
theorem mw_3_110 : (Cond.instanceMethod ({ cls := "OvenHouse", name := "best", desc := "(I)I" } : MethodName)) ∈ GG := tb_3 110 rfl rfl
theorem mw_3_111 : (Cond.selects "OvenHouse" ({ cls := "OvenHouse", name := "best", desc := "(I)I" } : MethodName) ({ cls := "OvenHouse", name := "best", desc := "(I)I" } : MethodName)) ∈ GG := tb_3 111 rfl rfl
theorem mw_5_17 : (Cond.code ({ cls := "OvenHouseModel", name := "best", desc := "(I)I" } : MethodName) prog_11_method_46_code (2 : Nat) (Option.some FieldType.int)) ∈ GG := tb_5 17 rfl rfl
theorem mw_5_14 : (Cond.methodLink "OvenHouseLaw" (114 : Nat) ({ cls := "OvenHouseModel", name := "best", desc := "(I)I" } : MethodName)) ∈ GG := tb_5 14 rfl rfl
theorem mw_5_15 : (Cond.instanceMethod ({ cls := "OvenHouseModel", name := "best", desc := "(I)I" } : MethodName)) ∈ GG := tb_5 15 rfl rfl
theorem mw_5_16 : (Cond.selects "OvenHouseModel" ({ cls := "OvenHouseModel", name := "best", desc := "(I)I" } : MethodName) ({ cls := "OvenHouseModel", name := "best", desc := "(I)I" } : MethodName)) ∈ GG := tb_5 16 rfl rfl
theorem mw_3_116 : (Cond.code ({ cls := "OvenHouse", name := "rings", desc := "(I)I" } : MethodName) prog_1_method_26_code (2 : Nat) (Option.some FieldType.int)) ∈ GG := tb_3 116 rfl rfl
theorem mw_3_113 : (Cond.methodLink "OvenHouseLaw" (115 : Nat) ({ cls := "OvenHouse", name := "rings", desc := "(I)I" } : MethodName)) ∈ GG := tb_3 113 rfl rfl
theorem mw_3_114 : (Cond.instanceMethod ({ cls := "OvenHouse", name := "rings", desc := "(I)I" } : MethodName)) ∈ GG := tb_3 114 rfl rfl
theorem mw_3_115 : (Cond.selects "OvenHouse" ({ cls := "OvenHouse", name := "rings", desc := "(I)I" } : MethodName) ({ cls := "OvenHouse", name := "rings", desc := "(I)I" } : MethodName)) ∈ GG := tb_3 115 rfl rfl
theorem mw_5_21 : (Cond.code ({ cls := "OvenHouseModel", name := "rings", desc := "(I)I" } : MethodName) prog_11_method_57_code (2 : Nat) (Option.some FieldType.int)) ∈ GG := tb_5 21 rfl rfl
theorem mw_5_18 : (Cond.methodLink "OvenHouseLaw" (118 : Nat) ({ cls := "OvenHouseModel", name := "rings", desc := "(I)I" } : MethodName)) ∈ GG := tb_5 18 rfl rfl
theorem mw_5_19 : (Cond.instanceMethod ({ cls := "OvenHouseModel", name := "rings", desc := "(I)I" } : MethodName)) ∈ GG := tb_5 19 rfl rfl
theorem mw_5_20 : (Cond.selects "OvenHouseModel" ({ cls := "OvenHouseModel", name := "rings", desc := "(I)I" } : MethodName) ({ cls := "OvenHouseModel", name := "rings", desc := "(I)I" } : MethodName)) ∈ GG := tb_5 20 rfl rfl
theorem mw_3_120 : (Cond.code ({ cls := "OvenHouse", name := "cost", desc := "()I" } : MethodName) prog_1_method_27_code (4 : Nat) (Option.some FieldType.int)) ∈ GG := tb_3 120 rfl rfl
theorem mw_3_117 : (Cond.methodLink "OvenHouseLaw" (119 : Nat) ({ cls := "OvenHouse", name := "cost", desc := "()I" } : MethodName)) ∈ GG := tb_3 117 rfl rfl
theorem mw_3_118 : (Cond.instanceMethod ({ cls := "OvenHouse", name := "cost", desc := "()I" } : MethodName)) ∈ GG := tb_3 118 rfl rfl
theorem mw_3_119 : (Cond.selects "OvenHouse" ({ cls := "OvenHouse", name := "cost", desc := "()I" } : MethodName) ({ cls := "OvenHouse", name := "cost", desc := "()I" } : MethodName)) ∈ GG := tb_3 119 rfl rfl
theorem mw_5_25 : (Cond.code ({ cls := "OvenHouseModel", name := "cost", desc := "()I" } : MethodName) prog_11_method_59_code (1 : Nat) (Option.some FieldType.int)) ∈ GG := tb_5 25 rfl rfl
theorem mw_5_22 : (Cond.methodLink "OvenHouseLaw" (122 : Nat) ({ cls := "OvenHouseModel", name := "cost", desc := "()I" } : MethodName)) ∈ GG := tb_5 22 rfl rfl
theorem mw_5_23 : (Cond.instanceMethod ({ cls := "OvenHouseModel", name := "cost", desc := "()I" } : MethodName)) ∈ GG := tb_5 23 rfl rfl
theorem mw_5_24 : (Cond.selects "OvenHouseModel" ({ cls := "OvenHouseModel", name := "cost", desc := "()I" } : MethodName) ({ cls := "OvenHouseModel", name := "cost", desc := "()I" } : MethodName)) ∈ GG := tb_5 24 rfl rfl
theorem mw_3_129 : (Cond.code ({ cls := "OvenHouse", name := "round", desc := "()I" } : MethodName) prog_1_method_28_code (2 : Nat) (Option.some FieldType.int)) ∈ GG := tb_3 129 rfl rfl
theorem mw_3_126 : (Cond.methodLink "OvenHouseLaw" (123 : Nat) ({ cls := "OvenHouse", name := "round", desc := "()I" } : MethodName)) ∈ GG := tb_3 126 rfl rfl
theorem mw_3_127 : (Cond.instanceMethod ({ cls := "OvenHouse", name := "round", desc := "()I" } : MethodName)) ∈ GG := tb_3 127 rfl rfl
theorem mw_3_128 : (Cond.selects "OvenHouse" ({ cls := "OvenHouse", name := "round", desc := "()I" } : MethodName) ({ cls := "OvenHouse", name := "round", desc := "()I" } : MethodName)) ∈ GG := tb_3 128 rfl rfl
theorem mw_5_33 : (Cond.code ({ cls := "OvenHouseModel", name := "round", desc := "()I" } : MethodName) prog_11_method_60_code (4 : Nat) (Option.some FieldType.int)) ∈ GG := tb_5 33 rfl rfl
theorem mw_5_30 : (Cond.methodLink "OvenHouseLaw" (126 : Nat) ({ cls := "OvenHouseModel", name := "round", desc := "()I" } : MethodName)) ∈ GG := tb_5 30 rfl rfl
theorem mw_5_31 : (Cond.instanceMethod ({ cls := "OvenHouseModel", name := "round", desc := "()I" } : MethodName)) ∈ GG := tb_5 31 rfl rfl
theorem mw_5_32 : (Cond.selects "OvenHouseModel" ({ cls := "OvenHouseModel", name := "round", desc := "()I" } : MethodName) ({ cls := "OvenHouseModel", name := "round", desc := "()I" } : MethodName)) ∈ GG := tb_5 32 rfl rfl
theorem mw_3_137 : (Cond.code ({ cls := "OvenHouse", name := "through", desc := "()I" } : MethodName) prog_1_method_29_code (4 : Nat) (Option.some FieldType.int)) ∈ GG := tb_3 137 rfl rfl
theorem mw_3_134 : (Cond.methodLink "OvenHouseLaw" (127 : Nat) ({ cls := "OvenHouse", name := "through", desc := "()I" } : MethodName)) ∈ GG := tb_3 134 rfl rfl
theorem mw_3_135 : (Cond.instanceMethod ({ cls := "OvenHouse", name := "through", desc := "()I" } : MethodName)) ∈ GG := tb_3 135 rfl rfl
theorem mw_3_136 : (Cond.selects "OvenHouse" ({ cls := "OvenHouse", name := "through", desc := "()I" } : MethodName) ({ cls := "OvenHouse", name := "through", desc := "()I" } : MethodName)) ∈ GG := tb_3 136 rfl rfl
theorem mw_5_37 : (Cond.code ({ cls := "OvenHouseModel", name := "through", desc := "()I" } : MethodName) prog_11_method_61_code (3 : Nat) (Option.some FieldType.int)) ∈ GG := tb_5 37 rfl rfl
theorem mw_5_34 : (Cond.methodLink "OvenHouseLaw" (130 : Nat) ({ cls := "OvenHouseModel", name := "through", desc := "()I" } : MethodName)) ∈ GG := tb_5 34 rfl rfl
theorem mw_5_35 : (Cond.instanceMethod ({ cls := "OvenHouseModel", name := "through", desc := "()I" } : MethodName)) ∈ GG := tb_5 35 rfl rfl
theorem mw_5_36 : (Cond.selects "OvenHouseModel" ({ cls := "OvenHouseModel", name := "through", desc := "()I" } : MethodName) ({ cls := "OvenHouseModel", name := "through", desc := "()I" } : MethodName)) ∈ GG := tb_5 36 rfl rfl
theorem mw_3_150 : (Cond.code ({ cls := "OvenHouse", name := "batches", desc := "(I)I" } : MethodName) prog_1_method_30_code (4 : Nat) (Option.some FieldType.int)) ∈ GG := tb_3 150 rfl rfl
theorem mw_3_147 : (Cond.methodLink "OvenHouseLaw" (131 : Nat) ({ cls := "OvenHouse", name := "batches", desc := "(I)I" } : MethodName)) ∈ GG := tb_3 147 rfl rfl
theorem mw_3_148 : (Cond.instanceMethod ({ cls := "OvenHouse", name := "batches", desc := "(I)I" } : MethodName)) ∈ GG := tb_3 148 rfl rfl
theorem mw_3_149 : (Cond.selects "OvenHouse" ({ cls := "OvenHouse", name := "batches", desc := "(I)I" } : MethodName) ({ cls := "OvenHouse", name := "batches", desc := "(I)I" } : MethodName)) ∈ GG := tb_3 149 rfl rfl
theorem mw_5_41 : (Cond.code ({ cls := "OvenHouseModel", name := "batches", desc := "(I)I" } : MethodName) prog_11_method_62_code (4 : Nat) (Option.some FieldType.int)) ∈ GG := tb_5 41 rfl rfl
theorem mw_5_38 : (Cond.methodLink "OvenHouseLaw" (134 : Nat) ({ cls := "OvenHouseModel", name := "batches", desc := "(I)I" } : MethodName)) ∈ GG := tb_5 38 rfl rfl
theorem mw_5_39 : (Cond.instanceMethod ({ cls := "OvenHouseModel", name := "batches", desc := "(I)I" } : MethodName)) ∈ GG := tb_5 39 rfl rfl
theorem mw_5_40 : (Cond.selects "OvenHouseModel" ({ cls := "OvenHouseModel", name := "batches", desc := "(I)I" } : MethodName) ({ cls := "OvenHouseModel", name := "batches", desc := "(I)I" } : MethodName)) ∈ GG := tb_5 40 rfl rfl
theorem mw_3_155 : (Cond.code ({ cls := "OvenHouse", name := "count", desc := "(I)I" } : MethodName) prog_1_method_31_code (2 : Nat) (Option.some FieldType.int)) ∈ GG := tb_3 155 rfl rfl
theorem mw_3_152 : (Cond.methodLink "OvenHouseLaw" (135 : Nat) ({ cls := "OvenHouse", name := "count", desc := "(I)I" } : MethodName)) ∈ GG := tb_3 152 rfl rfl
theorem mw_3_153 : (Cond.instanceMethod ({ cls := "OvenHouse", name := "count", desc := "(I)I" } : MethodName)) ∈ GG := tb_3 153 rfl rfl
theorem mw_3_154 : (Cond.selects "OvenHouse" ({ cls := "OvenHouse", name := "count", desc := "(I)I" } : MethodName) ({ cls := "OvenHouse", name := "count", desc := "(I)I" } : MethodName)) ∈ GG := tb_3 154 rfl rfl
theorem mw_5_45 : (Cond.code ({ cls := "OvenHouseModel", name := "count", desc := "(I)I" } : MethodName) prog_11_method_63_code (2 : Nat) (Option.some FieldType.int)) ∈ GG := tb_5 45 rfl rfl
theorem mw_5_42 : (Cond.methodLink "OvenHouseLaw" (138 : Nat) ({ cls := "OvenHouseModel", name := "count", desc := "(I)I" } : MethodName)) ∈ GG := tb_5 42 rfl rfl
theorem mw_5_43 : (Cond.instanceMethod ({ cls := "OvenHouseModel", name := "count", desc := "(I)I" } : MethodName)) ∈ GG := tb_5 43 rfl rfl
theorem mw_5_44 : (Cond.selects "OvenHouseModel" ({ cls := "OvenHouseModel", name := "count", desc := "(I)I" } : MethodName) ({ cls := "OvenHouseModel", name := "count", desc := "(I)I" } : MethodName)) ∈ GG := tb_5 44 rfl rfl
theorem mw_3_159 : (Cond.code ({ cls := "OvenHouse", name := "digest", desc := "()J" } : MethodName) prog_1_method_32_code (5 : Nat) (Option.some FieldType.long)) ∈ GG := tb_3 159 rfl rfl
theorem mw_3_156 : (Cond.methodLink "OvenHouseLaw" (139 : Nat) ({ cls := "OvenHouse", name := "digest", desc := "()J" } : MethodName)) ∈ GG := tb_3 156 rfl rfl
theorem mw_3_157 : (Cond.instanceMethod ({ cls := "OvenHouse", name := "digest", desc := "()J" } : MethodName)) ∈ GG := tb_3 157 rfl rfl
theorem mw_3_158 : (Cond.selects "OvenHouse" ({ cls := "OvenHouse", name := "digest", desc := "()J" } : MethodName) ({ cls := "OvenHouse", name := "digest", desc := "()J" } : MethodName)) ∈ GG := tb_3 158 rfl rfl
theorem mw_5_49 : (Cond.code ({ cls := "OvenHouseModel", name := "digest", desc := "()J" } : MethodName) prog_11_method_64_code (5 : Nat) (Option.some FieldType.long)) ∈ GG := tb_5 49 rfl rfl
theorem mw_5_46 : (Cond.methodLink "OvenHouseLaw" (143 : Nat) ({ cls := "OvenHouseModel", name := "digest", desc := "()J" } : MethodName)) ∈ GG := tb_5 46 rfl rfl
theorem mw_5_47 : (Cond.instanceMethod ({ cls := "OvenHouseModel", name := "digest", desc := "()J" } : MethodName)) ∈ GG := tb_5 47 rfl rfl
theorem mw_5_48 : (Cond.selects "OvenHouseModel" ({ cls := "OvenHouseModel", name := "digest", desc := "()J" } : MethodName) ({ cls := "OvenHouseModel", name := "digest", desc := "()J" } : MethodName)) ∈ GG := tb_5 48 rfl rfl
theorem mw_1_27 : (Cond.methodLink "OvenHouse$Sheets" (3 : Nat) ({ cls := "java/lang/Object", name := "<init>", desc := "()V" } : MethodName)) ∈ GG := tb_1 27 rfl rfl
theorem mw_1_20 : (Cond.instanceMethod ({ cls := "java/lang/Object", name := "<init>", desc := "()V" } : MethodName)) ∈ GG := tb_1 20 rfl rfl
theorem mw_1_21 : (Cond.code ({ cls := "java/lang/Object", name := "<init>", desc := "()V" } : MethodName) object_method_1_code (1 : Nat) (Option.none : Option FieldType)) ∈ GG := tb_1 21 rfl rfl
theorem mw_1_50 : (Cond.arrayClass FieldType.int) ∈ GG := tb_1 50 rfl rfl
theorem mw_1_28 : (Cond.classLink "OvenHouse$Sheets" (18 : Nat) "[[I") ∈ GG := tb_1 28 rfl rfl
theorem mw_1_56 : (Cond.methodLink "OvenHouse$Loaves" (3 : Nat) ({ cls := "java/lang/Object", name := "<init>", desc := "()V" } : MethodName)) ∈ GG := tb_1 56 rfl rfl
theorem mw_1_93 : (Cond.methodLink "OvenHouse$History" (3 : Nat) ({ cls := "java/lang/Object", name := "<init>", desc := "()V" } : MethodName)) ∈ GG := tb_1 93 rfl rfl
theorem mw_1_94 : (Cond.classLink "OvenHouse$History" (9 : Nat) "OvenHouse$Loaves") ∈ GG := tb_1 94 rfl rfl
theorem mw_1_52 : (Cond.instantiable "OvenHouse$Loaves" (7 : Nat)) ∈ GG := tb_1 52 rfl rfl
theorem mw_1_54 : (Cond.instanceMethod ({ cls := "OvenHouse$Loaves", name := "<init>", desc := "()V" } : MethodName)) ∈ GG := tb_1 54 rfl rfl
theorem mw_1_55 : (Cond.code ({ cls := "OvenHouse$Loaves", name := "<init>", desc := "()V" } : MethodName) prog_5_method_1_code (1 : Nat) (Option.none : Option FieldType)) ∈ GG := tb_1 55 rfl rfl
theorem mw_1_113 : (Cond.methodLink "OvenHouse$Best" (3 : Nat) ({ cls := "java/lang/Object", name := "<init>", desc := "()V" } : MethodName)) ∈ GG := tb_1 113 rfl rfl
theorem mw_1_132 : (Cond.methodLink "OvenHouse$Day" (3 : Nat) ({ cls := "java/lang/Object", name := "<init>", desc := "()V" } : MethodName)) ∈ GG := tb_1 132 rfl rfl
theorem mw_1_164 : (Cond.methodLink "OvenHouse$Rings" (3 : Nat) ({ cls := "java/lang/Object", name := "<init>", desc := "()V" } : MethodName)) ∈ GG := tb_1 164 rfl rfl
theorem mw_1_220 : (Cond.arrayClass FieldType.boolean) ∈ GG := tb_1 220 rfl rfl
theorem mw_1_226 : (Cond.methodLink "OvenHouse$Rows" (3 : Nat) ({ cls := "java/lang/Object", name := "<init>", desc := "()V" } : MethodName)) ∈ GG := tb_1 226 rfl rfl
theorem mw_2_0 : (Cond.methodLink "OvenHouse$Prices" (3 : Nat) ({ cls := "java/lang/Object", name := "<init>", desc := "()V" } : MethodName)) ∈ GG := tb_2 0 rfl rfl
theorem mw_2_1 : (Cond.methodLink "OvenHouse$Prices" (18 : Nat) ({ cls := "java/util/Arrays", name := "fill", desc := "([II)V" } : MethodName)) ∈ GG := tb_2 1 rfl rfl
theorem mw_1_19 : (Cond.methodLink "OvenHouse" (1 : Nat) ({ cls := "java/lang/Object", name := "<init>", desc := "()V" } : MethodName)) ∈ GG := tb_1 19 rfl rfl
theorem mw_1_22 : (Cond.classLink "OvenHouse" (7 : Nat) "OvenHouse$Sheets") ∈ GG := tb_1 22 rfl rfl
theorem mw_1_23 : (Cond.instantiable "OvenHouse$Sheets" (4 : Nat)) ∈ GG := tb_1 23 rfl rfl
theorem mw_1_25 : (Cond.instanceMethod ({ cls := "OvenHouse$Sheets", name := "<init>", desc := "()V" } : MethodName)) ∈ GG := tb_1 25 rfl rfl
theorem mw_1_26 : (Cond.code ({ cls := "OvenHouse$Sheets", name := "<init>", desc := "()V" } : MethodName) prog_9_method_1_code (1 : Nat) (Option.none : Option FieldType)) ∈ GG := tb_1 26 rfl rfl
theorem mw_1_24 : (Cond.methodLink "OvenHouse" (9 : Nat) ({ cls := "OvenHouse$Sheets", name := "<init>", desc := "()V" } : MethodName)) ∈ GG := tb_1 24 rfl rfl
theorem mw_1_51 : (Cond.classLink "OvenHouse" (16 : Nat) "OvenHouse$Loaves") ∈ GG := tb_1 51 rfl rfl
theorem mw_1_88 : (Cond.classLink "OvenHouse" (23 : Nat) "OvenHouse$History") ∈ GG := tb_1 88 rfl rfl
theorem mw_1_89 : (Cond.instantiable "OvenHouse$History" (3 : Nat)) ∈ GG := tb_1 89 rfl rfl
theorem mw_1_91 : (Cond.instanceMethod ({ cls := "OvenHouse$History", name := "<init>", desc := "()V" } : MethodName)) ∈ GG := tb_1 91 rfl rfl
theorem mw_1_92 : (Cond.code ({ cls := "OvenHouse$History", name := "<init>", desc := "()V" } : MethodName) prog_4_method_1_code (2 : Nat) (Option.none : Option FieldType)) ∈ GG := tb_1 92 rfl rfl
theorem mw_1_90 : (Cond.methodLink "OvenHouse" (25 : Nat) ({ cls := "OvenHouse$History", name := "<init>", desc := "()V" } : MethodName)) ∈ GG := tb_1 90 rfl rfl
theorem mw_1_108 : (Cond.classLink "OvenHouse" (30 : Nat) "OvenHouse$Best") ∈ GG := tb_1 108 rfl rfl
theorem mw_1_109 : (Cond.instantiable "OvenHouse$Best" (3 : Nat)) ∈ GG := tb_1 109 rfl rfl
theorem mw_1_111 : (Cond.instanceMethod ({ cls := "OvenHouse$Best", name := "<init>", desc := "()V" } : MethodName)) ∈ GG := tb_1 111 rfl rfl
theorem mw_1_112 : (Cond.code ({ cls := "OvenHouse$Best", name := "<init>", desc := "()V" } : MethodName) prog_2_method_1_code (1 : Nat) (Option.none : Option FieldType)) ∈ GG := tb_1 112 rfl rfl
theorem mw_1_127 : (Cond.classLink "OvenHouse" (37 : Nat) "OvenHouse$Day") ∈ GG := tb_1 127 rfl rfl
theorem mw_1_128 : (Cond.instantiable "OvenHouse$Day" (7 : Nat)) ∈ GG := tb_1 128 rfl rfl
theorem mw_1_130 : (Cond.instanceMethod ({ cls := "OvenHouse$Day", name := "<init>", desc := "()V" } : MethodName)) ∈ GG := tb_1 130 rfl rfl
theorem mw_1_131 : (Cond.code ({ cls := "OvenHouse$Day", name := "<init>", desc := "()V" } : MethodName) prog_3_method_1_code (1 : Nat) (Option.none : Option FieldType)) ∈ GG := tb_1 131 rfl rfl
theorem mw_1_159 : (Cond.classLink "OvenHouse" (44 : Nat) "OvenHouse$Rings") ∈ GG := tb_1 159 rfl rfl
theorem mw_1_160 : (Cond.instantiable "OvenHouse$Rings" (15 : Nat)) ∈ GG := tb_1 160 rfl rfl
theorem mw_1_162 : (Cond.instanceMethod ({ cls := "OvenHouse$Rings", name := "<init>", desc := "()V" } : MethodName)) ∈ GG := tb_1 162 rfl rfl
theorem mw_1_163 : (Cond.code ({ cls := "OvenHouse$Rings", name := "<init>", desc := "()V" } : MethodName) prog_7_method_1_code (1 : Nat) (Option.none : Option FieldType)) ∈ GG := tb_1 163 rfl rfl
theorem mw_1_221 : (Cond.classLink "OvenHouse" (51 : Nat) "OvenHouse$Rows") ∈ GG := tb_1 221 rfl rfl
theorem mw_1_222 : (Cond.instantiable "OvenHouse$Rows" (2 : Nat)) ∈ GG := tb_1 222 rfl rfl
theorem mw_1_224 : (Cond.instanceMethod ({ cls := "OvenHouse$Rows", name := "<init>", desc := "()V" } : MethodName)) ∈ GG := tb_1 224 rfl rfl
theorem mw_1_225 : (Cond.code ({ cls := "OvenHouse$Rows", name := "<init>", desc := "()V" } : MethodName) prog_8_method_1_code (1 : Nat) (Option.none : Option FieldType)) ∈ GG := tb_1 225 rfl rfl
theorem mw_1_235 : (Cond.classLink "OvenHouse" (58 : Nat) "OvenHouse$Prices") ∈ GG := tb_1 235 rfl rfl
theorem mw_1_236 : (Cond.instantiable "OvenHouse$Prices" (2 : Nat)) ∈ GG := tb_1 236 rfl rfl
theorem mw_1_238 : (Cond.instanceMethod ({ cls := "OvenHouse$Prices", name := "<init>", desc := "(I)V" } : MethodName)) ∈ GG := tb_1 238 rfl rfl
theorem mw_1_239 : (Cond.code ({ cls := "OvenHouse$Prices", name := "<init>", desc := "(I)V" } : MethodName) prog_6_method_1_code (2 : Nat) (Option.none : Option FieldType)) ∈ GG := tb_1 239 rfl rfl
theorem mw_1_237 : (Cond.methodLink "OvenHouse" (60 : Nat) ({ cls := "OvenHouse$Prices", name := "<init>", desc := "(I)V" } : MethodName)) ∈ GG := tb_1 237 rfl rfl
theorem mw_2_11 : (Cond.classLink "OvenHouse" (74 : Nat) "[[I") ∈ GG := tb_2 11 rfl rfl
theorem mw_3_168 : (Cond.methodLink "OvenHouseModel" (1 : Nat) ({ cls := "java/lang/Object", name := "<init>", desc := "()V" } : MethodName)) ∈ GG := tb_3 168 rfl rfl
theorem mw_1_15 : (Cond.instantiable "OvenHouse" (11 : Nat)) ∈ GG := tb_1 15 rfl rfl
theorem mw_3_164 : (Cond.instantiable "OvenHouseModel" (35 : Nat)) ∈ GG := tb_3 164 rfl rfl
theorem mw_1_14 : (Cond.classLink "OvenHouseLaw" (7 : Nat) "OvenHouse") ∈ GG := tb_1 14 rfl rfl
theorem mw_3_163 : (Cond.classLink "OvenHouseLaw" (10 : Nat) "OvenHouseModel") ∈ GG := tb_3 163 rfl rfl
theorem mw_1_18 : (Cond.code ({ cls := "OvenHouse", name := "<init>", desc := "()V" } : MethodName) prog_1_method_1_code (1 : Nat) (Option.none : Option FieldType)) ∈ GG := tb_1 18 rfl rfl
theorem mw_1_16 : (Cond.methodLink "OvenHouseLaw" (9 : Nat) ({ cls := "OvenHouse", name := "<init>", desc := "()V" } : MethodName)) ∈ GG := tb_1 16 rfl rfl
theorem mw_1_17 : (Cond.instanceMethod ({ cls := "OvenHouse", name := "<init>", desc := "()V" } : MethodName)) ∈ GG := tb_1 17 rfl rfl
theorem mw_3_167 : (Cond.code ({ cls := "OvenHouseModel", name := "<init>", desc := "()V" } : MethodName) prog_11_method_1_code (2 : Nat) (Option.none : Option FieldType)) ∈ GG := tb_3 167 rfl rfl
theorem mw_3_165 : (Cond.methodLink "OvenHouseLaw" (12 : Nat) ({ cls := "OvenHouseModel", name := "<init>", desc := "()V" } : MethodName)) ∈ GG := tb_3 165 rfl rfl
theorem mw_3_166 : (Cond.instanceMethod ({ cls := "OvenHouseModel", name := "<init>", desc := "()V" } : MethodName)) ∈ GG := tb_3 166 rfl rfl
theorem inX0 : ∀ w ∈ u_ws RX0 TX0 3, w ∈ GG := by
  show ∀ w ∈ [u_lay RX0 TX0 0, u_lay RX0 TX0 1, u_lay RX0 TX0 2], w ∈ GG
  exact List.forall_mem_cons.mpr ⟨mw_1_120, List.forall_mem_cons.mpr ⟨mw_1_122, List.forall_mem_cons.mpr ⟨mw_1_124, fun _ h => absurd h List.not_mem_nil⟩⟩⟩
theorem inX1 : ∀ w ∈ u_ws RX1 TX1 7, w ∈ GG := by
  show ∀ w ∈ [u_lay RX1 TX1 0, u_lay RX1 TX1 1, u_lay RX1 TX1 2, u_lay RX1 TX1 3, u_lay RX1 TX1 4, u_lay RX1 TX1 5, u_lay RX1 TX1 6], w ∈ GG
  exact List.forall_mem_cons.mpr ⟨mw_1_144, List.forall_mem_cons.mpr ⟨mw_1_146, List.forall_mem_cons.mpr ⟨mw_1_148, List.forall_mem_cons.mpr ⟨mw_1_150, List.forall_mem_cons.mpr ⟨mw_1_152, List.forall_mem_cons.mpr ⟨mw_1_154, List.forall_mem_cons.mpr ⟨mw_1_156, fun _ h => absurd h List.not_mem_nil⟩⟩⟩⟩⟩⟩⟩
theorem inX2 : ∀ w ∈ u_ws RX2 TX2 3, w ∈ GG := by
  show ∀ w ∈ [u_lay RX2 TX2 0, u_lay RX2 TX2 1, u_lay RX2 TX2 2], w ∈ GG
  exact List.forall_mem_cons.mpr ⟨mw_1_101, List.forall_mem_cons.mpr ⟨mw_1_103, List.forall_mem_cons.mpr ⟨mw_1_105, fun _ h => absurd h List.not_mem_nil⟩⟩⟩
theorem inX3 : ∀ w ∈ u_ws RX3 TX3 7, w ∈ GG := by
  show ∀ w ∈ [u_lay RX3 TX3 0, u_lay RX3 TX3 1, u_lay RX3 TX3 2, u_lay RX3 TX3 3, u_lay RX3 TX3 4, u_lay RX3 TX3 5, u_lay RX3 TX3 6], w ∈ GG
  exact List.forall_mem_cons.mpr ⟨mw_1_73, List.forall_mem_cons.mpr ⟨mw_1_75, List.forall_mem_cons.mpr ⟨mw_1_77, List.forall_mem_cons.mpr ⟨mw_1_79, List.forall_mem_cons.mpr ⟨mw_1_81, List.forall_mem_cons.mpr ⟨mw_1_83, List.forall_mem_cons.mpr ⟨mw_1_85, fun _ h => absurd h List.not_mem_nil⟩⟩⟩⟩⟩⟩⟩
theorem inX4 : ∀ w ∈ u_ws RX4 TX4 2, w ∈ GG := by
  show ∀ w ∈ [u_lay RX4 TX4 0, u_lay RX4 TX4 1], w ∈ GG
  exact List.forall_mem_cons.mpr ⟨mw_2_6, List.forall_mem_cons.mpr ⟨mw_2_8, fun _ h => absurd h List.not_mem_nil⟩⟩
theorem inX5 : ∀ w ∈ u_ws RX5 TX5 15, w ∈ GG := by
  show ∀ w ∈ [u_lay RX5 TX5 0, u_lay RX5 TX5 1, u_lay RX5 TX5 2, u_lay RX5 TX5 3, u_lay RX5 TX5 4, u_lay RX5 TX5 5, u_lay RX5 TX5 6, u_lay RX5 TX5 7, u_lay RX5 TX5 8, u_lay RX5 TX5 9, u_lay RX5 TX5 10, u_lay RX5 TX5 11, u_lay RX5 TX5 12, u_lay RX5 TX5 13, u_lay RX5 TX5 14], w ∈ GG
  exact List.forall_mem_cons.mpr ⟨mw_1_189, List.forall_mem_cons.mpr ⟨mw_1_191, List.forall_mem_cons.mpr ⟨mw_1_193, List.forall_mem_cons.mpr ⟨mw_1_195, List.forall_mem_cons.mpr ⟨mw_1_197, List.forall_mem_cons.mpr ⟨mw_1_199, List.forall_mem_cons.mpr ⟨mw_1_201, List.forall_mem_cons.mpr ⟨mw_1_203, List.forall_mem_cons.mpr ⟨mw_1_205, List.forall_mem_cons.mpr ⟨mw_1_207, List.forall_mem_cons.mpr ⟨mw_1_209, List.forall_mem_cons.mpr ⟨mw_1_211, List.forall_mem_cons.mpr ⟨mw_1_213, List.forall_mem_cons.mpr ⟨mw_1_215, List.forall_mem_cons.mpr ⟨mw_1_217, fun _ h => absurd h List.not_mem_nil⟩⟩⟩⟩⟩⟩⟩⟩⟩⟩⟩⟩⟩⟩⟩
theorem inX6 : ∀ w ∈ u_ws RX6 TX6 2, w ∈ GG := by
  show ∀ w ∈ [u_lay RX6 TX6 0, u_lay RX6 TX6 1], w ∈ GG
  exact List.forall_mem_cons.mpr ⟨mw_1_230, List.forall_mem_cons.mpr ⟨mw_1_232, fun _ h => absurd h List.not_mem_nil⟩⟩
theorem inX7 : ∀ w ∈ u_ws RX7 TX7 4, w ∈ GG := by
  show ∀ w ∈ [u_lay RX7 TX7 0, u_lay RX7 TX7 1, u_lay RX7 TX7 2, u_lay RX7 TX7 3], w ∈ GG
  exact List.forall_mem_cons.mpr ⟨mw_1_41, List.forall_mem_cons.mpr ⟨mw_1_43, List.forall_mem_cons.mpr ⟨mw_1_45, List.forall_mem_cons.mpr ⟨mw_1_47, fun _ h => absurd h List.not_mem_nil⟩⟩⟩⟩
theorem inX8 : ∀ w ∈ u_ws RX8 TX8 11, w ∈ GG := by
  show ∀ w ∈ [u_lay RX8 TX8 0, u_lay RX8 TX8 1, u_lay RX8 TX8 2, u_lay RX8 TX8 3, u_lay RX8 TX8 4, u_lay RX8 TX8 5, u_lay RX8 TX8 6, u_lay RX8 TX8 7, u_lay RX8 TX8 8, u_lay RX8 TX8 9, u_lay RX8 TX8 10], w ∈ GG
  exact List.forall_mem_cons.mpr ⟨mw_2_23, List.forall_mem_cons.mpr ⟨mw_2_25, List.forall_mem_cons.mpr ⟨mw_2_27, List.forall_mem_cons.mpr ⟨mw_2_29, List.forall_mem_cons.mpr ⟨mw_2_31, List.forall_mem_cons.mpr ⟨mw_2_33, List.forall_mem_cons.mpr ⟨mw_2_35, List.forall_mem_cons.mpr ⟨mw_2_37, List.forall_mem_cons.mpr ⟨mw_2_39, List.forall_mem_cons.mpr ⟨mw_2_41, List.forall_mem_cons.mpr ⟨mw_2_43, fun _ h => absurd h List.not_mem_nil⟩⟩⟩⟩⟩⟩⟩⟩⟩⟩⟩
theorem inX9 : ∀ w ∈ u_ws RX9 TX9 35, w ∈ GG := by
  show ∀ w ∈ [u_lay RX9 TX9 0, u_lay RX9 TX9 1, u_lay RX9 TX9 2, u_lay RX9 TX9 3, u_lay RX9 TX9 4, u_lay RX9 TX9 5, u_lay RX9 TX9 6, u_lay RX9 TX9 7, u_lay RX9 TX9 8, u_lay RX9 TX9 9, u_lay RX9 TX9 10, u_lay RX9 TX9 11, u_lay RX9 TX9 12, u_lay RX9 TX9 13, u_lay RX9 TX9 14, u_lay RX9 TX9 15, u_lay RX9 TX9 16, u_lay RX9 TX9 17, u_lay RX9 TX9 18, u_lay RX9 TX9 19, u_lay RX9 TX9 20, u_lay RX9 TX9 21, u_lay RX9 TX9 22, u_lay RX9 TX9 23, u_lay RX9 TX9 24, u_lay RX9 TX9 25, u_lay RX9 TX9 26, u_lay RX9 TX9 27, u_lay RX9 TX9 28, u_lay RX9 TX9 29, u_lay RX9 TX9 30, u_lay RX9 TX9 31, u_lay RX9 TX9 32, u_lay RX9 TX9 33, u_lay RX9 TX9 34], w ∈ GG
  exact List.forall_mem_cons.mpr ⟨mw_3_204, List.forall_mem_cons.mpr ⟨mw_3_206, List.forall_mem_cons.mpr ⟨mw_3_208, List.forall_mem_cons.mpr ⟨mw_3_210, List.forall_mem_cons.mpr ⟨mw_3_212, List.forall_mem_cons.mpr ⟨mw_3_214, List.forall_mem_cons.mpr ⟨mw_3_216, List.forall_mem_cons.mpr ⟨mw_3_218, List.forall_mem_cons.mpr ⟨mw_3_220, List.forall_mem_cons.mpr ⟨mw_3_222, List.forall_mem_cons.mpr ⟨mw_3_224, List.forall_mem_cons.mpr ⟨mw_3_226, List.forall_mem_cons.mpr ⟨mw_3_228, List.forall_mem_cons.mpr ⟨mw_3_230, List.forall_mem_cons.mpr ⟨mw_3_232, List.forall_mem_cons.mpr ⟨mw_3_234, List.forall_mem_cons.mpr ⟨mw_3_236, List.forall_mem_cons.mpr ⟨mw_3_238, List.forall_mem_cons.mpr ⟨mw_4_0, List.forall_mem_cons.mpr ⟨mw_4_2, List.forall_mem_cons.mpr ⟨mw_4_4, List.forall_mem_cons.mpr ⟨mw_4_6, List.forall_mem_cons.mpr ⟨mw_4_8, List.forall_mem_cons.mpr ⟨mw_4_10, List.forall_mem_cons.mpr ⟨mw_4_12, List.forall_mem_cons.mpr ⟨mw_4_14, List.forall_mem_cons.mpr ⟨mw_4_16, List.forall_mem_cons.mpr ⟨mw_4_18, List.forall_mem_cons.mpr ⟨mw_4_20, List.forall_mem_cons.mpr ⟨mw_4_22, List.forall_mem_cons.mpr ⟨mw_4_24, List.forall_mem_cons.mpr ⟨mw_4_26, List.forall_mem_cons.mpr ⟨mw_4_28, List.forall_mem_cons.mpr ⟨mw_4_30, List.forall_mem_cons.mpr ⟨mw_4_32, fun _ h => absurd h List.not_mem_nil⟩⟩⟩⟩⟩⟩⟩⟩⟩⟩⟩⟩⟩⟩⟩⟩⟩⟩⟩⟩⟩⟩⟩⟩⟩⟩⟩⟩⟩⟩⟩⟩⟩⟩⟩
