theorem wck_e {b : Bool} {x : Prop} (h : wck b x) : b = true ∧ x := h
theorem wbo_e {α : Type} {x : Option α} {f : α → Prop} (h : wbo x f) : ∃ a, x = some a ∧ f a := h
theorem wbd_e {α β : Type} {x : Option (α × β)} {f : α → β → Prop} (h : wbd x f) : ∃ a b, x = some (a, b) ∧ f a b := h
theorem wif_t {c x y : Prop} (h : wif c x y) (q : c) : x := h.1 q
theorem wif_f {c x y : Prop} (h : wif c x y) (q : ¬ c) : y := h.2 q
theorem j_eqk {p : Program} {l : Launch} {e : Env} {R : Room} {s : State} {m : MethodId} {args : Array Value} {below : List Frame} {meth : Method} {c : Code} {nL ce sl : Nat} {D : va_G} {θ : Tc} {A : Nat → Prop} {Q : State → Prop} {κ κ1 : Cz} {lv : List (Nat × Value)} {st : List Value} {pc : Nat} (h : κ1 = κ) (k : JE p l e R s m args below meth c D θ A nL ce sl Q κ1 lv st pc) : JE p l e R s m args below meth c D θ A nL ce sl Q κ lv st pc := h ▸ k
theorem in_ErrataRow : Cond.instantiable "ErrataRow" 16 ∈ lw_gt := lw_at 148 (by decide +kernel) rfl
theorem eo_ErrataRow_1 : Cond.methodLink "ErrataRow" 1 objectInit ∈ lw_gt := lw_at 152 (by decide +kernel) rfl
theorem cl_ErrataRow_13 : Cond.classLink "ErrataRow" 13 "ErrataRow$Tokens" ∈ lw_gt := lw_at 155 (by decide +kernel) rfl
theorem in_Tokens : Cond.instantiable "ErrataRow$Tokens" 8 ∈ lw_gt := lw_at 156 (by decide +kernel) rfl
theorem eo_Tokens_3 : Cond.methodLink "ErrataRow$Tokens" 3 objectInit ∈ lw_gt := lw_at 160 (by decide +kernel) rfl
theorem ea_int : Cond.arrayClass .int ∈ lw_gt := lw_at 192 (by decide +kernel) rfl
theorem cl_ErrataRow_20 : Cond.classLink "ErrataRow" 20 "ErrataRow$BookReader" ∈ lw_gt := lw_at 193 (by decide +kernel) rfl
theorem in_BookReader : Cond.instantiable "ErrataRow$BookReader" 2 ∈ lw_gt := lw_at 194 (by decide +kernel) rfl
theorem eo_BookReader_3 : Cond.methodLink "ErrataRow$BookReader" 3 objectInit ∈ lw_gt := lw_at 198 (by decide +kernel) rfl
theorem cl_BookReader_9 : Cond.classLink "ErrataRow$BookReader" 9 "ErrataRow$Book" ∈ lw_gt := lw_at 199 (by decide +kernel) rfl
theorem in_Book : Cond.instantiable "ErrataRow$Book" 8 ∈ lw_gt := lw_at 200 (by decide +kernel) rfl
theorem eo_Book_3 : Cond.methodLink "ErrataRow$Book" 3 objectInit ∈ lw_gt := lw_at 204 (by decide +kernel) rfl
theorem cl_Book_21 : Cond.classLink "ErrataRow$Book" 21 "ErrataRow$State" ∈ lw_gt := lw_at 205 (by decide +kernel) rfl
theorem in_State : Cond.instantiable "ErrataRow$State" 6 ∈ lw_gt := lw_at 206 (by decide +kernel) rfl
theorem eo_State_3 : Cond.methodLink "ErrataRow$State" 3 objectInit ∈ lw_gt := lw_at 210 (by decide +kernel) rfl
theorem cl_ErrataRow_29 : Cond.classLink "ErrataRow" 29 "ErrataRow$RuleReader" ∈ lw_gt := lw_at 298 (by decide +kernel) rfl
theorem in_RuleReader : Cond.instantiable "ErrataRow$RuleReader" 7 ∈ lw_gt := lw_at 299 (by decide +kernel) rfl
theorem eo_RuleReader_3 : Cond.methodLink "ErrataRow$RuleReader" 3 objectInit ∈ lw_gt := lw_at 303 (by decide +kernel) rfl
theorem cl_ErrataRow_36 : Cond.classLink "ErrataRow" 36 "ErrataRow$Rule" ∈ lw_gt := lw_at 326 (by decide +kernel) rfl
theorem cl_ErrataRow_42 : Cond.classLink "ErrataRow" 42 "ErrataRow$World" ∈ lw_gt := lw_at 328 (by decide +kernel) rfl
theorem in_World : Cond.instantiable "ErrataRow$World" 5 ∈ lw_gt := lw_at 329 (by decide +kernel) rfl
theorem eo_World_3 : Cond.methodLink "ErrataRow$World" 3 objectInit ∈ lw_gt := lw_at 333 (by decide +kernel) rfl
theorem cl_World_9 : Cond.classLink "ErrataRow$World" 9 "ErrataRow$Book" ∈ lw_gt := lw_at 334 (by decide +kernel) rfl
theorem cl_World_18 : Cond.classLink "ErrataRow$World" 18 "ErrataRow$State" ∈ lw_gt := lw_at 336 (by decide +kernel) rfl
theorem cl_World_25 : Cond.classLink "ErrataRow$World" 25 "ErrataRow$Notes" ∈ lw_gt := lw_at 338 (by decide +kernel) rfl
theorem in_Notes : Cond.instantiable "ErrataRow$Notes" 4 ∈ lw_gt := lw_at 339 (by decide +kernel) rfl
theorem eo_Notes_3 : Cond.methodLink "ErrataRow$Notes" 3 objectInit ∈ lw_gt := lw_at 343 (by decide +kernel) rfl
theorem cl_ErrataRow_53 : Cond.classLink "ErrataRow" 53 "ErrataRow$History" ∈ lw_gt := lw_at 381 (by decide +kernel) rfl
theorem in_History : Cond.instantiable "ErrataRow$History" 3 ∈ lw_gt := lw_at 382 (by decide +kernel) rfl
theorem eo_History_3 : Cond.methodLink "ErrataRow$History" 3 objectInit ∈ lw_gt := lw_at 386 (by decide +kernel) rfl
theorem cl_History_9 : Cond.classLink "ErrataRow$History" 9 "ErrataRow$State" ∈ lw_gt := lw_at 387 (by decide +kernel) rfl
theorem cl_ErrataRow_60 : Cond.classLink "ErrataRow" 60 "ErrataRow$Press" ∈ lw_gt := lw_at 400 (by decide +kernel) rfl
theorem in_Press : Cond.instantiable "ErrataRow$Press" 6 ∈ lw_gt := lw_at 401 (by decide +kernel) rfl
theorem eo_Press_3 : Cond.methodLink "ErrataRow$Press" 3 objectInit ∈ lw_gt := lw_at 405 (by decide +kernel) rfl
theorem ea_long : Cond.arrayClass .long ∈ lw_gt := lw_at 428 (by decide +kernel) rfl
theorem cl_ErrataRow_73 : Cond.classLink "ErrataRow" 73 "ErrataRow$RowSearch" ∈ lw_gt := lw_at 429 (by decide +kernel) rfl
theorem in_RowSearch : Cond.instantiable "ErrataRow$RowSearch" 5 ∈ lw_gt := lw_at 430 (by decide +kernel) rfl
theorem eo_RowSearch_3 : Cond.methodLink "ErrataRow$RowSearch" 3 objectInit ∈ lw_gt := lw_at 434 (by decide +kernel) rfl
theorem cl_RowSearch_9 : Cond.classLink "ErrataRow$RowSearch" 9 "ErrataRow$State" ∈ lw_gt := lw_at 435 (by decide +kernel) rfl
theorem cl_ErrataRow_82 : Cond.classLink "ErrataRow" 82 "ErrataRow$State" ∈ lw_gt := lw_at 455 (by decide +kernel) rfl
theorem ea_byte : Cond.arrayClass .byte ∈ lw_gt := lw_at 755 (by decide +kernel) rfl
theorem cl_RuleReader_25 : Cond.classLink "ErrataRow$RuleReader" 25 "ErrataRow$Rule" ∈ lw_gt := lw_at 812 (by decide +kernel) rfl
theorem in_Rule : Cond.instantiable "ErrataRow$Rule" 4 ∈ lw_gt := lw_at 813 (by decide +kernel) rfl
theorem cl_Arrays_317 : Cond.classLink "java/util/Arrays" 317 "[I" ∈ lw_gt := lw_at 823 (by decide +kernel) rfl
theorem eo_Rule_1 : Cond.methodLink "ErrataRow$Rule" 1 objectInit ∈ lw_gt := lw_at 829 (by decide +kernel) rfl
theorem ea_boolean : Cond.arrayClass .boolean ∈ lw_gt := lw_at 1351 (by decide +kernel) rfl
theorem eo_inst : Cond.instanceMethod objectInit ∈ lw_gt := lw_at 153 (by decide +kernel) rfl
theorem eo_code : Cond.code objectInit ⟨#[0xb1]⟩ 1 none ∈ lw_gt := lw_at 154 (by decide +kernel) rfl
theorem fzok_0 : ∀ j, j < 8 → defaultValue (tyX0 j) = vp_V (fz 0) j := by decide +kernel
theorem fzok_1 : ∀ j, j < 2 → defaultValue (tyX1 j) = vp_V (fz 1) j := by decide +kernel
theorem fzok_2 : ∀ j, j < 3 → defaultValue (tyX2 j) = vp_V (fz 2) j := by decide +kernel
theorem fzok_3 : ∀ j, j < 4 → defaultValue (tyX3 j) = vp_V (fz 3) j := by decide +kernel
theorem fzok_4 : ∀ j, j < 6 → defaultValue (tyX4 j) = vp_V (fz 4) j := by decide +kernel
theorem fzok_5 : ∀ j, j < 5 → defaultValue (tyX5 j) = vp_V (fz 5) j := by decide +kernel
theorem fzok_6 : ∀ j, j < 4 → defaultValue (tyX6 j) = vp_V (fz 6) j := by decide +kernel
theorem fzok_7 : ∀ j, j < 7 → defaultValue (tyX7 j) = vp_V (fz 7) j := by decide +kernel
theorem fzok_8 : ∀ j, j < 6 → defaultValue (tyX8 j) = vp_V (fz 8) j := by decide +kernel
theorem fzok_9 : ∀ j, j < 8 → defaultValue (tyX9 j) = vp_V (fz 9) j := by decide +kernel
theorem fzok_10 : ∀ j, j < 5 → defaultValue (tyX10 j) = vp_V (fz 10) j := by decide +kernel
theorem fzok_11 : ∀ j, j < 16 → defaultValue (tyX11 j) = vp_V (fz 11) j := by decide +kernel
theorem ec_Book_init : Cond.code y_Book_init c_Book_init 1 none ∈ lw_gt := lw_at 203 (by decide +kernel) rfl
theorem eh_Book_init : y_Book_init.cls ≠ "java/lang/invoke/MethodHandle" ∧ y_Book_init.cls ≠ "java/lang/invoke/VarHandle" ∧ (parseMethodDescriptor y_Book_init.desc).map (fun d => d.parameters.length) = some 0 := by decide +kernel
theorem ej_Book_init : Cond.instanceMethod y_Book_init ∈ lw_gt := lw_at 202 (by decide +kernel) rfl
theorem ec_BookReader_init : Cond.code y_BookReader_init c_BookReader_init 2 none ∈ lw_gt := lw_at 197 (by decide +kernel) rfl
theorem eh_BookReader_init : y_BookReader_init.cls ≠ "java/lang/invoke/MethodHandle" ∧ y_BookReader_init.cls ≠ "java/lang/invoke/VarHandle" ∧ (parseMethodDescriptor y_BookReader_init.desc).map (fun d => d.parameters.length) = some 1 := by decide +kernel
theorem ej_BookReader_init : Cond.instanceMethod y_BookReader_init ∈ lw_gt := lw_at 196 (by decide +kernel) rfl
theorem el_ErrataRow_22 : Cond.methodLink "ErrataRow" 22 y_BookReader_init ∈ lw_gt := lw_at 195 (by decide +kernel) rfl
theorem ec_History_init : Cond.code y_History_init c_History_init 1 none ∈ lw_gt := lw_at 385 (by decide +kernel) rfl
theorem eh_History_init : y_History_init.cls ≠ "java/lang/invoke/MethodHandle" ∧ y_History_init.cls ≠ "java/lang/invoke/VarHandle" ∧ (parseMethodDescriptor y_History_init.desc).map (fun d => d.parameters.length) = some 0 := by decide +kernel
theorem ej_History_init : Cond.instanceMethod y_History_init ∈ lw_gt := lw_at 384 (by decide +kernel) rfl
theorem ec_Notes_init : Cond.code y_Notes_init c_Notes_init 1 none ∈ lw_gt := lw_at 342 (by decide +kernel) rfl
theorem eh_Notes_init : y_Notes_init.cls ≠ "java/lang/invoke/MethodHandle" ∧ y_Notes_init.cls ≠ "java/lang/invoke/VarHandle" ∧ (parseMethodDescriptor y_Notes_init.desc).map (fun d => d.parameters.length) = some 0 := by decide +kernel
theorem ej_Notes_init : Cond.instanceMethod y_Notes_init ∈ lw_gt := lw_at 341 (by decide +kernel) rfl
theorem ec_Press_init : Cond.code y_Press_init c_Press_init 2 none ∈ lw_gt := lw_at 404 (by decide +kernel) rfl
theorem eh_Press_init : y_Press_init.cls ≠ "java/lang/invoke/MethodHandle" ∧ y_Press_init.cls ≠ "java/lang/invoke/VarHandle" ∧ (parseMethodDescriptor y_Press_init.desc).map (fun d => d.parameters.length) = some 1 := by decide +kernel
theorem ej_Press_init : Cond.instanceMethod y_Press_init ∈ lw_gt := lw_at 403 (by decide +kernel) rfl
theorem el_ErrataRow_66 : Cond.methodLink "ErrataRow" 66 y_Press_init ∈ lw_gt := lw_at 402 (by decide +kernel) rfl
theorem ec_RowSearch_init : Cond.code y_RowSearch_init c_RowSearch_init 3 none ∈ lw_gt := lw_at 433 (by decide +kernel) rfl
theorem eh_RowSearch_init : y_RowSearch_init.cls ≠ "java/lang/invoke/MethodHandle" ∧ y_RowSearch_init.cls ≠ "java/lang/invoke/VarHandle" ∧ (parseMethodDescriptor y_RowSearch_init.desc).map (fun d => d.parameters.length) = some 1 := by decide +kernel
theorem ej_RowSearch_init : Cond.instanceMethod y_RowSearch_init ∈ lw_gt := lw_at 432 (by decide +kernel) rfl
theorem el_ErrataRow_75 : Cond.methodLink "ErrataRow" 75 y_RowSearch_init ∈ lw_gt := lw_at 431 (by decide +kernel) rfl
theorem ec_Rule_init : Cond.code y_Rule_init c_Rule_init 4 none ∈ lw_gt := lw_at 828 (by decide +kernel) rfl
theorem eh_Rule_init : y_Rule_init.cls ≠ "java/lang/invoke/MethodHandle" ∧ y_Rule_init.cls ≠ "java/lang/invoke/VarHandle" ∧ (parseMethodDescriptor y_Rule_init.desc).map (fun d => d.parameters.length) = some 3 := by decide +kernel
theorem ej_Rule_init : Cond.instanceMethod y_Rule_init ∈ lw_gt := lw_at 827 (by decide +kernel) rfl
theorem el_RuleReader_40 : Cond.methodLink "ErrataRow$RuleReader" 40 y_Rule_init ∈ lw_gt := lw_at 826 (by decide +kernel) rfl
theorem ec_RuleReader_init : Cond.code y_RuleReader_init c_RuleReader_init 2 none ∈ lw_gt := lw_at 302 (by decide +kernel) rfl
theorem eh_RuleReader_init : y_RuleReader_init.cls ≠ "java/lang/invoke/MethodHandle" ∧ y_RuleReader_init.cls ≠ "java/lang/invoke/VarHandle" ∧ (parseMethodDescriptor y_RuleReader_init.desc).map (fun d => d.parameters.length) = some 1 := by decide +kernel
theorem ej_RuleReader_init : Cond.instanceMethod y_RuleReader_init ∈ lw_gt := lw_at 301 (by decide +kernel) rfl
theorem el_ErrataRow_31 : Cond.methodLink "ErrataRow" 31 y_RuleReader_init ∈ lw_gt := lw_at 300 (by decide +kernel) rfl
theorem ec_State_init : Cond.code y_State_init c_State_init 1 none ∈ lw_gt := lw_at 209 (by decide +kernel) rfl
theorem eh_State_init : y_State_init.cls ≠ "java/lang/invoke/MethodHandle" ∧ y_State_init.cls ≠ "java/lang/invoke/VarHandle" ∧ (parseMethodDescriptor y_State_init.desc).map (fun d => d.parameters.length) = some 0 := by decide +kernel
theorem ej_State_init : Cond.instanceMethod y_State_init ∈ lw_gt := lw_at 208 (by decide +kernel) rfl
theorem ec_Tokens_init : Cond.code y_Tokens_init c_Tokens_init 1 none ∈ lw_gt := lw_at 159 (by decide +kernel) rfl
theorem eh_Tokens_init : y_Tokens_init.cls ≠ "java/lang/invoke/MethodHandle" ∧ y_Tokens_init.cls ≠ "java/lang/invoke/VarHandle" ∧ (parseMethodDescriptor y_Tokens_init.desc).map (fun d => d.parameters.length) = some 0 := by decide +kernel
theorem ej_Tokens_init : Cond.instanceMethod y_Tokens_init ∈ lw_gt := lw_at 158 (by decide +kernel) rfl
theorem ec_World_init : Cond.code y_World_init c_World_init 1 none ∈ lw_gt := lw_at 332 (by decide +kernel) rfl
theorem eh_World_init : y_World_init.cls ≠ "java/lang/invoke/MethodHandle" ∧ y_World_init.cls ≠ "java/lang/invoke/VarHandle" ∧ (parseMethodDescriptor y_World_init.desc).map (fun d => d.parameters.length) = some 0 := by decide +kernel
theorem ej_World_init : Cond.instanceMethod y_World_init ∈ lw_gt := lw_at 331 (by decide +kernel) rfl
theorem ec_ErrataRow_init : Cond.code y_ErrataRow_init c_ErrataRow_init 1 none ∈ lw_gt := lw_at 151 (by decide +kernel) rfl
theorem eh_ErrataRow_init : y_ErrataRow_init.cls ≠ "java/lang/invoke/MethodHandle" ∧ y_ErrataRow_init.cls ≠ "java/lang/invoke/VarHandle" ∧ (parseMethodDescriptor y_ErrataRow_init.desc).map (fun d => d.parameters.length) = some 0 := by decide +kernel
theorem ej_ErrataRow_init : Cond.instanceMethod y_ErrataRow_init ∈ lw_gt := lw_at 150 (by decide +kernel) rfl
theorem el_ErrataRowLaw_9 : Cond.methodLink "ErrataRowLaw" 9 y_ErrataRow_init ∈ lw_gt := lw_at 149 (by decide +kernel) rfl
abbrev c_Arrays_copyOf : ByteArray := prog_23_method_123_code
def y_Arrays_copyOf : MethodName := ⟨"java/util/Arrays", "copyOf", "([II)[I"⟩
theorem d_Arrays_copyOf_0 : decode c_Arrays_copyOf 0 = .ok (.iload_n 1, 1) := by decide +kernel
theorem d_Arrays_copyOf_1 : decode c_Arrays_copyOf 1 = .ok (.aload_n 0, 1) := by decide +kernel
theorem d_Arrays_copyOf_2 : decode c_Arrays_copyOf 2 = .ok (.arraylength, 1) := by decide +kernel
theorem d_Arrays_copyOf_3 : decode c_Arrays_copyOf 3 = .ok (.if_icmp .ne 11, 3) := by decide +kernel
theorem d_Arrays_copyOf_6 : decode c_Arrays_copyOf 6 = .ok (.aload_n 0, 1) := by decide +kernel
theorem d_Arrays_copyOf_7 : decode c_Arrays_copyOf 7 = .ok (.invokevirtual 316, 3) := by decide +kernel
theorem d_Arrays_copyOf_10 : decode c_Arrays_copyOf 10 = .ok (.checkcast 317, 3) := by decide +kernel
theorem d_Arrays_copyOf_13 : decode c_Arrays_copyOf 13 = .ok (.areturn, 1) := by decide +kernel
theorem d_Arrays_copyOf_14 : decode c_Arrays_copyOf 14 = .ok (.iload_n 1, 1) := by decide +kernel
theorem d_Arrays_copyOf_15 : decode c_Arrays_copyOf 15 = .ok (.newarray .int, 2) := by decide +kernel
theorem d_Arrays_copyOf_17 : decode c_Arrays_copyOf 17 = .ok (.astore_n 2, 1) := by decide +kernel
theorem d_Arrays_copyOf_18 : decode c_Arrays_copyOf 18 = .ok (.aload_n 0, 1) := by decide +kernel
theorem d_Arrays_copyOf_19 : decode c_Arrays_copyOf 19 = .ok (.iconst 0, 1) := by decide +kernel
theorem d_Arrays_copyOf_20 : decode c_Arrays_copyOf 20 = .ok (.aload_n 2, 1) := by decide +kernel
theorem d_Arrays_copyOf_21 : decode c_Arrays_copyOf 21 = .ok (.iconst 0, 1) := by decide +kernel
theorem d_Arrays_copyOf_22 : decode c_Arrays_copyOf 22 = .ok (.aload_n 0, 1) := by decide +kernel
theorem d_Arrays_copyOf_23 : decode c_Arrays_copyOf 23 = .ok (.arraylength, 1) := by decide +kernel
theorem d_Arrays_copyOf_24 : decode c_Arrays_copyOf 24 = .ok (.iload_n 1, 1) := by decide +kernel
theorem d_Arrays_copyOf_25 : decode c_Arrays_copyOf 25 = .ok (.invokestatic 304, 3) := by decide +kernel
theorem d_Arrays_copyOf_28 : decode c_Arrays_copyOf 28 = .ok (.invokestatic 150, 3) := by decide +kernel
theorem d_Arrays_copyOf_31 : decode c_Arrays_copyOf 31 = .ok (.aload_n 2, 1) := by decide +kernel
theorem d_Arrays_copyOf_32 : decode c_Arrays_copyOf 32 = .ok (.areturn, 1) := by decide +kernel
theorem ec_Arrays_copyOf : Cond.code y_Arrays_copyOf c_Arrays_copyOf 3 (some (.array .int)) ∈ lw_gt := lw_at 816 (by decide +kernel) rfl
theorem eh_Arrays_copyOf : y_Arrays_copyOf.cls ≠ "java/lang/invoke/MethodHandle" ∧ y_Arrays_copyOf.cls ≠ "java/lang/invoke/VarHandle" ∧ (parseMethodDescriptor y_Arrays_copyOf.desc).map (fun d => d.parameters.length) = some 2 := by decide +kernel
theorem es_Arrays_copyOf : Cond.static y_Arrays_copyOf ∈ lw_gt := lw_at 815 (by decide +kernel) rfl
theorem eG_RuleReader_31 {cc : ByteArray} {nL : Nat} {y0 : MethodName} {r0 : Option FieldType} : GoodIn (.code y0 cc nL r0 :: lw_gt) (va_wsS "ErrataRow$RuleReader" 31 y_Arrays_copyOf (.code y_Arrays_copyOf c_Arrays_copyOf 3 (some (.array .int)) :: lw_gt)) := gdS (lw_at 814 (by decide +kernel) rfl) es_Arrays_copyOf ei_Arrays ec_Arrays_copyOf
theorem el_Arrays_316 : Cond.methodLink "java/util/Arrays" 316 ⟨"[I", "clone", "()Ljava/lang/Object;"⟩ ∈ lw_gt := lw_at 817 (by decide +kernel) rfl
theorem ecl_same : Cond.sameMethod "[I" "java/lang/Object" "clone" "()Ljava/lang/Object;" ∈ lw_gt := lw_at 818 (by decide +kernel) rfl
theorem ecl_nat : Cond.native ⟨"java/lang/Object", "clone", "()Ljava/lang/Object;"⟩ ∈ lw_gt := lw_at 819 (by decide +kernel) rfl
theorem ecl_inst : Cond.instanceMethod ⟨"java/lang/Object", "clone", "()Ljava/lang/Object;"⟩ ∈ lw_gt := lw_at 820 (by decide +kernel) rfl
theorem ecl_sel : Cond.selects "[I" ⟨"[I", "clone", "()Ljava/lang/Object;"⟩ ⟨"java/lang/Object", "clone", "()Ljava/lang/Object;"⟩ ∈ lw_gt := lw_at 821 (by decide +kernel) rfl
theorem el_Arrays_304 : Cond.methodLink "java/util/Arrays" 304 Lib.Math.min.name ∈ lw_gt := lw_at 824 (by decide +kernel) rfl
theorem el_Arrays_150 : Cond.methodLink "java/util/Arrays" 150 arraycopyName ∈ lw_gt := lw_at 825 (by decide +kernel) rfl
