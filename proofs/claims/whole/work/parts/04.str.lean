def lenS : List Nat := [8, 12, 6, 0, 15, 5, 3, 9, 14, 13, 4, 8, 7, 6, 13, 7, 13, 10, 2, 2]
def bytS : List (List Int32) := [[66, 101, 99, 97, 117, 115, 101, 32], [65, 110, 100, 32, 98, 101, 99, 97, 117, 115, 101, 32], [84, 104, 117, 115, 44, 32], [], [110, 111, 116, 104, 105, 110, 103, 32, 105, 115, 32, 108, 101, 102, 116], [32, 97, 110, 100, 32], [110, 111, 32], [32, 99, 97, 110, 39, 116, 32, 98, 101], [32, 99, 97, 110, 39, 116, 32, 98, 111, 116, 104, 32, 98, 101], [32, 99, 97, 110, 39, 116, 32, 97, 108, 108, 32, 98, 101], [32, 111, 114, 32], [32, 109, 117, 115, 116, 32, 98, 101], [32, 109, 101, 97, 110, 115, 32], [32, 109, 101, 97, 110, 32], [32, 105, 115, 32, 97, 115, 107, 101, 100, 32, 102, 111, 114], [32, 110, 101, 101, 100, 115, 32], [32, 105, 115, 32, 119, 105, 116, 104, 100, 114, 97, 119, 110], [32, 101, 120, 99, 108, 117, 100, 101, 115, 32], [32, 40], [44, 32]]
def stxS : List (Nat × Nat × String) := [(0, 71, "Because "), (1, 73, "And because "), (2, 75, "Thus, "), (3, 77, ""), (4, 130, "nothing is left"), (5, 61, " and "), (6, 162, "no "), (7, 136, " can't be"), (8, 138, " can't both be"), (9, 140, " can't all be"), (10, 142, " or "), (11, 144, " must be"), (12, 146, " means "), (13, 148, " mean "), (14, 112, " is asked for"), (15, 114, " needs "), (16, 122, " is withdrawn"), (17, 124, " excludes "), (18, 82, " ("), (19, 63, ", ")]
abbrev b_G3_checkIndex : ByteArray := prog_12_method_11_code
def y_G3_checkIndex : MethodName := ⟨"jdk/internal/util/Preconditions", "checkIndex", "(IILjava/util/function/BiFunction;)I"⟩
abbrev ws_G3_checkIndex : List Cond := Cond.code y_G3_checkIndex b_G3_checkIndex 3 (some (FieldType.int)) :: TB
set_option maxRecDepth 100000 in
theorem tc_G3_checkIndex : Cond.code y_G3_checkIndex b_G3_checkIndex 3 (some (FieldType.int)) ∈ TB := inTB 481 rfl rfl
theorem mv_G3_checkIndex : Cond.static y_G3_checkIndex ∈ TB ∧ Cond.initialized "jdk/internal/util/Preconditions" ∈ TB ∧ Cond.code y_G3_checkIndex b_G3_checkIndex 3 (some (FieldType.int)) ∈ TB := ⟨inTB 480 (by decide +kernel) (by decide +kernel), inTB 74 (by decide +kernel) (by decide +kernel), tc_G3_checkIndex⟩
theorem pd_G3_checkIndex : y_G3_checkIndex.cls = "jdk/internal/util/Preconditions" ∧ y_G3_checkIndex.cls ≠ "java/lang/invoke/MethodHandle" ∧ y_G3_checkIndex.cls ≠ "java/lang/invoke/VarHandle" ∧ (parseMethodDescriptor y_G3_checkIndex.desc).map (fun d => d.parameters.length) = some 3 := by decide +kernel
theorem d_G3_checkIndex_0 : decode b_G3_checkIndex 0 = .ok (.iload_n 0, 1) := by decide +kernel
theorem d_G3_checkIndex_1 : decode b_G3_checkIndex 1 = .ok (.ifCond .lt 8, 3) := by decide +kernel
theorem d_G3_checkIndex_4 : decode b_G3_checkIndex 4 = .ok (.iload_n 0, 1) := by decide +kernel
theorem d_G3_checkIndex_5 : decode b_G3_checkIndex 5 = .ok (.iload_n 1, 1) := by decide +kernel
theorem d_G3_checkIndex_6 : decode b_G3_checkIndex 6 = .ok (.if_icmp .lt 10, 3) := by decide +kernel
theorem d_G3_checkIndex_9 : decode b_G3_checkIndex 9 = .ok (.aload_n 2, 1) := by decide +kernel
theorem d_G3_checkIndex_10 : decode b_G3_checkIndex 10 = .ok (.iload_n 0, 1) := by decide +kernel
theorem d_G3_checkIndex_11 : decode b_G3_checkIndex 11 = .ok (.iload_n 1, 1) := by decide +kernel
theorem d_G3_checkIndex_12 : decode b_G3_checkIndex 12 = .ok (.invokestatic 95, 3) := by decide +kernel
theorem d_G3_checkIndex_15 : decode b_G3_checkIndex 15 = .ok (.athrow, 1) := by decide +kernel
theorem d_G3_checkIndex_16 : decode b_G3_checkIndex 16 = .ok (.iload_n 0, 1) := by decide +kernel
theorem d_G3_checkIndex_17 : decode b_G3_checkIndex 17 = .ok (.ireturn, 1) := by decide +kernel
abbrev rm_G3_checkIndex : Room := { frames := 0, cells := 0, slots := 0, locals := 0 }
abbrev b_G_checkIndex : ByteArray := prog_8_method_155_code
def y_G_checkIndex : MethodName := ⟨"java/lang/String", "checkIndex", "(II)V"⟩
abbrev ws_G_checkIndex : List Cond := Cond.code y_G_checkIndex b_G_checkIndex 2 (none) :: TB
set_option maxRecDepth 100000 in
theorem tc_G_checkIndex : Cond.code y_G_checkIndex b_G_checkIndex 2 (none) ∈ TB := inTB 476 rfl rfl
theorem mv_G_checkIndex : Cond.static y_G_checkIndex ∈ TB ∧ Cond.initialized "java/lang/String" ∈ TB ∧ Cond.code y_G_checkIndex b_G_checkIndex 2 (none) ∈ TB := ⟨inTB 475 (by decide +kernel) (by decide +kernel), inTB 72 (by decide +kernel) (by decide +kernel), tc_G_checkIndex⟩
theorem pd_G_checkIndex : y_G_checkIndex.cls = "java/lang/String" ∧ y_G_checkIndex.cls ≠ "java/lang/invoke/MethodHandle" ∧ y_G_checkIndex.cls ≠ "java/lang/invoke/VarHandle" ∧ (parseMethodDescriptor y_G_checkIndex.desc).map (fun d => d.parameters.length) = some 2 := by decide +kernel
theorem d_G_checkIndex_0 : decode b_G_checkIndex 0 = .ok (.iload_n 0, 1) := by decide +kernel
theorem d_G_checkIndex_1 : decode b_G_checkIndex 1 = .ok (.iload_n 1, 1) := by decide +kernel
theorem d_G_checkIndex_2 : decode b_G_checkIndex 2 = .ok (.getstatic 1053, 3) := by decide +kernel
theorem d_G_checkIndex_5 : decode b_G_checkIndex 5 = .ok (.invokestatic 1059, 3) := by decide +kernel
theorem d_G_checkIndex_8 : decode b_G_checkIndex 8 = .ok (.pop, 1) := by decide +kernel
theorem d_G_checkIndex_9 : decode b_G_checkIndex 9 = .ok (.return_, 1) := by decide +kernel
abbrev rm_G_checkIndex : Room := { frames := 1, cells := 0, slots := 0, locals := 22 }
abbrev b_G1_charAt : ByteArray := prog_9_method_2_code
def y_G1_charAt : MethodName := ⟨"java/lang/StringLatin1", "charAt", "([BI)C"⟩
abbrev ws_G1_charAt : List Cond := Cond.code y_G1_charAt b_G1_charAt 2 (some (FieldType.char)) :: TB
set_option maxRecDepth 100000 in
theorem tc_G1_charAt : Cond.code y_G1_charAt b_G1_charAt 2 (some (FieldType.char)) ∈ TB := inTB 473 rfl rfl
theorem mv_G1_charAt : Cond.static y_G1_charAt ∈ TB ∧ Cond.initialized "java/lang/StringLatin1" ∈ TB ∧ Cond.code y_G1_charAt b_G1_charAt 2 (some (FieldType.char)) ∈ TB := ⟨inTB 472 (by decide +kernel) (by decide +kernel), inTB 73 (by decide +kernel) (by decide +kernel), tc_G1_charAt⟩
theorem pd_G1_charAt : y_G1_charAt.cls = "java/lang/StringLatin1" ∧ y_G1_charAt.cls ≠ "java/lang/invoke/MethodHandle" ∧ y_G1_charAt.cls ≠ "java/lang/invoke/VarHandle" ∧ (parseMethodDescriptor y_G1_charAt.desc).map (fun d => d.parameters.length) = some 2 := by decide +kernel
theorem d_G1_charAt_0 : decode b_G1_charAt 0 = .ok (.iload_n 1, 1) := by decide +kernel
theorem d_G1_charAt_1 : decode b_G1_charAt 1 = .ok (.aload_n 0, 1) := by decide +kernel
theorem d_G1_charAt_2 : decode b_G1_charAt 2 = .ok (.arraylength, 1) := by decide +kernel
theorem d_G1_charAt_3 : decode b_G1_charAt 3 = .ok (.invokestatic 9, 3) := by decide +kernel
theorem d_G1_charAt_6 : decode b_G1_charAt 6 = .ok (.aload_n 0, 1) := by decide +kernel
theorem d_G1_charAt_7 : decode b_G1_charAt 7 = .ok (.iload_n 1, 1) := by decide +kernel
theorem d_G1_charAt_8 : decode b_G1_charAt 8 = .ok (.baload, 1) := by decide +kernel
theorem d_G1_charAt_9 : decode b_G1_charAt 9 = .ok (.sipush 255, 3) := by decide +kernel
theorem d_G1_charAt_12 : decode b_G1_charAt 12 = .ok (.iand, 1) := by decide +kernel
theorem d_G1_charAt_13 : decode b_G1_charAt 13 = .ok (.i2c, 1) := by decide +kernel
theorem d_G1_charAt_14 : decode b_G1_charAt 14 = .ok (.ireturn, 1) := by decide +kernel
abbrev rm_G1_charAt : Room := { frames := 2, cells := 0, slots := 0, locals := 43 }
abbrev b_G_isLatin1 : ByteArray := prog_8_method_154_code
def y_G_isLatin1 : MethodName := ⟨"java/lang/String", "isLatin1", "()Z"⟩
abbrev ws_G_isLatin1 : List Cond := Cond.code y_G_isLatin1 b_G_isLatin1 1 (some (FieldType.boolean)) :: TB
set_option maxRecDepth 100000 in
theorem tc_G_isLatin1 : Cond.code y_G_isLatin1 b_G_isLatin1 1 (some (FieldType.boolean)) ∈ TB := inTB 470 rfl rfl
theorem mv_G_isLatin1 : Cond.instanceMethod y_G_isLatin1 ∈ TB ∧ Cond.selects "java/lang/String" y_G_isLatin1 y_G_isLatin1 ∈ TB ∧ Cond.initialized "java/lang/String" ∈ TB ∧ Cond.code y_G_isLatin1 b_G_isLatin1 1 (some (FieldType.boolean)) ∈ TB := ⟨inTB 468 (by decide +kernel) (by decide +kernel), inTB 469 (by decide +kernel) (by decide +kernel), inTB 72 (by decide +kernel) (by decide +kernel), tc_G_isLatin1⟩
theorem pd_G_isLatin1 : y_G_isLatin1.cls = "java/lang/String" ∧ y_G_isLatin1.cls ≠ "java/lang/invoke/MethodHandle" ∧ y_G_isLatin1.cls ≠ "java/lang/invoke/VarHandle" ∧ (parseMethodDescriptor y_G_isLatin1.desc).map (fun d => d.parameters.length) = some 0 := by decide +kernel
theorem d_G_isLatin1_0 : decode b_G_isLatin1 0 = .ok (.getstatic 38, 3) := by decide +kernel
theorem d_G_isLatin1_3 : decode b_G_isLatin1 3 = .ok (.ifCond .eq 14, 3) := by decide +kernel
theorem d_G_isLatin1_6 : decode b_G_isLatin1 6 = .ok (.aload_n 0, 1) := by decide +kernel
theorem d_G_isLatin1_7 : decode b_G_isLatin1 7 = .ok (.getfield 15, 3) := by decide +kernel
theorem d_G_isLatin1_10 : decode b_G_isLatin1 10 = .ok (.ifCond .ne 7, 3) := by decide +kernel
theorem d_G_isLatin1_13 : decode b_G_isLatin1 13 = .ok (.iconst 1, 1) := by decide +kernel
theorem d_G_isLatin1_14 : decode b_G_isLatin1 14 = .ok (.goto 4, 3) := by decide +kernel
theorem d_G_isLatin1_17 : decode b_G_isLatin1 17 = .ok (.iconst 0, 1) := by decide +kernel
theorem d_G_isLatin1_18 : decode b_G_isLatin1 18 = .ok (.ireturn, 1) := by decide +kernel
abbrev rm_G_isLatin1 : Room := { frames := 0, cells := 0, slots := 0, locals := 0 }
abbrev b_G_coder : ByteArray := prog_8_method_152_code
def y_G_coder : MethodName := ⟨"java/lang/String", "coder", "()B"⟩
abbrev ws_G_coder : List Cond := Cond.code y_G_coder b_G_coder 1 (some (FieldType.byte)) :: TB
set_option maxRecDepth 100000 in
theorem tc_G_coder : Cond.code y_G_coder b_G_coder 1 (some (FieldType.byte)) ∈ TB := inTB 460 rfl rfl
theorem mv_G_coder : Cond.instanceMethod y_G_coder ∈ TB ∧ Cond.selects "java/lang/String" y_G_coder y_G_coder ∈ TB ∧ Cond.initialized "java/lang/String" ∈ TB ∧ Cond.code y_G_coder b_G_coder 1 (some (FieldType.byte)) ∈ TB := ⟨inTB 458 (by decide +kernel) (by decide +kernel), inTB 459 (by decide +kernel) (by decide +kernel), inTB 72 (by decide +kernel) (by decide +kernel), tc_G_coder⟩
theorem pd_G_coder : y_G_coder.cls = "java/lang/String" ∧ y_G_coder.cls ≠ "java/lang/invoke/MethodHandle" ∧ y_G_coder.cls ≠ "java/lang/invoke/VarHandle" ∧ (parseMethodDescriptor y_G_coder.desc).map (fun d => d.parameters.length) = some 0 := by decide +kernel
theorem d_G_coder_0 : decode b_G_coder 0 = .ok (.getstatic 38, 3) := by decide +kernel
theorem d_G_coder_3 : decode b_G_coder 3 = .ok (.ifCond .eq 10, 3) := by decide +kernel
theorem d_G_coder_6 : decode b_G_coder 6 = .ok (.aload_n 0, 1) := by decide +kernel
theorem d_G_coder_7 : decode b_G_coder 7 = .ok (.getfield 15, 3) := by decide +kernel
theorem d_G_coder_10 : decode b_G_coder 10 = .ok (.goto 4, 3) := by decide +kernel
theorem d_G_coder_13 : decode b_G_coder 13 = .ok (.iconst 1, 1) := by decide +kernel
theorem d_G_coder_14 : decode b_G_coder 14 = .ok (.ireturn, 1) := by decide +kernel
abbrev rm_G_coder : Room := { frames := 0, cells := 0, slots := 0, locals := 0 }
abbrev b_G_length : ByteArray := prog_8_method_54_code
def y_G_length : MethodName := ⟨"java/lang/String", "length", "()I"⟩
abbrev ws_G_length : List Cond := Cond.code y_G_length b_G_length 1 (some (FieldType.int)) :: TB
set_option maxRecDepth 100000 in
theorem tc_G_length : Cond.code y_G_length b_G_length 1 (some (FieldType.int)) ∈ TB := inTB 456 rfl rfl
theorem mv_G_length : Cond.instanceMethod y_G_length ∈ TB ∧ Cond.selects "java/lang/String" y_G_length y_G_length ∈ TB ∧ Cond.initialized "java/lang/String" ∈ TB ∧ Cond.code y_G_length b_G_length 1 (some (FieldType.int)) ∈ TB := ⟨inTB 454 (by decide +kernel) (by decide +kernel), inTB 455 (by decide +kernel) (by decide +kernel), inTB 72 (by decide +kernel) (by decide +kernel), tc_G_length⟩
theorem pd_G_length : y_G_length.cls = "java/lang/String" ∧ y_G_length.cls ≠ "java/lang/invoke/MethodHandle" ∧ y_G_length.cls ≠ "java/lang/invoke/VarHandle" ∧ (parseMethodDescriptor y_G_length.desc).map (fun d => d.parameters.length) = some 0 := by decide +kernel
theorem d_G_length_0 : decode b_G_length 0 = .ok (.aload_n 0, 1) := by decide +kernel
theorem d_G_length_1 : decode b_G_length 1 = .ok (.getfield 9, 3) := by decide +kernel
theorem d_G_length_4 : decode b_G_length 4 = .ok (.arraylength, 1) := by decide +kernel
theorem d_G_length_5 : decode b_G_length 5 = .ok (.aload_n 0, 1) := by decide +kernel
theorem d_G_length_6 : decode b_G_length 6 = .ok (.invokevirtual 335, 3) := by decide +kernel
theorem d_G_length_9 : decode b_G_length 9 = .ok (.ishr, 1) := by decide +kernel
theorem d_G_length_10 : decode b_G_length 10 = .ok (.ireturn, 1) := by decide +kernel
abbrev rm_G_length : Room := { frames := 1, cells := 0, slots := 0, locals := 20 }
abbrev b_G_charAt : ByteArray := prog_8_method_56_code
def y_G_charAt : MethodName := ⟨"java/lang/String", "charAt", "(I)C"⟩
abbrev ws_G_charAt : List Cond := Cond.code y_G_charAt b_G_charAt 2 (some (FieldType.char)) :: TB
set_option maxRecDepth 100000 in
theorem tc_G_charAt : Cond.code y_G_charAt b_G_charAt 2 (some (FieldType.char)) ∈ TB := inTB 466 rfl rfl
theorem mv_G_charAt : Cond.instanceMethod y_G_charAt ∈ TB ∧ Cond.selects "java/lang/String" y_G_charAt y_G_charAt ∈ TB ∧ Cond.initialized "java/lang/String" ∈ TB ∧ Cond.code y_G_charAt b_G_charAt 2 (some (FieldType.char)) ∈ TB := ⟨inTB 464 (by decide +kernel) (by decide +kernel), inTB 465 (by decide +kernel) (by decide +kernel), inTB 72 (by decide +kernel) (by decide +kernel), tc_G_charAt⟩
theorem pd_G_charAt : y_G_charAt.cls = "java/lang/String" ∧ y_G_charAt.cls ≠ "java/lang/invoke/MethodHandle" ∧ y_G_charAt.cls ≠ "java/lang/invoke/VarHandle" ∧ (parseMethodDescriptor y_G_charAt.desc).map (fun d => d.parameters.length) = some 1 := by decide +kernel
theorem d_G_charAt_0 : decode b_G_charAt 0 = .ok (.aload_n 0, 1) := by decide +kernel
theorem d_G_charAt_1 : decode b_G_charAt 1 = .ok (.invokevirtual 492, 3) := by decide +kernel
theorem d_G_charAt_4 : decode b_G_charAt 4 = .ok (.ifCond .eq 12, 3) := by decide +kernel
theorem d_G_charAt_7 : decode b_G_charAt 7 = .ok (.aload_n 0, 1) := by decide +kernel
theorem d_G_charAt_8 : decode b_G_charAt 8 = .ok (.getfield 9, 3) := by decide +kernel
theorem d_G_charAt_11 : decode b_G_charAt 11 = .ok (.iload_n 1, 1) := by decide +kernel
theorem d_G_charAt_12 : decode b_G_charAt 12 = .ok (.invokestatic 495, 3) := by decide +kernel
theorem d_G_charAt_15 : decode b_G_charAt 15 = .ok (.ireturn, 1) := by decide +kernel
theorem d_G_charAt_16 : decode b_G_charAt 16 = .ok (.aload_n 0, 1) := by decide +kernel
theorem d_G_charAt_17 : decode b_G_charAt 17 = .ok (.getfield 9, 3) := by decide +kernel
theorem d_G_charAt_20 : decode b_G_charAt 20 = .ok (.iload_n 1, 1) := by decide +kernel
theorem d_G_charAt_21 : decode b_G_charAt 21 = .ok (.invokestatic 498, 3) := by decide +kernel
theorem d_G_charAt_24 : decode b_G_charAt 24 = .ok (.ireturn, 1) := by decide +kernel
abbrev rm_G_charAt : Room := { frames := 3, cells := 0, slots := 0, locals := 64 }
theorem tw_FMT : Cond.fieldLink "java/lang/String" 1053 "jdk/internal/util/Preconditions" "SIOOBE_FORMATTER" "Ljava/util/function/BiFunction;" ∈ TB := inTB 477 (by decide +kernel) (by decide +kernel)
theorem tw_CPS : Cond.fieldLink "java/lang/String" 38 "java/lang/String" "COMPACT_STRINGS" "Z" ∈ TB := inTB 461 (by decide +kernel) (by decide +kernel)
theorem tw_COD : Cond.fieldLink "java/lang/String" 15 "java/lang/String" "coder" "B" ∈ TB := inTB 1006 (by decide +kernel) (by decide +kernel)
theorem tw_VAL : Cond.fieldLink "java/lang/String" 9 "java/lang/String" "value" "[B" ∈ TB := inTB 1005 (by decide +kernel) (by decide +kernel)
theorem tw_CKI : Cond.methodLink "java/lang/String" 1059 ⟨"jdk/internal/util/Preconditions", "checkIndex", "(IILjava/util/function/BiFunction;)I"⟩ ∈ TB := inTB 479 (by decide +kernel) (by decide +kernel)
theorem tw_CKL : Cond.methodLink "java/lang/StringLatin1" 9 ⟨"java/lang/String", "checkIndex", "(II)V"⟩ ∈ TB := inTB 474 (by decide +kernel) (by decide +kernel)
theorem tw_MCO : Cond.methodLink "java/lang/String" 335 ⟨"java/lang/String", "coder", "()B"⟩ ∈ TB := inTB 457 (by decide +kernel) (by decide +kernel)
theorem tw_MIL : Cond.methodLink "java/lang/String" 492 ⟨"java/lang/String", "isLatin1", "()Z"⟩ ∈ TB := inTB 467 (by decide +kernel) (by decide +kernel)
theorem tw_MLC : Cond.methodLink "java/lang/String" 495 ⟨"java/lang/StringLatin1", "charAt", "([BI)C"⟩ ∈ TB := inTB 471 (by decide +kernel) (by decide +kernel)
/-! texts: constants of the launch, outside every world -/
section GWT
variable {p : Program} {l : Launch} {e : Env} {R : Room} {s : State} {m : MethodId} {args : Array Value} {below : List Frame} {meth : Method} {c : Code} {Q : State → Prop} {D : va_G} {cl : List vw_C} {tys : List (ClassId × FieldType)} {A : Nat → Prop} {nL cells slots : Nat} {w : va_W} {pc : Nat} {lv lv' : List (Nat × Value)} {st : List Value} {cc : ByteArray} {ret : Option FieldType} {own : String} {Ts : List Cond} {Z : gw_Z}
theorem gw_gets (C : GC p s m args meth c cc nL ret own Ts D cl tys A Z) {Cn n d : String} {v : Value} {index : Nat} (hz : va_Z Cn n d v A s s.heap) (hlink : Cond.fieldLink own index Cn n d ∈ Ts) (hd : decode cc pc = .ok (.getstatic index, 3)) (k : GW p l e R s m args below meth c Q D cl A nL cells slots w (pc + 3) lv (v :: st)) : GW p l e R s m args below meth c Q D cl A nL cells slots w pc lv st :=
  fun H locs ls hP hD hS hl => va_gets C.1 C.2.1 hz hS C.2.2.2.1 (C.2.2.2.2.1 _ hlink) (fun _ h => h) hd (k H locs ls hP hD hS hl)
theorem gw_vget (C : GC p s m args meth c cc nL ret own Ts D cl tys A Z) {o n d : String} {v : Value} {index q : Nat} (hz : va_OF o n d v q A s s.heap) (hlink : Cond.fieldLink own index o n d ∈ Ts) (hd : decode cc pc = .ok (.getfield index, 3)) (k : GW p l e R s m args below meth c Q D cl A nL cells slots w (pc + 3) lv (v :: st)) : GW p l e R s m args below meth c Q D cl A nL cells slots w pc lv (.ref q :: st) :=
  fun H locs ls hP hD hS hl => vk_getf C.1 C.2.1 hz hS C.2.2.2.1 (C.2.2.2.2.1 _ hlink) (fun _ h => h) hd (k H locs ls hP hD hS hl)
theorem gw_tb (C : GC p s m args meth c cc nL ret own Ts D cl tys A Z) {t N : Nat} {f : Nat → Value} (hT : va_T .byte t N f A s s.heap) {i : Int32} (hin : vp_in i N) {v : Value} (hv : f i.toNatClampNeg = v) (hd : decode cc pc = .ok (.baload, 1)) (k : GW p l e R s m args below meth c Q D cl A nL cells slots w (pc + 1) lv (v :: st)) : GW p l e R s m args below meth c Q D cl A nL cells slots w pc lv (.int i :: .ref t :: st) :=
  fun H locs ls hP hD hS hl => va_tb C.1 C.2.1 hT hS hin hv hd (k H locs ls hP hD hS hl)
theorem gw_tlen (C : GC p s m args meth c cc nL ret own Ts D cl tys A Z) {ty : FieldType} {t N : Nat} {f : Nat → Value} (hT : va_T ty t N f A s s.heap) {v : Int32} (hv : Int32.ofNat N = v) (hd : decode cc pc = .ok (.arraylength, 1)) (k : GW p l e R s m args below meth c Q D cl A nL cells slots w (pc + 1) lv (.int v :: st)) : GW p l e R s m args below meth c Q D cl A nL cells slots w pc lv (.ref t :: st) :=
  fun H locs ls hP hD hS hl => va_tlen C.1 C.2.1 hT hS hv hd (k H locs ls hP hD hS hl)
theorem gw_ldcS (C : GC p s m args meth c cc nL ret own Ts D cl tys A Z) {tx : String} {index q : Nat} (hz : vk_R own index tx q s) (hd : decode cc pc = .ok (.ldc index, 2)) (k : GW p l e R s m args below meth c Q D cl A nL cells slots w (pc + 2) lv (.ref q :: st)) : GW p l e R s m args below meth c Q D cl A nL cells slots w pc lv st :=
  fun H locs ls hP hD hS hl => va_ldcS C.1 C.2.1 C.2.2.2.1 hz hd (k H locs ls hP hD hS hl)
theorem gw_areti {cn : String} (C : GC p s m args meth c cc nL (some (.object cn)) own Ts D cl tys A Z) {v r : Nat} {M M' : Mem} (hd : decode cc pc = .ok (.areturn, 1)) (wd : Mem → va_W) (sk : Nat → Nat) (hf : some (v, M) = some (r, M')) : GW p l e R s m args below meth c (MQ below (QW D cl tys A (some (.ref (sk r))) (wd M')) args s cells slots A) D cl A nL cells slots (wd M) pc lv [.ref (sk v)] := by
  cases hf
  exact fun _ _ _ hP hD hS _ => W.aret C.1 C.2.1 C.2.2.2.2.2.2.2.1 (Or.inl ⟨cn, rfl⟩) (Or.inr ⟨_, rfl⟩) (fun t ht hW => ⟨rfl, by rw [ht]; exact hP, va_K.moved hW.alike C.2.2.2.2.2.1, hD, hS.F ht⟩) hS.2.2 hd C.2.2.2.2.2.2.1
variable {y : MethodName} {bytes : ByteArray} {maxL n index : Nat} {retc : Option FieldType} {ws : List Cond} {rm : Room} {As rest : List Value} {v : Value} {w' : va_W} {C' : String}
/-- a call whose receiver isn't of the world -/
theorem gw_callVX (C : GC p s m args meth c cc nL ret own Ts D cl tys A Z) {b : Nat} (hrc : ∀ (H : Heap) (locs : List Loc), va_S A s.heap H locs → ∃ cell : Cell, H[b]? = some cell ∧ cell.vm.isStatics = false ∧ s.vm.findClass C' = some cell.cls) (hM : CW l y ws rm D cl tys Z (.ref b :: As) w (some v) w' 0 0) (cw : CallW R s args own C' index y bytes maxL retc ws rm 0 0 n)
    (hn : As.length = n) (hst : st = As.reverse ++ .ref b :: rest) (hroom : (rest.map fun v => v.category).sum ≤ 8) (hd : decode cc pc = .ok (.invokevirtual index, 3)) (hf : cells ≤ R.cells ∧ slots ≤ R.slots)
    (k : GW p l e R s m args below meth c Q D cl A nL cells slots w' (pc + 3) lv (v :: rest)) : GW p l e R s m args below meth c Q D cl A nL cells slots w pc lv st :=
  gw_call (mc := 0) (ms2 := 0) C.2.2.2.2.2.2.2.2.1 (fun H locs ls hP hD hS hl => va_runV ⟨C.1, C.2.1, C.2.2.1, C.2.2.2.1, C.2.2.2.2.1⟩ (hM H.size) cw ⟨gw_pre C.2.2.2.2.2.2.2.2.2.2, hrc H locs hS, gw_at C hP hD hS⟩ rfl hn hl.1 hst (lv_room hroom) hd hf) k
end GWT
def slen (i : Nat) : Nat := lenS.getD i 0
def sch (i j : Nat) : Int32 := (bytS.getD i []).getD j 0
/-- what the launch gives of the texts: their cells, that ldc answers them, and two statics -/
def ZS (sk sv : Nat → Nat) : gw_Z := fun A U H => vk_S 20 lenS bytS sk sv A U H ∧ (∀ q ∈ stxS, vk_R "NoneWords$Speech" q.2.1 q.2.2 (sk q.1) U) ∧ va_Z "java/lang/String" "COMPACT_STRINGS" "Z" (.int 1) A U H ∧ va_Zq "jdk/internal/util/Preconditions" "SIOOBE_FORMATTER" "Ljava/util/function/BiFunction;" A U H
theorem va_Z_same {C n d : String} {v : Value} {A : Nat → Prop} {u U : State} {H : Heap} (hv : U.vm = u.vm) (h : va_Z C n d v A u H) : va_Z C n d v A U H := h.moved (by rw [hv]; exact Vm.Alike.refl _)
theorem ZS_ok (sk sv : Nat → Nat) : gw_ZOK (ZS sk sv) := by
  refine ⟨fun A B u U H H1 hW hAB hk h => ?_, fun A u U H hv h => ?_⟩
  · obtain ⟨h1, h2, h3, h4⟩ := h
    exact ⟨((h1.moved hW.alike).kept hk).narrow hAB, fun q hq => (h2 q hq).warm hW, ((h3.moved hW.alike).kept hk).narrow hAB, ((h4.moved hW.alike).kept hk).narrow hAB⟩
  · obtain ⟨h1, h2, h3, h4⟩ := h
    have ha : u.vm.Alike U.vm := by rw [hv]; exact Vm.Alike.refl _
    exact ⟨h1.moved ha, fun q hq => (h2 q hq).same hv, h3.moved ha, h4.moved ha⟩
theorem slen_lt : ∀ i, i < 20 → slen i < 2 ^ 31 := by decide +kernel
theorem slen_len : ∀ i, i < 20 → slen i = (bytS.getD i []).length := by decide +kernel
theorem sch_c : ∀ b ∈ bytS.flatten, narrow .char (.int ((b &&& 255).toUInt32 % 65536).toInt32) = .int b ∧ ((b &&& 255).toUInt32 % 65536).toInt32 = b := by decide +kernel
theorem sch_mem {i j : Nat} (hi : i < 20) (hj : j < slen i) : sch i j ∈ bytS.flatten := by
  have hl : (bytS.getD i []).length = slen i := (slen_len i hi).symm
  refine List.mem_flatten.mpr ⟨bytS.getD i [], ?_, ?_⟩
  · have : i < bytS.length := by rw [show bytS.length = 20 from rfl]; exact hi
    rw [List.getD_eq_getElem?_getD, List.getElem?_eq_getElem this]
    exact List.getElem_mem this
  · unfold sch
    have : j < (bytS.getD i []).length := by omega
    rw [List.getD_eq_getElem?_getD (l := bytS.getD i []), List.getElem?_eq_getElem this]
    exact List.getElem_mem this
section STR
variable {l : Launch} {D : va_G} {cl : List vw_C} {tys : List (ClassId × FieldType)} {sk sv : Nat → Nat} {w : va_W}
set_option maxRecDepth 100000 in
theorem c_G3_checkIndex {Z : gw_Z} (hZ : gw_ZOK Z) {i n : Nat} {v : Value} (hv : v = .null ∨ ∃ t, v = .ref t) (hi : i < n) (hn : n < 2 ^ 31) : CW l y_G3_checkIndex ws_G3_checkIndex rm_G3_checkIndex D cl tys Z [.int (nI i), .int (nI n), v] w (some (.int (nI i))) w 0 0 := by
  rcases hv with rfl | ⟨t, rfl⟩
  · refine CW.ofG hZ (by decide) rfl (Nat.le_of_ble_eq_true rfl) (fun p e s m below meth c A C _ => ?_)
    refine gw_iload_n C 0 d_G3_checkIndex_0 rfl rfl ?_
    refine gw_if_lt (tgt := 9) C d_G3_checkIndex_1 (by decide) (fun c => absurd c (nI_pos (by omega))) (fun c => ?_)
    refine gw_iload_n C 0 d_G3_checkIndex_4 rfl rfl ?_
    refine gw_iload_n C 1 d_G3_checkIndex_5 rfl rfl ?_
    refine gw_icmp_lt (tgt := 16) C d_G3_checkIndex_6 (by decide) (fun c => ?_) (fun c => absurd (nI_lt hi hn) c)
    refine gw_iload_n C 0 d_G3_checkIndex_16 rfl rfl ?_
    exact gw_iret C d_G3_checkIndex_17
  · refine CW.ofG hZ (by decide) rfl (Nat.le_of_ble_eq_true rfl) (fun p e s m below meth c A C _ => ?_)
    refine gw_iload_n C 0 d_G3_checkIndex_0 rfl rfl ?_
    refine gw_if_lt (tgt := 9) C d_G3_checkIndex_1 (by decide) (fun c => absurd c (nI_pos (by omega))) (fun c => ?_)
    refine gw_iload_n C 0 d_G3_checkIndex_4 rfl rfl ?_
    refine gw_iload_n C 1 d_G3_checkIndex_5 rfl rfl ?_
    refine gw_icmp_lt (tgt := 16) C d_G3_checkIndex_6 (by decide) (fun c => ?_) (fun c => absurd (nI_lt hi hn) c)
    refine gw_iload_n C 0 d_G3_checkIndex_16 rfl rfl ?_
    exact gw_iret C d_G3_checkIndex_17
set_option maxRecDepth 100000 in
theorem c_G_checkIndex {i n : Nat} (hi : i < n) (hn : n < 2 ^ 31) : CW l y_G_checkIndex ws_G_checkIndex rm_G_checkIndex D cl tys (ZS sk sv) [.int (nI i), .int (nI n)] w none w 0 0 := by
  refine CW.ofG (ZS_ok sk sv) (by decide) rfl (Nat.le_of_ble_eq_true rfl) (fun p e s m below meth c A C _ => ?_)
  refine gw_iload_n C 0 d_G_checkIndex_0 rfl rfl ?_
  refine gw_iload_n C 1 d_G_checkIndex_1 rfl rfl ?_
  have hz := C.2.2.2.2.2.2.2.2.2.1.2.2.2
  rcases hz with hz | ⟨t, hz⟩
  · refine gw_gets C hz tw_FMT d_G_checkIndex_2 ?_
    refine gw_callSr (rest := []) C (c_G3_checkIndex (ZS_ok sk sv) (Or.inl rfl) hi hn) (va_cwS 3 C.2.2.2.2.1 (gTB_vS rfl tw_CKI mv_G3_checkIndex) rfl rfl rfl pd_G3_checkIndex.2 ⟨Nat.le_of_ble_eq_true rfl, Nat.le_of_ble_eq_true rfl⟩) rfl rfl (Nat.le_of_ble_eq_true rfl) d_G_checkIndex_5 ⟨Nat.le_of_ble_eq_true rfl, Nat.le_of_ble_eq_true rfl⟩ ?_
    refine gw_pop C d_G_checkIndex_8 rfl ?_
    exact gw_vret C d_G_checkIndex_9
  · refine gw_gets C hz tw_FMT d_G_checkIndex_2 ?_
    refine gw_callSr (rest := []) C (c_G3_checkIndex (ZS_ok sk sv) (Or.inr ⟨t, rfl⟩) hi hn) (va_cwS 3 C.2.2.2.2.1 (gTB_vS rfl tw_CKI mv_G3_checkIndex) rfl rfl rfl pd_G3_checkIndex.2 ⟨Nat.le_of_ble_eq_true rfl, Nat.le_of_ble_eq_true rfl⟩) rfl rfl (Nat.le_of_ble_eq_true rfl) d_G_checkIndex_5 ⟨Nat.le_of_ble_eq_true rfl, Nat.le_of_ble_eq_true rfl⟩ ?_
    refine gw_pop C d_G_checkIndex_8 rfl ?_
    exact gw_vret C d_G_checkIndex_9
set_option maxRecDepth 100000 in
theorem c_G1_charAt {i j : Nat} (hi : i < 20) (hj : j < slen i) : CW l y_G1_charAt ws_G1_charAt rm_G1_charAt D cl tys (ZS sk sv) [.ref (sv i), .int (nI j)] w (some (.int (sch i j))) w 0 0 := by
  refine CW.ofG (ZS_ok sk sv) (by decide) rfl (Nat.le_of_ble_eq_true rfl) (fun p e s m below meth c A C _ => ?_)
  have hn := slen_lt i hi
  have hT := (C.2.2.2.2.2.2.2.2.2.1.1.1 i hi).2.2.2
  refine gw_iload_n C 1 d_G1_charAt_0 rfl rfl ?_
  refine gw_aload_n C 0 d_G1_charAt_1 rfl rfl ?_
  refine gw_tlen (v := nI (slen i)) C hT rfl d_G1_charAt_2 ?_
  refine gw_callSv (rest := []) C (c_G_checkIndex hj hn) (va_cwS 2 C.2.2.2.2.1 (gTB_vS rfl tw_CKL mv_G_checkIndex) rfl rfl rfl pd_G_checkIndex.2 ⟨Nat.le_of_ble_eq_true rfl, Nat.le_of_ble_eq_true rfl⟩) rfl rfl (Nat.le_of_ble_eq_true rfl) d_G1_charAt_3 ⟨Nat.le_of_ble_eq_true rfl, Nat.le_of_ble_eq_true rfl⟩ ?_
  refine gw_aload_n C 0 d_G1_charAt_6 rfl rfl ?_
  refine gw_iload_n C 1 d_G1_charAt_7 rfl rfl ?_
  refine gw_tb (v := .int (sch i j)) C hT (vp_in_nI hj hn) (by rw [nI_clamp (by omega)]; rfl) d_G1_charAt_8 ?_
  refine gw_sipush (v := 255) C d_G1_charAt_9 (by decide) ?_
  refine gw_iand C d_G1_charAt_12 ?_
  refine gw_i2c C d_G1_charAt_13 ?_
  have h := sch_c _ (sch_mem hi hj)
  have h2 := h.2
  rw [h2] at h
  rw [h2]
  exact gw_zret C h.1 d_G1_charAt_14
set_option maxRecDepth 100000 in
theorem c_G_isLatin1 {i : Nat} (hi : i < 20) : CW l y_G_isLatin1 ws_G_isLatin1 rm_G_isLatin1 D cl tys (ZS sk sv) [.ref (sk i)] w (some (.int 1)) w 0 0 := by
  refine CW.ofG (ZS_ok sk sv) (by decide) rfl (Nat.le_of_ble_eq_true rfl) (fun p e s m below meth c A C _ => ?_)
  refine gw_gets C C.2.2.2.2.2.2.2.2.2.1.2.2.1 tw_CPS d_G_isLatin1_0 ?_
  refine gw_if_eq (tgt := 17) C d_G_isLatin1_3 (by decide) (fun c => absurd c (by decide)) (fun c => ?_)
  refine gw_aload_n C 0 d_G_isLatin1_6 rfl rfl ?_
  refine gw_vget C (C.2.2.2.2.2.2.2.2.2.1.1.1 i hi).2.1 tw_COD d_G_isLatin1_7 ?_
  refine gw_if_ne (tgt := 17) C d_G_isLatin1_10 (by decide) (fun c => absurd rfl c) (fun c => ?_)
  refine gw_iconst (v := 1) C d_G_isLatin1_13 (by decide) ?_
  refine gw_goto (tgt := 18) C d_G_isLatin1_14 (by decide) ?_
  exact gw_zret C (by decide) d_G_isLatin1_18
set_option maxRecDepth 100000 in
theorem c_G_coder {i : Nat} (hi : i < 20) : CW l y_G_coder ws_G_coder rm_G_coder D cl tys (ZS sk sv) [.ref (sk i)] w (some (.int 0)) w 0 0 := by
  refine CW.ofG (ZS_ok sk sv) (by decide) rfl (Nat.le_of_ble_eq_true rfl) (fun p e s m below meth c A C _ => ?_)
  refine gw_gets C C.2.2.2.2.2.2.2.2.2.1.2.2.1 tw_CPS d_G_coder_0 ?_
  refine gw_if_eq (tgt := 13) C d_G_coder_3 (by decide) (fun c => absurd c (by decide)) (fun c => ?_)
  refine gw_aload_n C 0 d_G_coder_6 rfl rfl ?_
  refine gw_vget C (C.2.2.2.2.2.2.2.2.2.1.1.1 i hi).2.1 tw_COD d_G_coder_7 ?_
  refine gw_goto (tgt := 14) C d_G_coder_10 (by decide) ?_
  exact gw_zret C (by decide) d_G_coder_14
set_option maxRecDepth 100000 in
theorem c_G_length {i : Nat} (hi : i < 20) : CW l y_G_length ws_G_length rm_G_length D cl tys (ZS sk sv) [.ref (sk i)] w (some (.int (nI (slen i)))) w 0 0 := by
  refine CW.ofG (ZS_ok sk sv) (by decide) rfl (Nat.le_of_ble_eq_true rfl) (fun p e s m below meth c A C _ => ?_)
  have hz := C.2.2.2.2.2.2.2.2.2.1.1
  refine gw_aload_n C 0 d_G_length_0 rfl rfl ?_
  refine gw_vget C (hz.1 i hi).2.2.1 tw_VAL d_G_length_1 ?_
  refine gw_tlen (v := nI (slen i)) C (hz.1 i hi).2.2.2 rfl d_G_length_4 ?_
  refine gw_aload_n C 0 d_G_length_5 rfl rfl ?_
  refine gw_callVX (rest := [.int (nI (slen i))]) C (fun H locs hS => vk_recv hz hi hS) (c_G_coder hi) (cwV 0 C.2.2.2.2.1 (gTB_V tw_MCO mv_G_coder) rfl rfl rfl pd_G_coder ⟨Nat.le_of_ble_eq_true rfl, Nat.le_of_ble_eq_true rfl⟩) rfl rfl (Nat.le_of_ble_eq_true rfl) d_G_length_6 ⟨Nat.le_of_ble_eq_true rfl, Nat.le_of_ble_eq_true rfl⟩ ?_
  refine gw_ishr C d_G_length_9 ?_
  have e1 : nI (slen i) >>> ((0 : Int32) &&& 31) = nI (slen i) := by
    rw [pk_shrN (slen_lt i hi) ((0 : Int32) &&& 31) 0 (by decide)]
    simp
  rw [e1]
  exact gw_iret C d_G_length_10
set_option maxRecDepth 100000 in
theorem c_G_charAt {i j : Nat} (hi : i < 20) (hj : j < slen i) : CW l y_G_charAt ws_G_charAt rm_G_charAt D cl tys (ZS sk sv) [.ref (sk i), .int (nI j)] w (some (.int (sch i j))) w 0 0 := by
  refine CW.ofG (ZS_ok sk sv) (by decide) rfl (Nat.le_of_ble_eq_true rfl) (fun p e s m below meth c A C _ => ?_)
  have hz := C.2.2.2.2.2.2.2.2.2.1.1
  refine gw_aload_n C 0 d_G_charAt_0 rfl rfl ?_
  refine gw_callVX (rest := []) C (fun H locs hS => vk_recv hz hi hS) (c_G_isLatin1 hi) (cwV 0 C.2.2.2.2.1 (gTB_V tw_MIL mv_G_isLatin1) rfl rfl rfl pd_G_isLatin1 ⟨Nat.le_of_ble_eq_true rfl, Nat.le_of_ble_eq_true rfl⟩) rfl rfl (Nat.le_of_ble_eq_true rfl) d_G_charAt_1 ⟨Nat.le_of_ble_eq_true rfl, Nat.le_of_ble_eq_true rfl⟩ ?_
  refine gw_if_eq (tgt := 16) C d_G_charAt_4 (by decide) (fun c => absurd c (by decide)) (fun c => ?_)
  refine gw_aload_n C 0 d_G_charAt_7 rfl rfl ?_
  refine gw_vget C (hz.1 i hi).2.2.1 tw_VAL d_G_charAt_8 ?_
  refine gw_iload_n C 1 d_G_charAt_11 rfl rfl ?_
  refine gw_callSr (rest := []) C (c_G1_charAt hi hj) (va_cwS 2 C.2.2.2.2.1 (gTB_vS rfl tw_MLC mv_G1_charAt) rfl rfl rfl pd_G1_charAt.2 ⟨Nat.le_of_ble_eq_true rfl, Nat.le_of_ble_eq_true rfl⟩) rfl rfl (Nat.le_of_ble_eq_true rfl) d_G_charAt_12 ⟨Nat.le_of_ble_eq_true rfl, Nat.le_of_ble_eq_true rfl⟩ ?_
  have h := sch_c _ (sch_mem hi hj)
  rw [h.2] at h
  exact gw_zret C h.1 d_G_charAt_15
theorem c_G_charAtI {i : Nat} {x : Int32} (hi : i < 20) (hx : vp_in x (slen i)) : CW l y_G_charAt ws_G_charAt rm_G_charAt D cl tys (ZS sk sv) [.ref (sk i), .int x] w (some (.int (sch i x.toNatClampNeg))) w 0 0 := by
  obtain ⟨j, hj, rfl⟩ := vp_in_of hx (slen_lt i hi)
  rw [nI_clamp (by have := slen_lt i hi; omega)]
  exact c_G_charAt hi hj
theorem gd_lt {α : Type} {i n : Nat} {o : Option α} {b : α} (h : gd (decide (i < n)) o = some b) : i < n ∧ o = some b := by
  unfold gd at h
  split at h
  · next hc => exact ⟨of_decide_eq_true hc, h⟩
  · cases h
end STR
