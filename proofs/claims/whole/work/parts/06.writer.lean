theorem tw_143 : Cond.fieldLink "NoneWords$Writer" 37 "NoneWords$Writer" "sentences" "I" ∈ TB := inTB 143 (by decide +kernel) (by decide +kernel)
theorem tw_433 : Cond.methodLink "NoneWords$Writer" 59 ⟨"NoneWords$Writer", "hasSentence", "(I)Z"⟩ ∈ TB := inTB 433 (by decide +kernel) (by decide +kernel)
theorem tw_138 : Cond.fieldLink "NoneWords$Writer" 22 "NoneWords$Writer" "openings" "[I" ∈ TB := inTB 138 (by decide +kernel) (by decide +kernel)
theorem tw_139 : Cond.fieldLink "NoneWords$Writer" 25 "NoneWords$Writer" "firstCauses" "[I" ∈ TB := inTB 139 (by decide +kernel) (by decide +kernel)
theorem tw_140 : Cond.fieldLink "NoneWords$Writer" 28 "NoneWords$Writer" "secondCauses" "[I" ∈ TB := inTB 140 (by decide +kernel) (by decide +kernel)
theorem tw_141 : Cond.fieldLink "NoneWords$Writer" 31 "NoneWords$Writer" "conclusions" "[I" ∈ TB := inTB 141 (by decide +kernel) (by decide +kernel)
theorem tw_142 : Cond.fieldLink "NoneWords$Writer" 34 "NoneWords$Writer" "sentenceNumbers" "[I" ∈ TB := inTB 142 (by decide +kernel) (by decide +kernel)
theorem tw_134 : Cond.fieldLink "NoneWords$Writer" 55 "NoneWords$Writer" "facts" "LNoneWords$Facts;" ∈ TB := inTB 134 (by decide +kernel) (by decide +kernel)
theorem tw_345 : Cond.methodLink "NoneWords$Writer" 63 ⟨"NoneWords$Facts", "hasNode", "(I)Z"⟩ ∈ TB := inTB 345 (by decide +kernel) (by decide +kernel)
theorem tw_136 : Cond.fieldLink "NoneWords$Writer" 15 "NoneWords$Writer" "nodeNumbers" "[I" ∈ TB := inTB 136 (by decide +kernel) (by decide +kernel)
theorem tw_135 : Cond.fieldLink "NoneWords$Writer" 9 "NoneWords$Writer" "uses" "[I" ∈ TB := inTB 135 (by decide +kernel) (by decide +kernel)
theorem tw_337 : Cond.methodLink "NoneWords$Writer" 92 ⟨"NoneWords$Facts", "leftPart", "(I)I"⟩ ∈ TB := inTB 337 (by decide +kernel) (by decide +kernel)
theorem tw_341 : Cond.methodLink "NoneWords$Writer" 96 ⟨"NoneWords$Writer", "countUse", "(I)V"⟩ ∈ TB := inTB 341 (by decide +kernel) (by decide +kernel)
theorem tw_346 : Cond.methodLink "NoneWords$Writer" 99 ⟨"NoneWords$Facts", "rightPart", "(I)I"⟩ ∈ TB := inTB 346 (by decide +kernel) (by decide +kernel)
theorem tw_332 : Cond.methodLink "NoneWords$Writer" 68 ⟨"java/util/Arrays", "fill", "([II)V"⟩ ∈ TB := inTB 332 (by decide +kernel) (by decide +kernel)
theorem tw_148 : Cond.fieldLink "NoneWords$Writer" 52 "NoneWords$Writer" "waiting" "I" ∈ TB := inTB 148 (by decide +kernel) (by decide +kernel)
theorem tw_144 : Cond.fieldLink "NoneWords$Writer" 40 "NoneWords$Writer" "steps" "[I" ∈ TB := inTB 144 (by decide +kernel) (by decide +kernel)
theorem tw_145 : Cond.fieldLink "NoneWords$Writer" 43 "NoneWords$Writer" "stepNodes" "[I" ∈ TB := inTB 145 (by decide +kernel) (by decide +kernel)
theorem tw_146 : Cond.fieldLink "NoneWords$Writer" 46 "NoneWords$Writer" "stepFirsts" "[I" ∈ TB := inTB 146 (by decide +kernel) (by decide +kernel)
theorem tw_147 : Cond.fieldLink "NoneWords$Writer" 49 "NoneWords$Writer" "stepSeconds" "[I" ∈ TB := inTB 147 (by decide +kernel) (by decide +kernel)
theorem tw_137 : Cond.fieldLink "NoneWords$Writer" 18 "NoneWords$Writer" "numbers" "I" ∈ TB := inTB 137 (by decide +kernel) (by decide +kernel)
theorem tw_374 : Cond.methodLink "NoneWords$Writer" 132 ⟨"NoneWords$Writer", "numberOfNode", "(I)I"⟩ ∈ TB := inTB 374 (by decide +kernel) (by decide +kernel)
theorem tw_362 : Cond.methodLink "NoneWords$Writer" 105 ⟨"NoneWords$Writer", "say", "(IIII)V"⟩ ∈ TB := inTB 362 (by decide +kernel) (by decide +kernel)
theorem tw_382 : Cond.methodLink "NoneWords$Writer" 123 ⟨"NoneWords$Writer", "isShared", "(I)Z"⟩ ∈ TB := inTB 382 (by decide +kernel) (by decide +kernel)
theorem tw_386 : Cond.methodLink "NoneWords$Writer" 129 ⟨"NoneWords$Writer", "giveNumber", "(I)V"⟩ ∈ TB := inTB 386 (by decide +kernel) (by decide +kernel)
theorem tw_350 : Cond.methodLink "NoneWords$Writer" 78 ⟨"NoneWords$Writer", "await", "(IIII)V"⟩ ∈ TB := inTB 350 (by decide +kernel) (by decide +kernel)
theorem tw_370 : Cond.methodLink "NoneWords$Writer" 120 ⟨"NoneWords$Writer", "hasNumber", "(I)Z"⟩ ∈ TB := inTB 370 (by decide +kernel) (by decide +kernel)
theorem tw_390 : Cond.methodLink "NoneWords$Writer" 126 ⟨"NoneWords$Facts", "isSimple", "(I)Z"⟩ ∈ TB := inTB 390 (by decide +kernel) (by decide +kernel)
theorem tw_378 : Cond.methodLink "NoneWords$Writer" 89 ⟨"NoneWords$Writer", "close", "(IIII)V"⟩ ∈ TB := inTB 378 (by decide +kernel) (by decide +kernel)
theorem tw_404 : Cond.methodLink "NoneWords$Writer" 114 ⟨"NoneWords$Facts", "leafPart", "(I)I"⟩ ∈ TB := inTB 404 (by decide +kernel) (by decide +kernel)
theorem tw_408 : Cond.methodLink "NoneWords$Writer" 117 ⟨"NoneWords$Facts", "joinPart", "(I)I"⟩ ∈ TB := inTB 408 (by decide +kernel) (by decide +kernel)
theorem tw_358 : Cond.methodLink "NoneWords$Writer" 102 ⟨"NoneWords$Facts", "isJoin", "(I)Z"⟩ ∈ TB := inTB 358 (by decide +kernel) (by decide +kernel)
theorem tw_400 : Cond.methodLink "NoneWords$Writer" 111 ⟨"NoneWords$Writer", "openOfLeafAndJoin", "(III)V"⟩ ∈ TB := inTB 400 (by decide +kernel) (by decide +kernel)
theorem tw_366 : Cond.methodLink "NoneWords$Writer" 108 ⟨"NoneWords$Writer", "openOfJoins", "(III)V"⟩ ∈ TB := inTB 366 (by decide +kernel) (by decide +kernel)
theorem tw_354 : Cond.methodLink "NoneWords$Writer" 82 ⟨"NoneWords$Writer", "open", "(I)V"⟩ ∈ TB := inTB 354 (by decide +kernel) (by decide +kernel)
theorem tw_413 : Cond.methodLink "NoneWords$Writer" 85 ⟨"NoneWords$Writer", "goOn", "(III)V"⟩ ∈ TB := inTB 413 (by decide +kernel) (by decide +kernel)
theorem tw_333 : Cond.methodLink "NoneWords$Writer" 74 ⟨"NoneWords$Writer", "countUses", "(I)V"⟩ ∈ TB := inTB 333 (by decide +kernel) (by decide +kernel)
section WRITER
variable {p : Program} {l : Launch} {e : Env} {s : State} {m : MethodId} {args : Array Value} {below : List Frame} {meth : Method} {c : Code} {D : va_G} {A : Nat → Prop} {Z : gw_Z} {ad : Nat → Nat} {cI cZ cC : ClassId}
abbrev b_W_hasSentence : ByteArray := prog_5_method_2_code
def y_W_hasSentence : MethodName := ⟨"NoneWords$Writer", "hasSentence", "(I)Z"⟩
abbrev ws_W_hasSentence : List Cond := Cond.code y_W_hasSentence b_W_hasSentence 2 (some (FieldType.boolean)) :: TB
set_option maxRecDepth 100000 in
theorem tc_W_hasSentence : Cond.code y_W_hasSentence b_W_hasSentence 2 (some (FieldType.boolean)) ∈ TB := inTB 428 rfl rfl
theorem mv_W_hasSentence : Cond.instanceMethod y_W_hasSentence ∈ TB ∧ Cond.selects "NoneWords$Writer" y_W_hasSentence y_W_hasSentence ∈ TB ∧ Cond.initialized "NoneWords$Writer" ∈ TB ∧ Cond.code y_W_hasSentence b_W_hasSentence 2 (some (FieldType.boolean)) ∈ TB := ⟨inTB 426 (by decide +kernel) (by decide +kernel), inTB 427 (by decide +kernel) (by decide +kernel), inTB 68 (by decide +kernel) (by decide +kernel), tc_W_hasSentence⟩
theorem pd_W_hasSentence : y_W_hasSentence.cls = "NoneWords$Writer" ∧ y_W_hasSentence.cls ≠ "java/lang/invoke/MethodHandle" ∧ y_W_hasSentence.cls ≠ "java/lang/invoke/VarHandle" ∧ (parseMethodDescriptor y_W_hasSentence.desc).map (fun d => d.parameters.length) = some 1 := by decide +kernel
theorem d_W_hasSentence_0 : decode b_W_hasSentence 0 = .ok (.iload_n 1, 1) := by decide +kernel
theorem d_W_hasSentence_1 : decode b_W_hasSentence 1 = .ok (.ifCond .lt 15, 3) := by decide +kernel
theorem d_W_hasSentence_4 : decode b_W_hasSentence 4 = .ok (.iload_n 1, 1) := by decide +kernel
theorem d_W_hasSentence_5 : decode b_W_hasSentence 5 = .ok (.aload_n 0, 1) := by decide +kernel
theorem d_W_hasSentence_6 : decode b_W_hasSentence 6 = .ok (.getfield 37, 3) := by decide +kernel
theorem d_W_hasSentence_9 : decode b_W_hasSentence 9 = .ok (.if_icmp .ge 7, 3) := by decide +kernel
theorem d_W_hasSentence_12 : decode b_W_hasSentence 12 = .ok (.iconst 1, 1) := by decide +kernel
theorem d_W_hasSentence_13 : decode b_W_hasSentence 13 = .ok (.goto 4, 3) := by decide +kernel
theorem d_W_hasSentence_16 : decode b_W_hasSentence 16 = .ok (.iconst 0, 1) := by decide +kernel
theorem d_W_hasSentence_17 : decode b_W_hasSentence 17 = .ok (.ireturn, 1) := by decide +kernel
abbrev rm_W_hasSentence : Room := { frames := 0, cells := 0, slots := 0, locals := 0 }
def f_W_hasSentence (x1 : Int32) (M : Mem) : Option (Int32 × Mem) :=
  if x1 < 0 then some ((0 : Int32), M) else if (M 11 9) ≤ x1 then some ((0 : Int32), M) else some ((1 : Int32), M)
set_option maxRecDepth 100000 in
theorem g_W_hasSentence {r : Int32} {M' : Mem} (C : GC p s m args meth c b_W_hasSentence 2 (some (FieldType.boolean)) "NoneWords$Writer" TB D vwCl (tysW cI cZ cC) A Z) {x1 : Int32} {M : Mem} (hf : f_W_hasSentence x1 M = some (r, M')) : GW p l e rm_W_hasSentence s m args below meth c (MQ below (QW D vwCl (tysW cI cZ cC) A (some (.int r)) (wc ad cI cZ cC M')) args s 0 0 A) D vwCl A 2 0 0 (wc ad cI cZ cC M) 0 [(0, .ref (ad 11)), (1, .int x1)] [] := by
  unfold f_W_hasSentence at hf
  refine gw_iload_n C 1 d_W_hasSentence_0 rfl rfl ?_
  refine gw_if_lt (tgt := 16) C d_W_hasSentence_1 (by decide) (fun c => ?_) (fun c => ?_)
  · have hf := (if_pos c).symm.trans hf
    refine gw_iconst (v := (0 : Int32)) C d_W_hasSentence_16 (by decide) ?_
    exact gw_zreti C d_W_hasSentence_17 (wc ad cI cZ cC) (by decide) hf
  · have hf := (if_neg c).symm.trans hf
    refine gw_iload_n C 1 d_W_hasSentence_4 rfl rfl ?_
    refine gw_aload_n C 0 d_W_hasSentence_5 rfl rfl ?_
    refine gw_get C in_W 11 wcg_11 clg_3 9 (by decide) tw_143 rfl rfl d_W_hasSentence_6 ?_
    refine gw_icmp_ge (tgt := 16) C d_W_hasSentence_9 (by decide) (fun c => ?_) (fun c => ?_)
    · have hf := (if_pos c).symm.trans hf
      refine gw_iconst (v := (0 : Int32)) C d_W_hasSentence_16 (by decide) ?_
      exact gw_zreti C d_W_hasSentence_17 (wc ad cI cZ cC) (by decide) hf
    · have hf := (if_neg c).symm.trans hf
      refine gw_iconst (v := (1 : Int32)) C d_W_hasSentence_12 (by decide) ?_
      refine gw_goto (tgt := 17) C d_W_hasSentence_13 (by decide) ?_
      exact gw_zreti C d_W_hasSentence_17 (wc ad cI cZ cC) (by decide) hf
theorem c_W_hasSentence (hZ : gw_ZOK Z) {x1 : Int32} {M : Mem} {r : Int32} {M' : Mem} (hf : f_W_hasSentence x1 M = some (r, M')) : CW l y_W_hasSentence ws_W_hasSentence rm_W_hasSentence D vwCl (tysW cI cZ cC) Z [.ref (ad 11), .int x1] (wc ad cI cZ cC M) (some (.int r)) (wc ad cI cZ cC M') 0 0 :=
  CW.ofG hZ (by decide) rfl (Nat.le_of_ble_eq_true rfl) (fun _ _ _ _ _ _ _ _ C _ => g_W_hasSentence C hf)
abbrev b_W_opening : ByteArray := prog_5_method_3_code
def y_W_opening : MethodName := ⟨"NoneWords$Writer", "opening", "(I)I"⟩
abbrev ws_W_opening : List Cond := Cond.code y_W_opening b_W_opening 2 (some (FieldType.int)) :: TB
set_option maxRecDepth 100000 in
theorem tc_W_opening : Cond.code y_W_opening b_W_opening 2 (some (FieldType.int)) ∈ TB := inTB 441 rfl rfl
theorem mv_W_opening : Cond.instanceMethod y_W_opening ∈ TB ∧ Cond.selects "NoneWords$Writer" y_W_opening y_W_opening ∈ TB ∧ Cond.initialized "NoneWords$Writer" ∈ TB ∧ Cond.code y_W_opening b_W_opening 2 (some (FieldType.int)) ∈ TB := ⟨inTB 439 (by decide +kernel) (by decide +kernel), inTB 440 (by decide +kernel) (by decide +kernel), inTB 68 (by decide +kernel) (by decide +kernel), tc_W_opening⟩
theorem pd_W_opening : y_W_opening.cls = "NoneWords$Writer" ∧ y_W_opening.cls ≠ "java/lang/invoke/MethodHandle" ∧ y_W_opening.cls ≠ "java/lang/invoke/VarHandle" ∧ (parseMethodDescriptor y_W_opening.desc).map (fun d => d.parameters.length) = some 1 := by decide +kernel
theorem d_W_opening_0 : decode b_W_opening 0 = .ok (.aload_n 0, 1) := by decide +kernel
theorem d_W_opening_1 : decode b_W_opening 1 = .ok (.iload_n 1, 1) := by decide +kernel
theorem d_W_opening_2 : decode b_W_opening 2 = .ok (.invokevirtual 59, 3) := by decide +kernel
theorem d_W_opening_5 : decode b_W_opening 5 = .ok (.ifCond .eq 12, 3) := by decide +kernel
theorem d_W_opening_8 : decode b_W_opening 8 = .ok (.aload_n 0, 1) := by decide +kernel
theorem d_W_opening_9 : decode b_W_opening 9 = .ok (.getfield 22, 3) := by decide +kernel
theorem d_W_opening_12 : decode b_W_opening 12 = .ok (.iload_n 1, 1) := by decide +kernel
theorem d_W_opening_13 : decode b_W_opening 13 = .ok (.iaload, 1) := by decide +kernel
theorem d_W_opening_14 : decode b_W_opening 14 = .ok (.goto 4, 3) := by decide +kernel
theorem d_W_opening_17 : decode b_W_opening 17 = .ok (.iconst 0, 1) := by decide +kernel
theorem d_W_opening_18 : decode b_W_opening 18 = .ok (.ireturn, 1) := by decide +kernel
abbrev rm_W_opening : Room := { frames := 1, cells := 0, slots := 0, locals := 21 }
def f_W_opening (x1 : Int32) (M : Mem) : Option (Int32 × Mem) :=
  ob (f_W_hasSentence x1 M) fun r2 M2 => if r2 = 0 then some ((0 : Int32), M2) else gd (inb x1 120) (some (M2 14 x1.toNatClampNeg, M2))
set_option maxRecDepth 100000 in
theorem g_W_opening {r : Int32} {M' : Mem} (C : GC p s m args meth c b_W_opening 2 (some (FieldType.int)) "NoneWords$Writer" TB D vwCl (tysW cI cZ cC) A Z) {x1 : Int32} {M : Mem} (hf : f_W_opening x1 M = some (r, M')) : GW p l e rm_W_opening s m args below meth c (MQ below (QW D vwCl (tysW cI cZ cC) A (some (.int r)) (wc ad cI cZ cC M')) args s 0 0 A) D vwCl A 2 0 0 (wc ad cI cZ cC M) 0 [(0, .ref (ad 11)), (1, .int x1)] [] := by
  unfold f_W_opening at hf
  refine gw_aload_n C 0 d_W_opening_0 rfl rfl ?_
  refine gw_iload_n C 1 d_W_opening_1 rfl rfl ?_
  obtain ⟨r2, M2, hc2, hf⟩ := ob_some hf
  refine gw_callVr (rest := []) C 11 wcg_11 clg_3 (c_W_hasSentence C.2.2.2.2.2.2.2.2.2.2 hc2) (cwV 1 C.2.2.2.2.1 (gTB_V tw_433 mv_W_hasSentence) rfl rfl rfl pd_W_hasSentence ⟨Nat.le_of_ble_eq_true rfl, Nat.le_of_ble_eq_true rfl⟩) rfl rfl (Nat.le_of_ble_eq_true rfl) d_W_opening_2 ⟨Nat.le_of_ble_eq_true rfl, Nat.le_of_ble_eq_true rfl⟩ ?_
  refine gw_if_eq (tgt := 17) C d_W_opening_5 (by decide) (fun c => ?_) (fun c => ?_)
  · have hf := (if_pos c).symm.trans hf
    refine gw_iconst (v := (0 : Int32)) C d_W_opening_17 (by decide) ?_
    exact gw_ireti C d_W_opening_18 (wc ad cI cZ cC) hf
  · have hf := (if_neg c).symm.trans hf
    refine gw_aload_n C 0 d_W_opening_8 rfl rfl ?_
    refine gw_get C in_W 11 wcg_11 clg_3 4 (by decide) tw_138 rfl rfl d_W_opening_9 ?_
    refine gw_iload_n C 1 d_W_opening_12 rfl rfl ?_
    obtain ⟨hb13, hf⟩ := gd_some hf
    refine gw_iald C 14 0 wcg_14 rfl hb13 d_W_opening_13 ?_
    refine gw_goto (tgt := 18) C d_W_opening_14 (by decide) ?_
    exact gw_ireti C d_W_opening_18 (wc ad cI cZ cC) hf
theorem c_W_opening (hZ : gw_ZOK Z) {x1 : Int32} {M : Mem} {r : Int32} {M' : Mem} (hf : f_W_opening x1 M = some (r, M')) : CW l y_W_opening ws_W_opening rm_W_opening D vwCl (tysW cI cZ cC) Z [.ref (ad 11), .int x1] (wc ad cI cZ cC M) (some (.int r)) (wc ad cI cZ cC M') 0 0 :=
  CW.ofG hZ (by decide) rfl (Nat.le_of_ble_eq_true rfl) (fun _ _ _ _ _ _ _ _ C _ => g_W_opening C hf)
abbrev b_W_firstCause : ByteArray := prog_5_method_4_code
def y_W_firstCause : MethodName := ⟨"NoneWords$Writer", "firstCause", "(I)I"⟩
abbrev ws_W_firstCause : List Cond := Cond.code y_W_firstCause b_W_firstCause 2 (some (FieldType.int)) :: TB
set_option maxRecDepth 100000 in
theorem tc_W_firstCause : Cond.code y_W_firstCause b_W_firstCause 2 (some (FieldType.int)) ∈ TB := inTB 432 rfl rfl
theorem mv_W_firstCause : Cond.instanceMethod y_W_firstCause ∈ TB ∧ Cond.selects "NoneWords$Writer" y_W_firstCause y_W_firstCause ∈ TB ∧ Cond.initialized "NoneWords$Writer" ∈ TB ∧ Cond.code y_W_firstCause b_W_firstCause 2 (some (FieldType.int)) ∈ TB := ⟨inTB 430 (by decide +kernel) (by decide +kernel), inTB 431 (by decide +kernel) (by decide +kernel), inTB 68 (by decide +kernel) (by decide +kernel), tc_W_firstCause⟩
theorem pd_W_firstCause : y_W_firstCause.cls = "NoneWords$Writer" ∧ y_W_firstCause.cls ≠ "java/lang/invoke/MethodHandle" ∧ y_W_firstCause.cls ≠ "java/lang/invoke/VarHandle" ∧ (parseMethodDescriptor y_W_firstCause.desc).map (fun d => d.parameters.length) = some 1 := by decide +kernel
theorem d_W_firstCause_0 : decode b_W_firstCause 0 = .ok (.aload_n 0, 1) := by decide +kernel
theorem d_W_firstCause_1 : decode b_W_firstCause 1 = .ok (.iload_n 1, 1) := by decide +kernel
theorem d_W_firstCause_2 : decode b_W_firstCause 2 = .ok (.invokevirtual 59, 3) := by decide +kernel
theorem d_W_firstCause_5 : decode b_W_firstCause 5 = .ok (.ifCond .eq 12, 3) := by decide +kernel
theorem d_W_firstCause_8 : decode b_W_firstCause 8 = .ok (.aload_n 0, 1) := by decide +kernel
theorem d_W_firstCause_9 : decode b_W_firstCause 9 = .ok (.getfield 25, 3) := by decide +kernel
theorem d_W_firstCause_12 : decode b_W_firstCause 12 = .ok (.iload_n 1, 1) := by decide +kernel
theorem d_W_firstCause_13 : decode b_W_firstCause 13 = .ok (.iaload, 1) := by decide +kernel
theorem d_W_firstCause_14 : decode b_W_firstCause 14 = .ok (.goto 4, 3) := by decide +kernel
theorem d_W_firstCause_17 : decode b_W_firstCause 17 = .ok (.iconst (-1), 1) := by decide +kernel
theorem d_W_firstCause_18 : decode b_W_firstCause 18 = .ok (.ireturn, 1) := by decide +kernel
abbrev rm_W_firstCause : Room := { frames := 1, cells := 0, slots := 0, locals := 21 }
def f_W_firstCause (x1 : Int32) (M : Mem) : Option (Int32 × Mem) :=
  ob (f_W_hasSentence x1 M) fun r2 M2 => if r2 = 0 then some ((-1 : Int32), M2) else gd (inb x1 120) (some (M2 15 x1.toNatClampNeg, M2))
set_option maxRecDepth 100000 in
theorem g_W_firstCause {r : Int32} {M' : Mem} (C : GC p s m args meth c b_W_firstCause 2 (some (FieldType.int)) "NoneWords$Writer" TB D vwCl (tysW cI cZ cC) A Z) {x1 : Int32} {M : Mem} (hf : f_W_firstCause x1 M = some (r, M')) : GW p l e rm_W_firstCause s m args below meth c (MQ below (QW D vwCl (tysW cI cZ cC) A (some (.int r)) (wc ad cI cZ cC M')) args s 0 0 A) D vwCl A 2 0 0 (wc ad cI cZ cC M) 0 [(0, .ref (ad 11)), (1, .int x1)] [] := by
  unfold f_W_firstCause at hf
  refine gw_aload_n C 0 d_W_firstCause_0 rfl rfl ?_
  refine gw_iload_n C 1 d_W_firstCause_1 rfl rfl ?_
  obtain ⟨r2, M2, hc2, hf⟩ := ob_some hf
  refine gw_callVr (rest := []) C 11 wcg_11 clg_3 (c_W_hasSentence C.2.2.2.2.2.2.2.2.2.2 hc2) (cwV 1 C.2.2.2.2.1 (gTB_V tw_433 mv_W_hasSentence) rfl rfl rfl pd_W_hasSentence ⟨Nat.le_of_ble_eq_true rfl, Nat.le_of_ble_eq_true rfl⟩) rfl rfl (Nat.le_of_ble_eq_true rfl) d_W_firstCause_2 ⟨Nat.le_of_ble_eq_true rfl, Nat.le_of_ble_eq_true rfl⟩ ?_
  refine gw_if_eq (tgt := 17) C d_W_firstCause_5 (by decide) (fun c => ?_) (fun c => ?_)
  · have hf := (if_pos c).symm.trans hf
    refine gw_iconst (v := (-1 : Int32)) C d_W_firstCause_17 (by decide) ?_
    exact gw_ireti C d_W_firstCause_18 (wc ad cI cZ cC) hf
  · have hf := (if_neg c).symm.trans hf
    refine gw_aload_n C 0 d_W_firstCause_8 rfl rfl ?_
    refine gw_get C in_W 11 wcg_11 clg_3 5 (by decide) tw_139 rfl rfl d_W_firstCause_9 ?_
    refine gw_iload_n C 1 d_W_firstCause_12 rfl rfl ?_
    obtain ⟨hb13, hf⟩ := gd_some hf
    refine gw_iald C 15 0 wcg_15 rfl hb13 d_W_firstCause_13 ?_
    refine gw_goto (tgt := 18) C d_W_firstCause_14 (by decide) ?_
    exact gw_ireti C d_W_firstCause_18 (wc ad cI cZ cC) hf
theorem c_W_firstCause (hZ : gw_ZOK Z) {x1 : Int32} {M : Mem} {r : Int32} {M' : Mem} (hf : f_W_firstCause x1 M = some (r, M')) : CW l y_W_firstCause ws_W_firstCause rm_W_firstCause D vwCl (tysW cI cZ cC) Z [.ref (ad 11), .int x1] (wc ad cI cZ cC M) (some (.int r)) (wc ad cI cZ cC M') 0 0 :=
  CW.ofG hZ (by decide) rfl (Nat.le_of_ble_eq_true rfl) (fun _ _ _ _ _ _ _ _ C _ => g_W_firstCause C hf)
abbrev b_W_secondCause : ByteArray := prog_5_method_5_code
def y_W_secondCause : MethodName := ⟨"NoneWords$Writer", "secondCause", "(I)I"⟩
abbrev ws_W_secondCause : List Cond := Cond.code y_W_secondCause b_W_secondCause 2 (some (FieldType.int)) :: TB
set_option maxRecDepth 100000 in
theorem tc_W_secondCause : Cond.code y_W_secondCause b_W_secondCause 2 (some (FieldType.int)) ∈ TB := inTB 437 rfl rfl
theorem mv_W_secondCause : Cond.instanceMethod y_W_secondCause ∈ TB ∧ Cond.selects "NoneWords$Writer" y_W_secondCause y_W_secondCause ∈ TB ∧ Cond.initialized "NoneWords$Writer" ∈ TB ∧ Cond.code y_W_secondCause b_W_secondCause 2 (some (FieldType.int)) ∈ TB := ⟨inTB 435 (by decide +kernel) (by decide +kernel), inTB 436 (by decide +kernel) (by decide +kernel), inTB 68 (by decide +kernel) (by decide +kernel), tc_W_secondCause⟩
theorem pd_W_secondCause : y_W_secondCause.cls = "NoneWords$Writer" ∧ y_W_secondCause.cls ≠ "java/lang/invoke/MethodHandle" ∧ y_W_secondCause.cls ≠ "java/lang/invoke/VarHandle" ∧ (parseMethodDescriptor y_W_secondCause.desc).map (fun d => d.parameters.length) = some 1 := by decide +kernel
theorem d_W_secondCause_0 : decode b_W_secondCause 0 = .ok (.aload_n 0, 1) := by decide +kernel
theorem d_W_secondCause_1 : decode b_W_secondCause 1 = .ok (.iload_n 1, 1) := by decide +kernel
theorem d_W_secondCause_2 : decode b_W_secondCause 2 = .ok (.invokevirtual 59, 3) := by decide +kernel
theorem d_W_secondCause_5 : decode b_W_secondCause 5 = .ok (.ifCond .eq 12, 3) := by decide +kernel
theorem d_W_secondCause_8 : decode b_W_secondCause 8 = .ok (.aload_n 0, 1) := by decide +kernel
theorem d_W_secondCause_9 : decode b_W_secondCause 9 = .ok (.getfield 28, 3) := by decide +kernel
theorem d_W_secondCause_12 : decode b_W_secondCause 12 = .ok (.iload_n 1, 1) := by decide +kernel
theorem d_W_secondCause_13 : decode b_W_secondCause 13 = .ok (.iaload, 1) := by decide +kernel
theorem d_W_secondCause_14 : decode b_W_secondCause 14 = .ok (.goto 4, 3) := by decide +kernel
theorem d_W_secondCause_17 : decode b_W_secondCause 17 = .ok (.iconst (-1), 1) := by decide +kernel
theorem d_W_secondCause_18 : decode b_W_secondCause 18 = .ok (.ireturn, 1) := by decide +kernel
abbrev rm_W_secondCause : Room := { frames := 1, cells := 0, slots := 0, locals := 21 }
def f_W_secondCause (x1 : Int32) (M : Mem) : Option (Int32 × Mem) :=
  ob (f_W_hasSentence x1 M) fun r2 M2 => if r2 = 0 then some ((-1 : Int32), M2) else gd (inb x1 120) (some (M2 16 x1.toNatClampNeg, M2))
set_option maxRecDepth 100000 in
theorem g_W_secondCause {r : Int32} {M' : Mem} (C : GC p s m args meth c b_W_secondCause 2 (some (FieldType.int)) "NoneWords$Writer" TB D vwCl (tysW cI cZ cC) A Z) {x1 : Int32} {M : Mem} (hf : f_W_secondCause x1 M = some (r, M')) : GW p l e rm_W_secondCause s m args below meth c (MQ below (QW D vwCl (tysW cI cZ cC) A (some (.int r)) (wc ad cI cZ cC M')) args s 0 0 A) D vwCl A 2 0 0 (wc ad cI cZ cC M) 0 [(0, .ref (ad 11)), (1, .int x1)] [] := by
  unfold f_W_secondCause at hf
  refine gw_aload_n C 0 d_W_secondCause_0 rfl rfl ?_
  refine gw_iload_n C 1 d_W_secondCause_1 rfl rfl ?_
  obtain ⟨r2, M2, hc2, hf⟩ := ob_some hf
  refine gw_callVr (rest := []) C 11 wcg_11 clg_3 (c_W_hasSentence C.2.2.2.2.2.2.2.2.2.2 hc2) (cwV 1 C.2.2.2.2.1 (gTB_V tw_433 mv_W_hasSentence) rfl rfl rfl pd_W_hasSentence ⟨Nat.le_of_ble_eq_true rfl, Nat.le_of_ble_eq_true rfl⟩) rfl rfl (Nat.le_of_ble_eq_true rfl) d_W_secondCause_2 ⟨Nat.le_of_ble_eq_true rfl, Nat.le_of_ble_eq_true rfl⟩ ?_
  refine gw_if_eq (tgt := 17) C d_W_secondCause_5 (by decide) (fun c => ?_) (fun c => ?_)
  · have hf := (if_pos c).symm.trans hf
    refine gw_iconst (v := (-1 : Int32)) C d_W_secondCause_17 (by decide) ?_
    exact gw_ireti C d_W_secondCause_18 (wc ad cI cZ cC) hf
  · have hf := (if_neg c).symm.trans hf
    refine gw_aload_n C 0 d_W_secondCause_8 rfl rfl ?_
    refine gw_get C in_W 11 wcg_11 clg_3 6 (by decide) tw_140 rfl rfl d_W_secondCause_9 ?_
    refine gw_iload_n C 1 d_W_secondCause_12 rfl rfl ?_
    obtain ⟨hb13, hf⟩ := gd_some hf
    refine gw_iald C 16 0 wcg_16 rfl hb13 d_W_secondCause_13 ?_
    refine gw_goto (tgt := 18) C d_W_secondCause_14 (by decide) ?_
    exact gw_ireti C d_W_secondCause_18 (wc ad cI cZ cC) hf
theorem c_W_secondCause (hZ : gw_ZOK Z) {x1 : Int32} {M : Mem} {r : Int32} {M' : Mem} (hf : f_W_secondCause x1 M = some (r, M')) : CW l y_W_secondCause ws_W_secondCause rm_W_secondCause D vwCl (tysW cI cZ cC) Z [.ref (ad 11), .int x1] (wc ad cI cZ cC M) (some (.int r)) (wc ad cI cZ cC M') 0 0 :=
  CW.ofG hZ (by decide) rfl (Nat.le_of_ble_eq_true rfl) (fun _ _ _ _ _ _ _ _ C _ => g_W_secondCause C hf)
abbrev b_W_conclusion : ByteArray := prog_5_method_6_code
def y_W_conclusion : MethodName := ⟨"NoneWords$Writer", "conclusion", "(I)I"⟩
abbrev ws_W_conclusion : List Cond := Cond.code y_W_conclusion b_W_conclusion 2 (some (FieldType.int)) :: TB
set_option maxRecDepth 100000 in
theorem tc_W_conclusion : Cond.code y_W_conclusion b_W_conclusion 2 (some (FieldType.int)) ∈ TB := inTB 581 rfl rfl
theorem mv_W_conclusion : Cond.instanceMethod y_W_conclusion ∈ TB ∧ Cond.selects "NoneWords$Writer" y_W_conclusion y_W_conclusion ∈ TB ∧ Cond.initialized "NoneWords$Writer" ∈ TB ∧ Cond.code y_W_conclusion b_W_conclusion 2 (some (FieldType.int)) ∈ TB := ⟨inTB 579 (by decide +kernel) (by decide +kernel), inTB 580 (by decide +kernel) (by decide +kernel), inTB 68 (by decide +kernel) (by decide +kernel), tc_W_conclusion⟩
theorem pd_W_conclusion : y_W_conclusion.cls = "NoneWords$Writer" ∧ y_W_conclusion.cls ≠ "java/lang/invoke/MethodHandle" ∧ y_W_conclusion.cls ≠ "java/lang/invoke/VarHandle" ∧ (parseMethodDescriptor y_W_conclusion.desc).map (fun d => d.parameters.length) = some 1 := by decide +kernel
theorem d_W_conclusion_0 : decode b_W_conclusion 0 = .ok (.aload_n 0, 1) := by decide +kernel
theorem d_W_conclusion_1 : decode b_W_conclusion 1 = .ok (.iload_n 1, 1) := by decide +kernel
theorem d_W_conclusion_2 : decode b_W_conclusion 2 = .ok (.invokevirtual 59, 3) := by decide +kernel
theorem d_W_conclusion_5 : decode b_W_conclusion 5 = .ok (.ifCond .eq 12, 3) := by decide +kernel
theorem d_W_conclusion_8 : decode b_W_conclusion 8 = .ok (.aload_n 0, 1) := by decide +kernel
theorem d_W_conclusion_9 : decode b_W_conclusion 9 = .ok (.getfield 31, 3) := by decide +kernel
theorem d_W_conclusion_12 : decode b_W_conclusion 12 = .ok (.iload_n 1, 1) := by decide +kernel
theorem d_W_conclusion_13 : decode b_W_conclusion 13 = .ok (.iaload, 1) := by decide +kernel
theorem d_W_conclusion_14 : decode b_W_conclusion 14 = .ok (.goto 4, 3) := by decide +kernel
theorem d_W_conclusion_17 : decode b_W_conclusion 17 = .ok (.iconst (-1), 1) := by decide +kernel
theorem d_W_conclusion_18 : decode b_W_conclusion 18 = .ok (.ireturn, 1) := by decide +kernel
abbrev rm_W_conclusion : Room := { frames := 1, cells := 0, slots := 0, locals := 21 }
def f_W_conclusion (x1 : Int32) (M : Mem) : Option (Int32 × Mem) :=
  ob (f_W_hasSentence x1 M) fun r2 M2 => if r2 = 0 then some ((-1 : Int32), M2) else gd (inb x1 120) (some (M2 17 x1.toNatClampNeg, M2))
set_option maxRecDepth 100000 in
theorem g_W_conclusion {r : Int32} {M' : Mem} (C : GC p s m args meth c b_W_conclusion 2 (some (FieldType.int)) "NoneWords$Writer" TB D vwCl (tysW cI cZ cC) A Z) {x1 : Int32} {M : Mem} (hf : f_W_conclusion x1 M = some (r, M')) : GW p l e rm_W_conclusion s m args below meth c (MQ below (QW D vwCl (tysW cI cZ cC) A (some (.int r)) (wc ad cI cZ cC M')) args s 0 0 A) D vwCl A 2 0 0 (wc ad cI cZ cC M) 0 [(0, .ref (ad 11)), (1, .int x1)] [] := by
  unfold f_W_conclusion at hf
  refine gw_aload_n C 0 d_W_conclusion_0 rfl rfl ?_
  refine gw_iload_n C 1 d_W_conclusion_1 rfl rfl ?_
  obtain ⟨r2, M2, hc2, hf⟩ := ob_some hf
  refine gw_callVr (rest := []) C 11 wcg_11 clg_3 (c_W_hasSentence C.2.2.2.2.2.2.2.2.2.2 hc2) (cwV 1 C.2.2.2.2.1 (gTB_V tw_433 mv_W_hasSentence) rfl rfl rfl pd_W_hasSentence ⟨Nat.le_of_ble_eq_true rfl, Nat.le_of_ble_eq_true rfl⟩) rfl rfl (Nat.le_of_ble_eq_true rfl) d_W_conclusion_2 ⟨Nat.le_of_ble_eq_true rfl, Nat.le_of_ble_eq_true rfl⟩ ?_
  refine gw_if_eq (tgt := 17) C d_W_conclusion_5 (by decide) (fun c => ?_) (fun c => ?_)
  · have hf := (if_pos c).symm.trans hf
    refine gw_iconst (v := (-1 : Int32)) C d_W_conclusion_17 (by decide) ?_
    exact gw_ireti C d_W_conclusion_18 (wc ad cI cZ cC) hf
  · have hf := (if_neg c).symm.trans hf
    refine gw_aload_n C 0 d_W_conclusion_8 rfl rfl ?_
    refine gw_get C in_W 11 wcg_11 clg_3 7 (by decide) tw_141 rfl rfl d_W_conclusion_9 ?_
    refine gw_iload_n C 1 d_W_conclusion_12 rfl rfl ?_
    obtain ⟨hb13, hf⟩ := gd_some hf
    refine gw_iald C 17 0 wcg_17 rfl hb13 d_W_conclusion_13 ?_
    refine gw_goto (tgt := 18) C d_W_conclusion_14 (by decide) ?_
    exact gw_ireti C d_W_conclusion_18 (wc ad cI cZ cC) hf
theorem c_W_conclusion (hZ : gw_ZOK Z) {x1 : Int32} {M : Mem} {r : Int32} {M' : Mem} (hf : f_W_conclusion x1 M = some (r, M')) : CW l y_W_conclusion ws_W_conclusion rm_W_conclusion D vwCl (tysW cI cZ cC) Z [.ref (ad 11), .int x1] (wc ad cI cZ cC M) (some (.int r)) (wc ad cI cZ cC M') 0 0 :=
  CW.ofG hZ (by decide) rfl (Nat.le_of_ble_eq_true rfl) (fun _ _ _ _ _ _ _ _ C _ => g_W_conclusion C hf)
abbrev b_W_numberOfSentence : ByteArray := prog_5_method_7_code
def y_W_numberOfSentence : MethodName := ⟨"NoneWords$Writer", "numberOfSentence", "(I)I"⟩
abbrev ws_W_numberOfSentence : List Cond := Cond.code y_W_numberOfSentence b_W_numberOfSentence 2 (some (FieldType.int)) :: TB
set_option maxRecDepth 100000 in
theorem tc_W_numberOfSentence : Cond.code y_W_numberOfSentence b_W_numberOfSentence 2 (some (FieldType.int)) ∈ TB := inTB 602 rfl rfl
theorem mv_W_numberOfSentence : Cond.instanceMethod y_W_numberOfSentence ∈ TB ∧ Cond.selects "NoneWords$Writer" y_W_numberOfSentence y_W_numberOfSentence ∈ TB ∧ Cond.initialized "NoneWords$Writer" ∈ TB ∧ Cond.code y_W_numberOfSentence b_W_numberOfSentence 2 (some (FieldType.int)) ∈ TB := ⟨inTB 600 (by decide +kernel) (by decide +kernel), inTB 601 (by decide +kernel) (by decide +kernel), inTB 68 (by decide +kernel) (by decide +kernel), tc_W_numberOfSentence⟩
theorem pd_W_numberOfSentence : y_W_numberOfSentence.cls = "NoneWords$Writer" ∧ y_W_numberOfSentence.cls ≠ "java/lang/invoke/MethodHandle" ∧ y_W_numberOfSentence.cls ≠ "java/lang/invoke/VarHandle" ∧ (parseMethodDescriptor y_W_numberOfSentence.desc).map (fun d => d.parameters.length) = some 1 := by decide +kernel
theorem d_W_numberOfSentence_0 : decode b_W_numberOfSentence 0 = .ok (.aload_n 0, 1) := by decide +kernel
theorem d_W_numberOfSentence_1 : decode b_W_numberOfSentence 1 = .ok (.iload_n 1, 1) := by decide +kernel
theorem d_W_numberOfSentence_2 : decode b_W_numberOfSentence 2 = .ok (.invokevirtual 59, 3) := by decide +kernel
theorem d_W_numberOfSentence_5 : decode b_W_numberOfSentence 5 = .ok (.ifCond .eq 12, 3) := by decide +kernel
theorem d_W_numberOfSentence_8 : decode b_W_numberOfSentence 8 = .ok (.aload_n 0, 1) := by decide +kernel
theorem d_W_numberOfSentence_9 : decode b_W_numberOfSentence 9 = .ok (.getfield 34, 3) := by decide +kernel
theorem d_W_numberOfSentence_12 : decode b_W_numberOfSentence 12 = .ok (.iload_n 1, 1) := by decide +kernel
theorem d_W_numberOfSentence_13 : decode b_W_numberOfSentence 13 = .ok (.iaload, 1) := by decide +kernel
theorem d_W_numberOfSentence_14 : decode b_W_numberOfSentence 14 = .ok (.goto 4, 3) := by decide +kernel
theorem d_W_numberOfSentence_17 : decode b_W_numberOfSentence 17 = .ok (.iconst 0, 1) := by decide +kernel
theorem d_W_numberOfSentence_18 : decode b_W_numberOfSentence 18 = .ok (.ireturn, 1) := by decide +kernel
abbrev rm_W_numberOfSentence : Room := { frames := 1, cells := 0, slots := 0, locals := 21 }
def f_W_numberOfSentence (x1 : Int32) (M : Mem) : Option (Int32 × Mem) :=
  ob (f_W_hasSentence x1 M) fun r2 M2 => if r2 = 0 then some ((0 : Int32), M2) else gd (inb x1 120) (some (M2 18 x1.toNatClampNeg, M2))
set_option maxRecDepth 100000 in
theorem g_W_numberOfSentence {r : Int32} {M' : Mem} (C : GC p s m args meth c b_W_numberOfSentence 2 (some (FieldType.int)) "NoneWords$Writer" TB D vwCl (tysW cI cZ cC) A Z) {x1 : Int32} {M : Mem} (hf : f_W_numberOfSentence x1 M = some (r, M')) : GW p l e rm_W_numberOfSentence s m args below meth c (MQ below (QW D vwCl (tysW cI cZ cC) A (some (.int r)) (wc ad cI cZ cC M')) args s 0 0 A) D vwCl A 2 0 0 (wc ad cI cZ cC M) 0 [(0, .ref (ad 11)), (1, .int x1)] [] := by
  unfold f_W_numberOfSentence at hf
  refine gw_aload_n C 0 d_W_numberOfSentence_0 rfl rfl ?_
  refine gw_iload_n C 1 d_W_numberOfSentence_1 rfl rfl ?_
  obtain ⟨r2, M2, hc2, hf⟩ := ob_some hf
  refine gw_callVr (rest := []) C 11 wcg_11 clg_3 (c_W_hasSentence C.2.2.2.2.2.2.2.2.2.2 hc2) (cwV 1 C.2.2.2.2.1 (gTB_V tw_433 mv_W_hasSentence) rfl rfl rfl pd_W_hasSentence ⟨Nat.le_of_ble_eq_true rfl, Nat.le_of_ble_eq_true rfl⟩) rfl rfl (Nat.le_of_ble_eq_true rfl) d_W_numberOfSentence_2 ⟨Nat.le_of_ble_eq_true rfl, Nat.le_of_ble_eq_true rfl⟩ ?_
  refine gw_if_eq (tgt := 17) C d_W_numberOfSentence_5 (by decide) (fun c => ?_) (fun c => ?_)
  · have hf := (if_pos c).symm.trans hf
    refine gw_iconst (v := (0 : Int32)) C d_W_numberOfSentence_17 (by decide) ?_
    exact gw_ireti C d_W_numberOfSentence_18 (wc ad cI cZ cC) hf
  · have hf := (if_neg c).symm.trans hf
    refine gw_aload_n C 0 d_W_numberOfSentence_8 rfl rfl ?_
    refine gw_get C in_W 11 wcg_11 clg_3 8 (by decide) tw_142 rfl rfl d_W_numberOfSentence_9 ?_
    refine gw_iload_n C 1 d_W_numberOfSentence_12 rfl rfl ?_
    obtain ⟨hb13, hf⟩ := gd_some hf
    refine gw_iald C 18 0 wcg_18 rfl hb13 d_W_numberOfSentence_13 ?_
    refine gw_goto (tgt := 18) C d_W_numberOfSentence_14 (by decide) ?_
    exact gw_ireti C d_W_numberOfSentence_18 (wc ad cI cZ cC) hf
theorem c_W_numberOfSentence (hZ : gw_ZOK Z) {x1 : Int32} {M : Mem} {r : Int32} {M' : Mem} (hf : f_W_numberOfSentence x1 M = some (r, M')) : CW l y_W_numberOfSentence ws_W_numberOfSentence rm_W_numberOfSentence D vwCl (tysW cI cZ cC) Z [.ref (ad 11), .int x1] (wc ad cI cZ cC M) (some (.int r)) (wc ad cI cZ cC M') 0 0 :=
  CW.ofG hZ (by decide) rfl (Nat.le_of_ble_eq_true rfl) (fun _ _ _ _ _ _ _ _ C _ => g_W_numberOfSentence C hf)
abbrev b_W_numberOfNode : ByteArray := prog_5_method_8_code
def y_W_numberOfNode : MethodName := ⟨"NoneWords$Writer", "numberOfNode", "(I)I"⟩
abbrev ws_W_numberOfNode : List Cond := Cond.code y_W_numberOfNode b_W_numberOfNode 2 (some (FieldType.int)) :: TB
set_option maxRecDepth 100000 in
theorem tc_W_numberOfNode : Cond.code y_W_numberOfNode b_W_numberOfNode 2 (some (FieldType.int)) ∈ TB := inTB 377 rfl rfl
theorem mv_W_numberOfNode : Cond.instanceMethod y_W_numberOfNode ∈ TB ∧ Cond.selects "NoneWords$Writer" y_W_numberOfNode y_W_numberOfNode ∈ TB ∧ Cond.initialized "NoneWords$Writer" ∈ TB ∧ Cond.code y_W_numberOfNode b_W_numberOfNode 2 (some (FieldType.int)) ∈ TB := ⟨inTB 375 (by decide +kernel) (by decide +kernel), inTB 376 (by decide +kernel) (by decide +kernel), inTB 68 (by decide +kernel) (by decide +kernel), tc_W_numberOfNode⟩
theorem pd_W_numberOfNode : y_W_numberOfNode.cls = "NoneWords$Writer" ∧ y_W_numberOfNode.cls ≠ "java/lang/invoke/MethodHandle" ∧ y_W_numberOfNode.cls ≠ "java/lang/invoke/VarHandle" ∧ (parseMethodDescriptor y_W_numberOfNode.desc).map (fun d => d.parameters.length) = some 1 := by decide +kernel
theorem d_W_numberOfNode_0 : decode b_W_numberOfNode 0 = .ok (.aload_n 0, 1) := by decide +kernel
theorem d_W_numberOfNode_1 : decode b_W_numberOfNode 1 = .ok (.getfield 55, 3) := by decide +kernel
theorem d_W_numberOfNode_4 : decode b_W_numberOfNode 4 = .ok (.iload_n 1, 1) := by decide +kernel
theorem d_W_numberOfNode_5 : decode b_W_numberOfNode 5 = .ok (.invokevirtual 63, 3) := by decide +kernel
theorem d_W_numberOfNode_8 : decode b_W_numberOfNode 8 = .ok (.ifCond .eq 12, 3) := by decide +kernel
theorem d_W_numberOfNode_11 : decode b_W_numberOfNode 11 = .ok (.aload_n 0, 1) := by decide +kernel
theorem d_W_numberOfNode_12 : decode b_W_numberOfNode 12 = .ok (.getfield 15, 3) := by decide +kernel
theorem d_W_numberOfNode_15 : decode b_W_numberOfNode 15 = .ok (.iload_n 1, 1) := by decide +kernel
theorem d_W_numberOfNode_16 : decode b_W_numberOfNode 16 = .ok (.iaload, 1) := by decide +kernel
theorem d_W_numberOfNode_17 : decode b_W_numberOfNode 17 = .ok (.goto 4, 3) := by decide +kernel
theorem d_W_numberOfNode_20 : decode b_W_numberOfNode 20 = .ok (.iconst 0, 1) := by decide +kernel
theorem d_W_numberOfNode_21 : decode b_W_numberOfNode 21 = .ok (.ireturn, 1) := by decide +kernel
abbrev rm_W_numberOfNode : Room := { frames := 1, cells := 0, slots := 0, locals := 21 }
def f_W_numberOfNode (x1 : Int32) (M : Mem) : Option (Int32 × Mem) :=
  ob (f_F_hasNode x1 M) fun r5 M5 => if r5 = 0 then some ((0 : Int32), M5) else gd (inb x1 120) (some (M5 13 x1.toNatClampNeg, M5))
set_option maxRecDepth 100000 in
theorem g_W_numberOfNode {r : Int32} {M' : Mem} (C : GC p s m args meth c b_W_numberOfNode 2 (some (FieldType.int)) "NoneWords$Writer" TB D vwCl (tysW cI cZ cC) A Z) {x1 : Int32} {M : Mem} (hf : f_W_numberOfNode x1 M = some (r, M')) : GW p l e rm_W_numberOfNode s m args below meth c (MQ below (QW D vwCl (tysW cI cZ cC) A (some (.int r)) (wc ad cI cZ cC M')) args s 0 0 A) D vwCl A 2 0 0 (wc ad cI cZ cC M) 0 [(0, .ref (ad 11)), (1, .int x1)] [] := by
  unfold f_W_numberOfNode at hf
  refine gw_aload_n C 0 d_W_numberOfNode_0 rfl rfl ?_
  refine gw_get C in_W 11 wcg_11 clg_3 0 (by decide) tw_134 rfl rfl d_W_numberOfNode_1 ?_
  refine gw_iload_n C 1 d_W_numberOfNode_4 rfl rfl ?_
  obtain ⟨r5, M5, hc5, hf⟩ := ob_some hf
  refine gw_callVr (rest := []) C 1 wcg_1 clg_0 (c_F_hasNode C.2.2.2.2.2.2.2.2.2.2 hc5) (cwV 1 C.2.2.2.2.1 (gTB_V tw_345 mv_F_hasNode) rfl rfl rfl pd_F_hasNode ⟨Nat.le_of_ble_eq_true rfl, Nat.le_of_ble_eq_true rfl⟩) rfl rfl (Nat.le_of_ble_eq_true rfl) d_W_numberOfNode_5 ⟨Nat.le_of_ble_eq_true rfl, Nat.le_of_ble_eq_true rfl⟩ ?_
  refine gw_if_eq (tgt := 20) C d_W_numberOfNode_8 (by decide) (fun c => ?_) (fun c => ?_)
  · have hf := (if_pos c).symm.trans hf
    refine gw_iconst (v := (0 : Int32)) C d_W_numberOfNode_20 (by decide) ?_
    exact gw_ireti C d_W_numberOfNode_21 (wc ad cI cZ cC) hf
  · have hf := (if_neg c).symm.trans hf
    refine gw_aload_n C 0 d_W_numberOfNode_11 rfl rfl ?_
    refine gw_get C in_W 11 wcg_11 clg_3 2 (by decide) tw_136 rfl rfl d_W_numberOfNode_12 ?_
    refine gw_iload_n C 1 d_W_numberOfNode_15 rfl rfl ?_
    obtain ⟨hb16, hf⟩ := gd_some hf
    refine gw_iald C 13 0 wcg_13 rfl hb16 d_W_numberOfNode_16 ?_
    refine gw_goto (tgt := 21) C d_W_numberOfNode_17 (by decide) ?_
    exact gw_ireti C d_W_numberOfNode_21 (wc ad cI cZ cC) hf
theorem c_W_numberOfNode (hZ : gw_ZOK Z) {x1 : Int32} {M : Mem} {r : Int32} {M' : Mem} (hf : f_W_numberOfNode x1 M = some (r, M')) : CW l y_W_numberOfNode ws_W_numberOfNode rm_W_numberOfNode D vwCl (tysW cI cZ cC) Z [.ref (ad 11), .int x1] (wc ad cI cZ cC M) (some (.int r)) (wc ad cI cZ cC M') 0 0 :=
  CW.ofG hZ (by decide) rfl (Nat.le_of_ble_eq_true rfl) (fun _ _ _ _ _ _ _ _ C _ => g_W_numberOfNode C hf)
abbrev b_W_countUse : ByteArray := prog_5_method_11_code
def y_W_countUse : MethodName := ⟨"NoneWords$Writer", "countUse", "(I)V"⟩
abbrev ws_W_countUse : List Cond := Cond.code y_W_countUse b_W_countUse 2 (none) :: TB
set_option maxRecDepth 100000 in
theorem tc_W_countUse : Cond.code y_W_countUse b_W_countUse 2 (none) ∈ TB := inTB 344 rfl rfl
theorem mv_W_countUse : Cond.instanceMethod y_W_countUse ∈ TB ∧ Cond.selects "NoneWords$Writer" y_W_countUse y_W_countUse ∈ TB ∧ Cond.initialized "NoneWords$Writer" ∈ TB ∧ Cond.code y_W_countUse b_W_countUse 2 (none) ∈ TB := ⟨inTB 343 (by decide +kernel) (by decide +kernel), inTB 2 (by decide +kernel) (by decide +kernel), inTB 68 (by decide +kernel) (by decide +kernel), tc_W_countUse⟩
theorem pd_W_countUse : y_W_countUse.cls = "NoneWords$Writer" ∧ y_W_countUse.cls ≠ "java/lang/invoke/MethodHandle" ∧ y_W_countUse.cls ≠ "java/lang/invoke/VarHandle" ∧ (parseMethodDescriptor y_W_countUse.desc).map (fun d => d.parameters.length) = some 1 := by decide +kernel
theorem d_W_countUse_0 : decode b_W_countUse 0 = .ok (.aload_n 0, 1) := by decide +kernel
theorem d_W_countUse_1 : decode b_W_countUse 1 = .ok (.getfield 55, 3) := by decide +kernel
theorem d_W_countUse_4 : decode b_W_countUse 4 = .ok (.iload_n 1, 1) := by decide +kernel
theorem d_W_countUse_5 : decode b_W_countUse 5 = .ok (.invokevirtual 63, 3) := by decide +kernel
theorem d_W_countUse_8 : decode b_W_countUse 8 = .ok (.ifCond .eq 13, 3) := by decide +kernel
theorem d_W_countUse_11 : decode b_W_countUse 11 = .ok (.aload_n 0, 1) := by decide +kernel
theorem d_W_countUse_12 : decode b_W_countUse 12 = .ok (.getfield 9, 3) := by decide +kernel
theorem d_W_countUse_15 : decode b_W_countUse 15 = .ok (.iload_n 1, 1) := by decide +kernel
theorem d_W_countUse_16 : decode b_W_countUse 16 = .ok (.dup2, 1) := by decide +kernel
theorem d_W_countUse_17 : decode b_W_countUse 17 = .ok (.iaload, 1) := by decide +kernel
theorem d_W_countUse_18 : decode b_W_countUse 18 = .ok (.iconst 1, 1) := by decide +kernel
theorem d_W_countUse_19 : decode b_W_countUse 19 = .ok (.iadd, 1) := by decide +kernel
theorem d_W_countUse_20 : decode b_W_countUse 20 = .ok (.iastore, 1) := by decide +kernel
theorem d_W_countUse_21 : decode b_W_countUse 21 = .ok (.return_, 1) := by decide +kernel
abbrev rm_W_countUse : Room := { frames := 1, cells := 0, slots := 0, locals := 21 }
def f_W_countUse (x1 : Int32) (M : Mem) : Option Mem :=
  ob (f_F_hasNode x1 M) fun r5 M5 => if r5 = 0 then some M5 else gd (inb x1 120) (gd (inb x1 120) (some (ms M5 12 x1.toNatClampNeg ((M5 12 x1.toNatClampNeg) + (1 : Int32)))))
set_option maxRecDepth 100000 in
theorem g_W_countUse {M' : Mem} (C : GC p s m args meth c b_W_countUse 2 (none) "NoneWords$Writer" TB D vwCl (tysW cI cZ cC) A Z) {x1 : Int32} {M : Mem} (hf : f_W_countUse x1 M = some M') : GW p l e rm_W_countUse s m args below meth c (MQ below (QW D vwCl (tysW cI cZ cC) A none (wc ad cI cZ cC M')) args s 0 0 A) D vwCl A 2 0 0 (wc ad cI cZ cC M) 0 [(0, .ref (ad 11)), (1, .int x1)] [] := by
  unfold f_W_countUse at hf
  refine gw_aload_n C 0 d_W_countUse_0 rfl rfl ?_
  refine gw_get C in_W 11 wcg_11 clg_3 0 (by decide) tw_134 rfl rfl d_W_countUse_1 ?_
  refine gw_iload_n C 1 d_W_countUse_4 rfl rfl ?_
  obtain ⟨r5, M5, hc5, hf⟩ := ob_some hf
  refine gw_callVr (rest := []) C 1 wcg_1 clg_0 (c_F_hasNode C.2.2.2.2.2.2.2.2.2.2 hc5) (cwV 1 C.2.2.2.2.1 (gTB_V tw_345 mv_F_hasNode) rfl rfl rfl pd_F_hasNode ⟨Nat.le_of_ble_eq_true rfl, Nat.le_of_ble_eq_true rfl⟩) rfl rfl (Nat.le_of_ble_eq_true rfl) d_W_countUse_5 ⟨Nat.le_of_ble_eq_true rfl, Nat.le_of_ble_eq_true rfl⟩ ?_
  refine gw_if_eq (tgt := 21) C d_W_countUse_8 (by decide) (fun c => ?_) (fun c => ?_)
  · have hf := (if_pos c).symm.trans hf
    exact gw_vreti C d_W_countUse_21 (wc ad cI cZ cC) hf
  · have hf := (if_neg c).symm.trans hf
    refine gw_aload_n C 0 d_W_countUse_11 rfl rfl ?_
    refine gw_get C in_W 11 wcg_11 clg_3 1 (by decide) tw_135 rfl rfl d_W_countUse_12 ?_
    refine gw_iload_n C 1 d_W_countUse_15 rfl rfl ?_
    refine gw_dup2 C d_W_countUse_16 rfl rfl ?_
    obtain ⟨hb17, hf⟩ := gd_some hf
    refine gw_iald C 12 0 wcg_12 rfl hb17 d_W_countUse_17 ?_
    refine gw_iconst (v := (1 : Int32)) C d_W_countUse_18 (by decide) ?_
    refine gw_iadd C d_W_countUse_19 ?_
    obtain ⟨hb20, hf⟩ := gd_some hf
    refine gw_iast C 12 0 wcg_12 rfl hb20 d_W_countUse_20 wca_12 ?_
    exact gw_vreti C d_W_countUse_21 (wc ad cI cZ cC) hf
theorem c_W_countUse (hZ : gw_ZOK Z) {x1 : Int32} {M : Mem} {M' : Mem} (hf : f_W_countUse x1 M = some M') : CW l y_W_countUse ws_W_countUse rm_W_countUse D vwCl (tysW cI cZ cC) Z [.ref (ad 11), .int x1] (wc ad cI cZ cC M) none (wc ad cI cZ cC M') 0 0 :=
  CW.ofG hZ (by decide) rfl (Nat.le_of_ble_eq_true rfl) (fun _ _ _ _ _ _ _ _ C _ => g_W_countUse C hf)
abbrev b_W_countUses : ByteArray := prog_5_method_10_code
def y_W_countUses : MethodName := ⟨"NoneWords$Writer", "countUses", "(I)V"⟩
abbrev ws_W_countUses : List Cond := Cond.code y_W_countUses b_W_countUses 3 (none) :: TB
set_option maxRecDepth 100000 in
theorem tc_W_countUses : Cond.code y_W_countUses b_W_countUses 3 (none) ∈ TB := inTB 336 rfl rfl
theorem mv_W_countUses : Cond.instanceMethod y_W_countUses ∈ TB ∧ Cond.selects "NoneWords$Writer" y_W_countUses y_W_countUses ∈ TB ∧ Cond.initialized "NoneWords$Writer" ∈ TB ∧ Cond.code y_W_countUses b_W_countUses 3 (none) ∈ TB := ⟨inTB 335 (by decide +kernel) (by decide +kernel), inTB 1 (by decide +kernel) (by decide +kernel), inTB 68 (by decide +kernel) (by decide +kernel), tc_W_countUses⟩
theorem pd_W_countUses : y_W_countUses.cls = "NoneWords$Writer" ∧ y_W_countUses.cls ≠ "java/lang/invoke/MethodHandle" ∧ y_W_countUses.cls ≠ "java/lang/invoke/VarHandle" ∧ (parseMethodDescriptor y_W_countUses.desc).map (fun d => d.parameters.length) = some 1 := by decide +kernel
theorem d_W_countUses_0 : decode b_W_countUses 0 = .ok (.aload_n 0, 1) := by decide +kernel
theorem d_W_countUses_1 : decode b_W_countUses 1 = .ok (.getfield 9, 3) := by decide +kernel
theorem d_W_countUses_4 : decode b_W_countUses 4 = .ok (.iconst 0, 1) := by decide +kernel
theorem d_W_countUses_5 : decode b_W_countUses 5 = .ok (.invokestatic 68, 3) := by decide +kernel
theorem d_W_countUses_8 : decode b_W_countUses 8 = .ok (.iload_n 1, 1) := by decide +kernel
theorem d_W_countUses_9 : decode b_W_countUses 9 = .ok (.istore_n 2, 1) := by decide +kernel
theorem d_W_countUses_10 : decode b_W_countUses 10 = .ok (.iload_n 2, 1) := by decide +kernel
theorem d_W_countUses_11 : decode b_W_countUses 11 = .ok (.ifCond .lt 47, 3) := by decide +kernel
theorem d_W_countUses_14 : decode b_W_countUses 14 = .ok (.iload_n 2, 1) := by decide +kernel
theorem d_W_countUses_15 : decode b_W_countUses 15 = .ok (.iload_n 1, 1) := by decide +kernel
theorem d_W_countUses_16 : decode b_W_countUses 16 = .ok (.if_icmp .eq 12, 3) := by decide +kernel
theorem d_W_countUses_19 : decode b_W_countUses 19 = .ok (.aload_n 0, 1) := by decide +kernel
theorem d_W_countUses_20 : decode b_W_countUses 20 = .ok (.getfield 9, 3) := by decide +kernel
theorem d_W_countUses_23 : decode b_W_countUses 23 = .ok (.iload_n 2, 1) := by decide +kernel
theorem d_W_countUses_24 : decode b_W_countUses 24 = .ok (.iaload, 1) := by decide +kernel
theorem d_W_countUses_25 : decode b_W_countUses 25 = .ok (.ifCond .le 27, 3) := by decide +kernel
theorem d_W_countUses_28 : decode b_W_countUses 28 = .ok (.aload_n 0, 1) := by decide +kernel
theorem d_W_countUses_29 : decode b_W_countUses 29 = .ok (.aload_n 0, 1) := by decide +kernel
theorem d_W_countUses_30 : decode b_W_countUses 30 = .ok (.getfield 55, 3) := by decide +kernel
theorem d_W_countUses_33 : decode b_W_countUses 33 = .ok (.iload_n 2, 1) := by decide +kernel
theorem d_W_countUses_34 : decode b_W_countUses 34 = .ok (.invokevirtual 92, 3) := by decide +kernel
theorem d_W_countUses_37 : decode b_W_countUses 37 = .ok (.invokevirtual 96, 3) := by decide +kernel
theorem d_W_countUses_40 : decode b_W_countUses 40 = .ok (.aload_n 0, 1) := by decide +kernel
theorem d_W_countUses_41 : decode b_W_countUses 41 = .ok (.aload_n 0, 1) := by decide +kernel
theorem d_W_countUses_42 : decode b_W_countUses 42 = .ok (.getfield 55, 3) := by decide +kernel
theorem d_W_countUses_45 : decode b_W_countUses 45 = .ok (.iload_n 2, 1) := by decide +kernel
theorem d_W_countUses_46 : decode b_W_countUses 46 = .ok (.invokevirtual 99, 3) := by decide +kernel
theorem d_W_countUses_49 : decode b_W_countUses 49 = .ok (.invokevirtual 96, 3) := by decide +kernel
theorem d_W_countUses_52 : decode b_W_countUses 52 = .ok (.iinc 2 (-1), 3) := by decide +kernel
theorem d_W_countUses_55 : decode b_W_countUses 55 = .ok (.goto (-45), 3) := by decide +kernel
theorem d_W_countUses_58 : decode b_W_countUses 58 = .ok (.return_, 1) := by decide +kernel
abbrev rm_W_countUses : Room := { frames := 2, cells := 0, slots := 0, locals := 42 }
def f_W_countUses_28 (k10 : Int32 → Int32 → Mem → Option Mem) (x1 : Int32) (x2 : Int32) (M : Mem) : Option Mem :=
  ob (f_F_leftPart x2 M) fun r34 M34 => om (f_W_countUse r34 M34) fun M37 => ob (f_F_rightPart x2 M37) fun r46 M46 => om (f_W_countUse r46 M46) fun M49 => k10 x1 (x2 + (-1 : Int32)) M49
set_option maxRecDepth 100000 in
theorem g_W_countUses_28 {M' : Mem} (C : GC p s m args meth c b_W_countUses 3 (none) "NoneWords$Writer" TB D vwCl (tysW cI cZ cC) A Z) {k10 : Int32 → Int32 → Mem → Option Mem} (hk10 : ∀ (x1 : Int32) (x2 : Int32) (M : Mem), k10 x1 x2 M = some M' → GW p l e rm_W_countUses s m args below meth c (MQ below (QW D vwCl (tysW cI cZ cC) A none (wc ad cI cZ cC M')) args s 0 0 A) D vwCl A 3 0 0 (wc ad cI cZ cC M) 10 [(0, .ref (ad 11)), (1, .int x1), (2, .int x2)] []) {x1 : Int32} {x2 : Int32} {M : Mem} (hf : f_W_countUses_28 k10 x1 x2 M = some M') : GW p l e rm_W_countUses s m args below meth c (MQ below (QW D vwCl (tysW cI cZ cC) A none (wc ad cI cZ cC M')) args s 0 0 A) D vwCl A 3 0 0 (wc ad cI cZ cC M) 28 [(0, .ref (ad 11)), (1, .int x1), (2, .int x2)] [] := by
  unfold f_W_countUses_28 at hf
  refine gw_aload_n C 0 d_W_countUses_28 rfl rfl ?_
  refine gw_aload_n C 0 d_W_countUses_29 rfl rfl ?_
  refine gw_get C in_W 11 wcg_11 clg_3 0 (by decide) tw_134 rfl rfl d_W_countUses_30 ?_
  refine gw_iload_n C 2 d_W_countUses_33 rfl rfl ?_
  obtain ⟨r34, M34, hc34, hf⟩ := ob_some hf
  refine gw_callVr (rest := [.ref (ad 11)]) C 1 wcg_1 clg_0 (c_F_leftPart C.2.2.2.2.2.2.2.2.2.2 hc34) (cwV 1 C.2.2.2.2.1 (gTB_V tw_337 mv_F_leftPart) rfl rfl rfl pd_F_leftPart ⟨Nat.le_of_ble_eq_true rfl, Nat.le_of_ble_eq_true rfl⟩) rfl rfl (Nat.le_of_ble_eq_true rfl) d_W_countUses_34 ⟨Nat.le_of_ble_eq_true rfl, Nat.le_of_ble_eq_true rfl⟩ ?_
  obtain ⟨M37, hc37, hf⟩ := om_some hf
  refine gw_callVv (rest := []) C 11 wcg_11 clg_3 (c_W_countUse C.2.2.2.2.2.2.2.2.2.2 hc37) (cwV 1 C.2.2.2.2.1 (gTB_V tw_341 mv_W_countUse) rfl rfl rfl pd_W_countUse ⟨Nat.le_of_ble_eq_true rfl, Nat.le_of_ble_eq_true rfl⟩) rfl rfl (Nat.le_of_ble_eq_true rfl) d_W_countUses_37 ⟨Nat.le_of_ble_eq_true rfl, Nat.le_of_ble_eq_true rfl⟩ ?_
  refine gw_aload_n C 0 d_W_countUses_40 rfl rfl ?_
  refine gw_aload_n C 0 d_W_countUses_41 rfl rfl ?_
  refine gw_get C in_W 11 wcg_11 clg_3 0 (by decide) tw_134 rfl rfl d_W_countUses_42 ?_
  refine gw_iload_n C 2 d_W_countUses_45 rfl rfl ?_
  obtain ⟨r46, M46, hc46, hf⟩ := ob_some hf
  refine gw_callVr (rest := [.ref (ad 11)]) C 1 wcg_1 clg_0 (c_F_rightPart C.2.2.2.2.2.2.2.2.2.2 hc46) (cwV 1 C.2.2.2.2.1 (gTB_V tw_346 mv_F_rightPart) rfl rfl rfl pd_F_rightPart ⟨Nat.le_of_ble_eq_true rfl, Nat.le_of_ble_eq_true rfl⟩) rfl rfl (Nat.le_of_ble_eq_true rfl) d_W_countUses_46 ⟨Nat.le_of_ble_eq_true rfl, Nat.le_of_ble_eq_true rfl⟩ ?_
  obtain ⟨M49, hc49, hf⟩ := om_some hf
  refine gw_callVv (rest := []) C 11 wcg_11 clg_3 (c_W_countUse C.2.2.2.2.2.2.2.2.2.2 hc49) (cwV 1 C.2.2.2.2.1 (gTB_V tw_341 mv_W_countUse) rfl rfl rfl pd_W_countUse ⟨Nat.le_of_ble_eq_true rfl, Nat.le_of_ble_eq_true rfl⟩) rfl rfl (Nat.le_of_ble_eq_true rfl) d_W_countUses_49 ⟨Nat.le_of_ble_eq_true rfl, Nat.le_of_ble_eq_true rfl⟩ ?_
  refine gw_iinc (v := x2 + (-1 : Int32)) (lv' := [(2, .int (x2 + (-1 : Int32))), (0, .ref (ad 11)), (1, .int x1)]) C 2 d_W_countUses_52 rfl rfl (by decide) rfl ?_
  refine gw_goto (tgt := 10) C d_W_countUses_55 (by decide) ?_
  exact gw_sub [1, 2, 0] rfl (hk10 _ _ _ hf)
def f_W_countUses_10 : Nat → Int32 → Int32 → Mem → Option Mem
  | 0, _, _, _ => none
  | n + 1, x1, x2, M => if x2 < 0 then some M else if x2 = x1 then f_W_countUses_28 (f_W_countUses_10 n) x1 x2 M else gd (inb x2 120) (if (M 12 x2.toNatClampNeg) ≤ 0 then (f_W_countUses_10 n) x1 (x2 + (-1 : Int32)) M else f_W_countUses_28 (f_W_countUses_10 n) x1 x2 M)
set_option maxRecDepth 100000 in
theorem g_W_countUses_10 {M' : Mem} (C : GC p s m args meth c b_W_countUses 3 (none) "NoneWords$Writer" TB D vwCl (tysW cI cZ cC) A Z) : ∀ (n : Nat) (x1 : Int32) (x2 : Int32) (M : Mem), f_W_countUses_10 n x1 x2 M = some M' → GW p l e rm_W_countUses s m args below meth c (MQ below (QW D vwCl (tysW cI cZ cC) A none (wc ad cI cZ cC M')) args s 0 0 A) D vwCl A 3 0 0 (wc ad cI cZ cC M) 10 [(0, .ref (ad 11)), (1, .int x1), (2, .int x2)] [] := by
  intro n
  induction n with
  | zero => intro _ _ _ hf; cases hf
  | succ n ih =>
    intro x1 x2 M hf
    rw [f_W_countUses_10] at hf
    refine gw_iload_n C 2 d_W_countUses_10 rfl rfl ?_
    refine gw_if_lt (tgt := 58) C d_W_countUses_11 (by decide) (fun c => ?_) (fun c => ?_)
    · have hf := (if_pos c).symm.trans hf
      exact gw_vreti C d_W_countUses_58 (wc ad cI cZ cC) hf
    · have hf := (if_neg c).symm.trans hf
      refine gw_iload_n C 2 d_W_countUses_14 rfl rfl ?_
      refine gw_iload_n C 1 d_W_countUses_15 rfl rfl ?_
      refine gw_icmp_eq (tgt := 28) C d_W_countUses_16 (by decide) (fun c => ?_) (fun c => ?_)
      · have hf := (if_pos c).symm.trans hf
        exact gw_sub [0, 1, 2] rfl (g_W_countUses_28 C ih hf)
      · have hf := (if_neg c).symm.trans hf
        refine gw_aload_n C 0 d_W_countUses_19 rfl rfl ?_
        refine gw_get C in_W 11 wcg_11 clg_3 1 (by decide) tw_135 rfl rfl d_W_countUses_20 ?_
        refine gw_iload_n C 2 d_W_countUses_23 rfl rfl ?_
        obtain ⟨hb24, hf⟩ := gd_some hf
        refine gw_iald C 12 0 wcg_12 rfl hb24 d_W_countUses_24 ?_
        refine gw_if_le (tgt := 52) C d_W_countUses_25 (by decide) (fun c => ?_) (fun c => ?_)
        · have hf := (if_pos c).symm.trans hf
          refine gw_iinc (v := x2 + (-1 : Int32)) (lv' := [(2, .int (x2 + (-1 : Int32))), (0, .ref (ad 11)), (1, .int x1)]) C 2 d_W_countUses_52 rfl rfl (by decide) rfl ?_
          refine gw_goto (tgt := 10) C d_W_countUses_55 (by decide) ?_
          exact gw_sub [1, 2, 0] rfl (ih _ _ _ hf)
        · have hf := (if_neg c).symm.trans hf
          exact gw_sub [0, 1, 2] rfl (g_W_countUses_28 C ih hf)
def f_W_countUses (x1 : Int32) (M : Mem) : Option Mem :=
  f_W_countUses_10 100000 x1 x1 (mf M 12 120 (0 : Int32))
set_option maxRecDepth 100000 in
theorem g_W_countUses {M' : Mem} (C : GC p s m args meth c b_W_countUses 3 (none) "NoneWords$Writer" TB D vwCl (tysW cI cZ cC) A Z) {x1 : Int32} {M : Mem} (hf : f_W_countUses x1 M = some M') : GW p l e rm_W_countUses s m args below meth c (MQ below (QW D vwCl (tysW cI cZ cC) A none (wc ad cI cZ cC M')) args s 0 0 A) D vwCl A 3 0 0 (wc ad cI cZ cC M) 0 [(0, .ref (ad 11)), (1, .int x1)] [] := by
  unfold f_W_countUses at hf
  refine gw_aload_n C 0 d_W_countUses_0 rfl rfl ?_
  refine gw_get C in_W 11 wcg_11 clg_3 1 (by decide) tw_135 rfl rfl d_W_countUses_1 ?_
  refine gw_iconst (v := (0 : Int32)) C d_W_countUses_4 (by decide) ?_
  refine gw_callSv (rest := []) C (c_A_fill C.2.2.2.2.2.2.2.2.2.2 12 0 wcg_12 rfl (by decide) wcz_12) (va_cwS 2 C.2.2.2.2.1 (gTB_vS rfl tw_332 mv_A_fill) rfl rfl rfl pd_A_fill.2 ⟨Nat.le_of_ble_eq_true rfl, Nat.le_of_ble_eq_true rfl⟩) rfl rfl (Nat.le_of_ble_eq_true rfl) d_W_countUses_5 ⟨Nat.le_of_ble_eq_true rfl, Nat.le_of_ble_eq_true rfl⟩ ?_
  refine gw_iload_n C 1 d_W_countUses_8 rfl rfl ?_
  refine gw_istore_n (lv' := [(2, .int x1), (0, .ref (ad 11)), (1, .int x1)]) C d_W_countUses_9 rfl (by decide) rfl ?_
  exact gw_sub [1, 2, 0] rfl (g_W_countUses_10 C _ _ _ _ hf)
theorem c_W_countUses (hZ : gw_ZOK Z) {x1 : Int32} {M : Mem} {M' : Mem} (hf : f_W_countUses x1 M = some M') : CW l y_W_countUses ws_W_countUses rm_W_countUses D vwCl (tysW cI cZ cC) Z [.ref (ad 11), .int x1] (wc ad cI cZ cC M) none (wc ad cI cZ cC M') 0 0 :=
  CW.ofG hZ (by decide) rfl (Nat.le_of_ble_eq_true rfl) (fun _ _ _ _ _ _ _ _ C _ => g_W_countUses C hf)
abbrev b_W_await : ByteArray := prog_5_method_12_code
def y_W_await : MethodName := ⟨"NoneWords$Writer", "await", "(IIII)V"⟩
abbrev ws_W_await : List Cond := Cond.code y_W_await b_W_await 5 (none) :: TB
set_option maxRecDepth 100000 in
theorem tc_W_await : Cond.code y_W_await b_W_await 5 (none) ∈ TB := inTB 353 rfl rfl
theorem mv_W_await : Cond.instanceMethod y_W_await ∈ TB ∧ Cond.selects "NoneWords$Writer" y_W_await y_W_await ∈ TB ∧ Cond.initialized "NoneWords$Writer" ∈ TB ∧ Cond.code y_W_await b_W_await 5 (none) ∈ TB := ⟨inTB 352 (by decide +kernel) (by decide +kernel), inTB 3 (by decide +kernel) (by decide +kernel), inTB 68 (by decide +kernel) (by decide +kernel), tc_W_await⟩
theorem pd_W_await : y_W_await.cls = "NoneWords$Writer" ∧ y_W_await.cls ≠ "java/lang/invoke/MethodHandle" ∧ y_W_await.cls ≠ "java/lang/invoke/VarHandle" ∧ (parseMethodDescriptor y_W_await.desc).map (fun d => d.parameters.length) = some 4 := by decide +kernel
theorem d_W_await_0 : decode b_W_await 0 = .ok (.aload_n 0, 1) := by decide +kernel
theorem d_W_await_1 : decode b_W_await 1 = .ok (.getfield 52, 3) := by decide +kernel
theorem d_W_await_4 : decode b_W_await 4 = .ok (.bipush 121, 2) := by decide +kernel
theorem d_W_await_6 : decode b_W_await 6 = .ok (.if_icmp .ge 54, 3) := by decide +kernel
theorem d_W_await_9 : decode b_W_await 9 = .ok (.aload_n 0, 1) := by decide +kernel
theorem d_W_await_10 : decode b_W_await 10 = .ok (.getfield 40, 3) := by decide +kernel
theorem d_W_await_13 : decode b_W_await 13 = .ok (.aload_n 0, 1) := by decide +kernel
theorem d_W_await_14 : decode b_W_await 14 = .ok (.getfield 52, 3) := by decide +kernel
theorem d_W_await_17 : decode b_W_await 17 = .ok (.iload_n 1, 1) := by decide +kernel
theorem d_W_await_18 : decode b_W_await 18 = .ok (.iastore, 1) := by decide +kernel
theorem d_W_await_19 : decode b_W_await 19 = .ok (.aload_n 0, 1) := by decide +kernel
theorem d_W_await_20 : decode b_W_await 20 = .ok (.getfield 43, 3) := by decide +kernel
theorem d_W_await_23 : decode b_W_await 23 = .ok (.aload_n 0, 1) := by decide +kernel
theorem d_W_await_24 : decode b_W_await 24 = .ok (.getfield 52, 3) := by decide +kernel
theorem d_W_await_27 : decode b_W_await 27 = .ok (.iload_n 2, 1) := by decide +kernel
theorem d_W_await_28 : decode b_W_await 28 = .ok (.iastore, 1) := by decide +kernel
theorem d_W_await_29 : decode b_W_await 29 = .ok (.aload_n 0, 1) := by decide +kernel
theorem d_W_await_30 : decode b_W_await 30 = .ok (.getfield 46, 3) := by decide +kernel
theorem d_W_await_33 : decode b_W_await 33 = .ok (.aload_n 0, 1) := by decide +kernel
theorem d_W_await_34 : decode b_W_await 34 = .ok (.getfield 52, 3) := by decide +kernel
theorem d_W_await_37 : decode b_W_await 37 = .ok (.iload_n 3, 1) := by decide +kernel
theorem d_W_await_38 : decode b_W_await 38 = .ok (.iastore, 1) := by decide +kernel
theorem d_W_await_39 : decode b_W_await 39 = .ok (.aload_n 0, 1) := by decide +kernel
theorem d_W_await_40 : decode b_W_await 40 = .ok (.getfield 49, 3) := by decide +kernel
theorem d_W_await_43 : decode b_W_await 43 = .ok (.aload_n 0, 1) := by decide +kernel
theorem d_W_await_44 : decode b_W_await 44 = .ok (.getfield 52, 3) := by decide +kernel
theorem d_W_await_47 : decode b_W_await 47 = .ok (.iload 4, 2) := by decide +kernel
theorem d_W_await_49 : decode b_W_await 49 = .ok (.iastore, 1) := by decide +kernel
theorem d_W_await_50 : decode b_W_await 50 = .ok (.aload_n 0, 1) := by decide +kernel
theorem d_W_await_51 : decode b_W_await 51 = .ok (.dup, 1) := by decide +kernel
theorem d_W_await_52 : decode b_W_await 52 = .ok (.getfield 52, 3) := by decide +kernel
theorem d_W_await_55 : decode b_W_await 55 = .ok (.iconst 1, 1) := by decide +kernel
theorem d_W_await_56 : decode b_W_await 56 = .ok (.iadd, 1) := by decide +kernel
theorem d_W_await_57 : decode b_W_await 57 = .ok (.putfield 52, 3) := by decide +kernel
theorem d_W_await_60 : decode b_W_await 60 = .ok (.return_, 1) := by decide +kernel
abbrev rm_W_await : Room := { frames := 0, cells := 0, slots := 0, locals := 0 }
def f_W_await (x1 : Int32) (x2 : Int32) (x3 : Int32) (x4 : Int32) (M : Mem) : Option Mem :=
  if (121 : Int32) ≤ (M 11 14) then some M else gd (inb (M 11 14) 121) (gd (inb ((ms M 19 (M 11 14).toNatClampNeg x1) 11 14) 121) (gd (inb ((ms (ms M 19 (M 11 14).toNatClampNeg x1) 20 ((ms M 19 (M 11 14).toNatClampNeg x1) 11 14).toNatClampNeg x2) 11 14) 121) (gd (inb ((ms (ms (ms M 19 (M 11 14).toNatClampNeg x1) 20 ((ms M 19 (M 11 14).toNatClampNeg x1) 11 14).toNatClampNeg x2) 21 ((ms (ms M 19 (M 11 14).toNatClampNeg x1) 20 ((ms M 19 (M 11 14).toNatClampNeg x1) 11 14).toNatClampNeg x2) 11 14).toNatClampNeg x3) 11 14) 121) (some (ms (ms (ms (ms (ms M 19 (M 11 14).toNatClampNeg x1) 20 ((ms M 19 (M 11 14).toNatClampNeg x1) 11 14).toNatClampNeg x2) 21 ((ms (ms M 19 (M 11 14).toNatClampNeg x1) 20 ((ms M 19 (M 11 14).toNatClampNeg x1) 11 14).toNatClampNeg x2) 11 14).toNatClampNeg x3) 22 ((ms (ms (ms M 19 (M 11 14).toNatClampNeg x1) 20 ((ms M 19 (M 11 14).toNatClampNeg x1) 11 14).toNatClampNeg x2) 21 ((ms (ms M 19 (M 11 14).toNatClampNeg x1) 20 ((ms M 19 (M 11 14).toNatClampNeg x1) 11 14).toNatClampNeg x2) 11 14).toNatClampNeg x3) 11 14).toNatClampNeg x4) 11 14 (((ms (ms (ms (ms M 19 (M 11 14).toNatClampNeg x1) 20 ((ms M 19 (M 11 14).toNatClampNeg x1) 11 14).toNatClampNeg x2) 21 ((ms (ms M 19 (M 11 14).toNatClampNeg x1) 20 ((ms M 19 (M 11 14).toNatClampNeg x1) 11 14).toNatClampNeg x2) 11 14).toNatClampNeg x3) 22 ((ms (ms (ms M 19 (M 11 14).toNatClampNeg x1) 20 ((ms M 19 (M 11 14).toNatClampNeg x1) 11 14).toNatClampNeg x2) 21 ((ms (ms M 19 (M 11 14).toNatClampNeg x1) 20 ((ms M 19 (M 11 14).toNatClampNeg x1) 11 14).toNatClampNeg x2) 11 14).toNatClampNeg x3) 11 14).toNatClampNeg x4) 11 14) + (1 : Int32)))))))
set_option maxRecDepth 100000 in
theorem g_W_await {M' : Mem} (C : GC p s m args meth c b_W_await 5 (none) "NoneWords$Writer" TB D vwCl (tysW cI cZ cC) A Z) {x1 : Int32} {x2 : Int32} {x3 : Int32} {x4 : Int32} {M : Mem} (hf : f_W_await x1 x2 x3 x4 M = some M') : GW p l e rm_W_await s m args below meth c (MQ below (QW D vwCl (tysW cI cZ cC) A none (wc ad cI cZ cC M')) args s 0 0 A) D vwCl A 5 0 0 (wc ad cI cZ cC M) 0 [(0, .ref (ad 11)), (1, .int x1), (2, .int x2), (3, .int x3), (4, .int x4)] [] := by
  unfold f_W_await at hf
  refine gw_aload_n C 0 d_W_await_0 rfl rfl ?_
  refine gw_get C in_W 11 wcg_11 clg_3 14 (by decide) tw_148 rfl rfl d_W_await_1 ?_
  refine gw_bipush (v := (121 : Int32)) C d_W_await_4 (by decide) ?_
  refine gw_icmp_ge (tgt := 60) C d_W_await_6 (by decide) (fun c => ?_) (fun c => ?_)
  · have hf := (if_pos c).symm.trans hf
    exact gw_vreti C d_W_await_60 (wc ad cI cZ cC) hf
  · have hf := (if_neg c).symm.trans hf
    refine gw_aload_n C 0 d_W_await_9 rfl rfl ?_
    refine gw_get C in_W 11 wcg_11 clg_3 10 (by decide) tw_144 rfl rfl d_W_await_10 ?_
    refine gw_aload_n C 0 d_W_await_13 rfl rfl ?_
    refine gw_get C in_W 11 wcg_11 clg_3 14 (by decide) tw_148 rfl rfl d_W_await_14 ?_
    refine gw_iload_n C 1 d_W_await_17 rfl rfl ?_
    obtain ⟨hb18, hf⟩ := gd_some hf
    refine gw_iast C 19 0 wcg_19 rfl hb18 d_W_await_18 wca_19 ?_
    refine gw_aload_n C 0 d_W_await_19 rfl rfl ?_
    refine gw_get C in_W 11 wcg_11 clg_3 11 (by decide) tw_145 rfl rfl d_W_await_20 ?_
    refine gw_aload_n C 0 d_W_await_23 rfl rfl ?_
    refine gw_get C in_W 11 wcg_11 clg_3 14 (by decide) tw_148 rfl rfl d_W_await_24 ?_
    refine gw_iload_n C 2 d_W_await_27 rfl rfl ?_
    obtain ⟨hb28, hf⟩ := gd_some hf
    refine gw_iast C 20 0 wcg_20 rfl hb28 d_W_await_28 wca_20 ?_
    refine gw_aload_n C 0 d_W_await_29 rfl rfl ?_
    refine gw_get C in_W 11 wcg_11 clg_3 12 (by decide) tw_146 rfl rfl d_W_await_30 ?_
    refine gw_aload_n C 0 d_W_await_33 rfl rfl ?_
    refine gw_get C in_W 11 wcg_11 clg_3 14 (by decide) tw_148 rfl rfl d_W_await_34 ?_
    refine gw_iload_n C 3 d_W_await_37 rfl rfl ?_
    obtain ⟨hb38, hf⟩ := gd_some hf
    refine gw_iast C 21 0 wcg_21 rfl hb38 d_W_await_38 wca_21 ?_
    refine gw_aload_n C 0 d_W_await_39 rfl rfl ?_
    refine gw_get C in_W 11 wcg_11 clg_3 13 (by decide) tw_147 rfl rfl d_W_await_40 ?_
    refine gw_aload_n C 0 d_W_await_43 rfl rfl ?_
    refine gw_get C in_W 11 wcg_11 clg_3 14 (by decide) tw_148 rfl rfl d_W_await_44 ?_
    refine gw_iload C 4 d_W_await_47 rfl ?_
    obtain ⟨hb49, hf⟩ := gd_some hf
    refine gw_iast C 22 0 wcg_22 rfl hb49 d_W_await_49 wca_22 ?_
    refine gw_aload_n C 0 d_W_await_50 rfl rfl ?_
    refine gw_dup C d_W_await_51 rfl ?_
    refine gw_get C in_W 11 wcg_11 clg_3 14 (by decide) tw_148 rfl rfl d_W_await_52 ?_
    refine gw_iconst (v := (1 : Int32)) C d_W_await_55 (by decide) ?_
    refine gw_iadd C d_W_await_56 ?_
    refine gw_put C in_W ty_W tk_W nm_W 11 wcg_11 clg_3 14 (by decide) tw_148 rfl rfl rfl rfl (Nat.le_of_ble_eq_true rfl) d_W_await_57 wcf_11_14 ?_
    exact gw_vreti C d_W_await_60 (wc ad cI cZ cC) hf
theorem c_W_await (hZ : gw_ZOK Z) {x1 : Int32} {x2 : Int32} {x3 : Int32} {x4 : Int32} {M : Mem} {M' : Mem} (hf : f_W_await x1 x2 x3 x4 M = some M') : CW l y_W_await ws_W_await rm_W_await D vwCl (tysW cI cZ cC) Z [.ref (ad 11), .int x1, .int x2, .int x3, .int x4] (wc ad cI cZ cC M) none (wc ad cI cZ cC M') 0 0 :=
  CW.ofG hZ (by decide) rfl (Nat.le_of_ble_eq_true rfl) (fun _ _ _ _ _ _ _ _ C _ => g_W_await C hf)
abbrev b_W_say : ByteArray := prog_5_method_18_code
def y_W_say : MethodName := ⟨"NoneWords$Writer", "say", "(IIII)V"⟩
abbrev ws_W_say : List Cond := Cond.code y_W_say b_W_say 5 (none) :: TB
set_option maxRecDepth 100000 in
theorem tc_W_say : Cond.code y_W_say b_W_say 5 (none) ∈ TB := inTB 365 rfl rfl
theorem mv_W_say : Cond.instanceMethod y_W_say ∈ TB ∧ Cond.selects "NoneWords$Writer" y_W_say y_W_say ∈ TB ∧ Cond.initialized "NoneWords$Writer" ∈ TB ∧ Cond.code y_W_say b_W_say 5 (none) ∈ TB := ⟨inTB 364 (by decide +kernel) (by decide +kernel), inTB 5 (by decide +kernel) (by decide +kernel), inTB 68 (by decide +kernel) (by decide +kernel), tc_W_say⟩
theorem pd_W_say : y_W_say.cls = "NoneWords$Writer" ∧ y_W_say.cls ≠ "java/lang/invoke/MethodHandle" ∧ y_W_say.cls ≠ "java/lang/invoke/VarHandle" ∧ (parseMethodDescriptor y_W_say.desc).map (fun d => d.parameters.length) = some 4 := by decide +kernel
theorem d_W_say_0 : decode b_W_say 0 = .ok (.aload_n 0, 1) := by decide +kernel
theorem d_W_say_1 : decode b_W_say 1 = .ok (.getfield 37, 3) := by decide +kernel
theorem d_W_say_4 : decode b_W_say 4 = .ok (.bipush 120, 2) := by decide +kernel
theorem d_W_say_6 : decode b_W_say 6 = .ok (.if_icmp .ge 64, 3) := by decide +kernel
theorem d_W_say_9 : decode b_W_say 9 = .ok (.aload_n 0, 1) := by decide +kernel
theorem d_W_say_10 : decode b_W_say 10 = .ok (.getfield 22, 3) := by decide +kernel
theorem d_W_say_13 : decode b_W_say 13 = .ok (.aload_n 0, 1) := by decide +kernel
theorem d_W_say_14 : decode b_W_say 14 = .ok (.getfield 37, 3) := by decide +kernel
theorem d_W_say_17 : decode b_W_say 17 = .ok (.iload_n 1, 1) := by decide +kernel
theorem d_W_say_18 : decode b_W_say 18 = .ok (.iastore, 1) := by decide +kernel
theorem d_W_say_19 : decode b_W_say 19 = .ok (.aload_n 0, 1) := by decide +kernel
theorem d_W_say_20 : decode b_W_say 20 = .ok (.getfield 25, 3) := by decide +kernel
theorem d_W_say_23 : decode b_W_say 23 = .ok (.aload_n 0, 1) := by decide +kernel
theorem d_W_say_24 : decode b_W_say 24 = .ok (.getfield 37, 3) := by decide +kernel
theorem d_W_say_27 : decode b_W_say 27 = .ok (.iload_n 2, 1) := by decide +kernel
theorem d_W_say_28 : decode b_W_say 28 = .ok (.iastore, 1) := by decide +kernel
theorem d_W_say_29 : decode b_W_say 29 = .ok (.aload_n 0, 1) := by decide +kernel
theorem d_W_say_30 : decode b_W_say 30 = .ok (.getfield 28, 3) := by decide +kernel
theorem d_W_say_33 : decode b_W_say 33 = .ok (.aload_n 0, 1) := by decide +kernel
theorem d_W_say_34 : decode b_W_say 34 = .ok (.getfield 37, 3) := by decide +kernel
theorem d_W_say_37 : decode b_W_say 37 = .ok (.iload_n 3, 1) := by decide +kernel
theorem d_W_say_38 : decode b_W_say 38 = .ok (.iastore, 1) := by decide +kernel
theorem d_W_say_39 : decode b_W_say 39 = .ok (.aload_n 0, 1) := by decide +kernel
theorem d_W_say_40 : decode b_W_say 40 = .ok (.getfield 31, 3) := by decide +kernel
theorem d_W_say_43 : decode b_W_say 43 = .ok (.aload_n 0, 1) := by decide +kernel
theorem d_W_say_44 : decode b_W_say 44 = .ok (.getfield 37, 3) := by decide +kernel
theorem d_W_say_47 : decode b_W_say 47 = .ok (.iload 4, 2) := by decide +kernel
theorem d_W_say_49 : decode b_W_say 49 = .ok (.iastore, 1) := by decide +kernel
theorem d_W_say_50 : decode b_W_say 50 = .ok (.aload_n 0, 1) := by decide +kernel
theorem d_W_say_51 : decode b_W_say 51 = .ok (.getfield 34, 3) := by decide +kernel
theorem d_W_say_54 : decode b_W_say 54 = .ok (.aload_n 0, 1) := by decide +kernel
theorem d_W_say_55 : decode b_W_say 55 = .ok (.getfield 37, 3) := by decide +kernel
theorem d_W_say_58 : decode b_W_say 58 = .ok (.iconst 0, 1) := by decide +kernel
theorem d_W_say_59 : decode b_W_say 59 = .ok (.iastore, 1) := by decide +kernel
theorem d_W_say_60 : decode b_W_say 60 = .ok (.aload_n 0, 1) := by decide +kernel
theorem d_W_say_61 : decode b_W_say 61 = .ok (.dup, 1) := by decide +kernel
theorem d_W_say_62 : decode b_W_say 62 = .ok (.getfield 37, 3) := by decide +kernel
theorem d_W_say_65 : decode b_W_say 65 = .ok (.iconst 1, 1) := by decide +kernel
theorem d_W_say_66 : decode b_W_say 66 = .ok (.iadd, 1) := by decide +kernel
theorem d_W_say_67 : decode b_W_say 67 = .ok (.putfield 37, 3) := by decide +kernel
theorem d_W_say_70 : decode b_W_say 70 = .ok (.return_, 1) := by decide +kernel
abbrev rm_W_say : Room := { frames := 0, cells := 0, slots := 0, locals := 0 }
def f_W_say (x1 : Int32) (x2 : Int32) (x3 : Int32) (x4 : Int32) (M : Mem) : Option Mem :=
  if (120 : Int32) ≤ (M 11 9) then some M else gd (inb (M 11 9) 120) (gd (inb ((ms M 14 (M 11 9).toNatClampNeg x1) 11 9) 120) (gd (inb ((ms (ms M 14 (M 11 9).toNatClampNeg x1) 15 ((ms M 14 (M 11 9).toNatClampNeg x1) 11 9).toNatClampNeg x2) 11 9) 120) (gd (inb ((ms (ms (ms M 14 (M 11 9).toNatClampNeg x1) 15 ((ms M 14 (M 11 9).toNatClampNeg x1) 11 9).toNatClampNeg x2) 16 ((ms (ms M 14 (M 11 9).toNatClampNeg x1) 15 ((ms M 14 (M 11 9).toNatClampNeg x1) 11 9).toNatClampNeg x2) 11 9).toNatClampNeg x3) 11 9) 120) (gd (inb ((ms (ms (ms (ms M 14 (M 11 9).toNatClampNeg x1) 15 ((ms M 14 (M 11 9).toNatClampNeg x1) 11 9).toNatClampNeg x2) 16 ((ms (ms M 14 (M 11 9).toNatClampNeg x1) 15 ((ms M 14 (M 11 9).toNatClampNeg x1) 11 9).toNatClampNeg x2) 11 9).toNatClampNeg x3) 17 ((ms (ms (ms M 14 (M 11 9).toNatClampNeg x1) 15 ((ms M 14 (M 11 9).toNatClampNeg x1) 11 9).toNatClampNeg x2) 16 ((ms (ms M 14 (M 11 9).toNatClampNeg x1) 15 ((ms M 14 (M 11 9).toNatClampNeg x1) 11 9).toNatClampNeg x2) 11 9).toNatClampNeg x3) 11 9).toNatClampNeg x4) 11 9) 120) (some (ms (ms (ms (ms (ms (ms M 14 (M 11 9).toNatClampNeg x1) 15 ((ms M 14 (M 11 9).toNatClampNeg x1) 11 9).toNatClampNeg x2) 16 ((ms (ms M 14 (M 11 9).toNatClampNeg x1) 15 ((ms M 14 (M 11 9).toNatClampNeg x1) 11 9).toNatClampNeg x2) 11 9).toNatClampNeg x3) 17 ((ms (ms (ms M 14 (M 11 9).toNatClampNeg x1) 15 ((ms M 14 (M 11 9).toNatClampNeg x1) 11 9).toNatClampNeg x2) 16 ((ms (ms M 14 (M 11 9).toNatClampNeg x1) 15 ((ms M 14 (M 11 9).toNatClampNeg x1) 11 9).toNatClampNeg x2) 11 9).toNatClampNeg x3) 11 9).toNatClampNeg x4) 18 ((ms (ms (ms (ms M 14 (M 11 9).toNatClampNeg x1) 15 ((ms M 14 (M 11 9).toNatClampNeg x1) 11 9).toNatClampNeg x2) 16 ((ms (ms M 14 (M 11 9).toNatClampNeg x1) 15 ((ms M 14 (M 11 9).toNatClampNeg x1) 11 9).toNatClampNeg x2) 11 9).toNatClampNeg x3) 17 ((ms (ms (ms M 14 (M 11 9).toNatClampNeg x1) 15 ((ms M 14 (M 11 9).toNatClampNeg x1) 11 9).toNatClampNeg x2) 16 ((ms (ms M 14 (M 11 9).toNatClampNeg x1) 15 ((ms M 14 (M 11 9).toNatClampNeg x1) 11 9).toNatClampNeg x2) 11 9).toNatClampNeg x3) 11 9).toNatClampNeg x4) 11 9).toNatClampNeg (0 : Int32)) 11 9 (((ms (ms (ms (ms (ms M 14 (M 11 9).toNatClampNeg x1) 15 ((ms M 14 (M 11 9).toNatClampNeg x1) 11 9).toNatClampNeg x2) 16 ((ms (ms M 14 (M 11 9).toNatClampNeg x1) 15 ((ms M 14 (M 11 9).toNatClampNeg x1) 11 9).toNatClampNeg x2) 11 9).toNatClampNeg x3) 17 ((ms (ms (ms M 14 (M 11 9).toNatClampNeg x1) 15 ((ms M 14 (M 11 9).toNatClampNeg x1) 11 9).toNatClampNeg x2) 16 ((ms (ms M 14 (M 11 9).toNatClampNeg x1) 15 ((ms M 14 (M 11 9).toNatClampNeg x1) 11 9).toNatClampNeg x2) 11 9).toNatClampNeg x3) 11 9).toNatClampNeg x4) 18 ((ms (ms (ms (ms M 14 (M 11 9).toNatClampNeg x1) 15 ((ms M 14 (M 11 9).toNatClampNeg x1) 11 9).toNatClampNeg x2) 16 ((ms (ms M 14 (M 11 9).toNatClampNeg x1) 15 ((ms M 14 (M 11 9).toNatClampNeg x1) 11 9).toNatClampNeg x2) 11 9).toNatClampNeg x3) 17 ((ms (ms (ms M 14 (M 11 9).toNatClampNeg x1) 15 ((ms M 14 (M 11 9).toNatClampNeg x1) 11 9).toNatClampNeg x2) 16 ((ms (ms M 14 (M 11 9).toNatClampNeg x1) 15 ((ms M 14 (M 11 9).toNatClampNeg x1) 11 9).toNatClampNeg x2) 11 9).toNatClampNeg x3) 11 9).toNatClampNeg x4) 11 9).toNatClampNeg (0 : Int32)) 11 9) + (1 : Int32))))))))
set_option maxRecDepth 100000 in
theorem g_W_say {M' : Mem} (C : GC p s m args meth c b_W_say 5 (none) "NoneWords$Writer" TB D vwCl (tysW cI cZ cC) A Z) {x1 : Int32} {x2 : Int32} {x3 : Int32} {x4 : Int32} {M : Mem} (hf : f_W_say x1 x2 x3 x4 M = some M') : GW p l e rm_W_say s m args below meth c (MQ below (QW D vwCl (tysW cI cZ cC) A none (wc ad cI cZ cC M')) args s 0 0 A) D vwCl A 5 0 0 (wc ad cI cZ cC M) 0 [(0, .ref (ad 11)), (1, .int x1), (2, .int x2), (3, .int x3), (4, .int x4)] [] := by
  unfold f_W_say at hf
  refine gw_aload_n C 0 d_W_say_0 rfl rfl ?_
  refine gw_get C in_W 11 wcg_11 clg_3 9 (by decide) tw_143 rfl rfl d_W_say_1 ?_
  refine gw_bipush (v := (120 : Int32)) C d_W_say_4 (by decide) ?_
  refine gw_icmp_ge (tgt := 70) C d_W_say_6 (by decide) (fun c => ?_) (fun c => ?_)
  · have hf := (if_pos c).symm.trans hf
    exact gw_vreti C d_W_say_70 (wc ad cI cZ cC) hf
  · have hf := (if_neg c).symm.trans hf
    refine gw_aload_n C 0 d_W_say_9 rfl rfl ?_
    refine gw_get C in_W 11 wcg_11 clg_3 4 (by decide) tw_138 rfl rfl d_W_say_10 ?_
    refine gw_aload_n C 0 d_W_say_13 rfl rfl ?_
    refine gw_get C in_W 11 wcg_11 clg_3 9 (by decide) tw_143 rfl rfl d_W_say_14 ?_
    refine gw_iload_n C 1 d_W_say_17 rfl rfl ?_
    obtain ⟨hb18, hf⟩ := gd_some hf
    refine gw_iast C 14 0 wcg_14 rfl hb18 d_W_say_18 wca_14 ?_
    refine gw_aload_n C 0 d_W_say_19 rfl rfl ?_
    refine gw_get C in_W 11 wcg_11 clg_3 5 (by decide) tw_139 rfl rfl d_W_say_20 ?_
    refine gw_aload_n C 0 d_W_say_23 rfl rfl ?_
    refine gw_get C in_W 11 wcg_11 clg_3 9 (by decide) tw_143 rfl rfl d_W_say_24 ?_
    refine gw_iload_n C 2 d_W_say_27 rfl rfl ?_
    obtain ⟨hb28, hf⟩ := gd_some hf
    refine gw_iast C 15 0 wcg_15 rfl hb28 d_W_say_28 wca_15 ?_
    refine gw_aload_n C 0 d_W_say_29 rfl rfl ?_
    refine gw_get C in_W 11 wcg_11 clg_3 6 (by decide) tw_140 rfl rfl d_W_say_30 ?_
    refine gw_aload_n C 0 d_W_say_33 rfl rfl ?_
    refine gw_get C in_W 11 wcg_11 clg_3 9 (by decide) tw_143 rfl rfl d_W_say_34 ?_
    refine gw_iload_n C 3 d_W_say_37 rfl rfl ?_
    obtain ⟨hb38, hf⟩ := gd_some hf
    refine gw_iast C 16 0 wcg_16 rfl hb38 d_W_say_38 wca_16 ?_
    refine gw_aload_n C 0 d_W_say_39 rfl rfl ?_
    refine gw_get C in_W 11 wcg_11 clg_3 7 (by decide) tw_141 rfl rfl d_W_say_40 ?_
    refine gw_aload_n C 0 d_W_say_43 rfl rfl ?_
    refine gw_get C in_W 11 wcg_11 clg_3 9 (by decide) tw_143 rfl rfl d_W_say_44 ?_
    refine gw_iload C 4 d_W_say_47 rfl ?_
    obtain ⟨hb49, hf⟩ := gd_some hf
    refine gw_iast C 17 0 wcg_17 rfl hb49 d_W_say_49 wca_17 ?_
    refine gw_aload_n C 0 d_W_say_50 rfl rfl ?_
    refine gw_get C in_W 11 wcg_11 clg_3 8 (by decide) tw_142 rfl rfl d_W_say_51 ?_
    refine gw_aload_n C 0 d_W_say_54 rfl rfl ?_
    refine gw_get C in_W 11 wcg_11 clg_3 9 (by decide) tw_143 rfl rfl d_W_say_55 ?_
    refine gw_iconst (v := (0 : Int32)) C d_W_say_58 (by decide) ?_
    obtain ⟨hb59, hf⟩ := gd_some hf
    refine gw_iast C 18 0 wcg_18 rfl hb59 d_W_say_59 wca_18 ?_
    refine gw_aload_n C 0 d_W_say_60 rfl rfl ?_
    refine gw_dup C d_W_say_61 rfl ?_
    refine gw_get C in_W 11 wcg_11 clg_3 9 (by decide) tw_143 rfl rfl d_W_say_62 ?_
    refine gw_iconst (v := (1 : Int32)) C d_W_say_65 (by decide) ?_
    refine gw_iadd C d_W_say_66 ?_
    refine gw_put C in_W ty_W tk_W nm_W 11 wcg_11 clg_3 9 (by decide) tw_143 rfl rfl rfl rfl (Nat.le_of_ble_eq_true rfl) d_W_say_67 wcf_11_9 ?_
    exact gw_vreti C d_W_say_70 (wc ad cI cZ cC) hf
theorem c_W_say (hZ : gw_ZOK Z) {x1 : Int32} {x2 : Int32} {x3 : Int32} {x4 : Int32} {M : Mem} {M' : Mem} (hf : f_W_say x1 x2 x3 x4 M = some M') : CW l y_W_say ws_W_say rm_W_say D vwCl (tysW cI cZ cC) Z [.ref (ad 11), .int x1, .int x2, .int x3, .int x4] (wc ad cI cZ cC M) none (wc ad cI cZ cC M') 0 0 :=
  CW.ofG hZ (by decide) rfl (Nat.le_of_ble_eq_true rfl) (fun _ _ _ _ _ _ _ _ C _ => g_W_say C hf)
abbrev b_W_giveNumber : ByteArray := prog_5_method_19_code
def y_W_giveNumber : MethodName := ⟨"NoneWords$Writer", "giveNumber", "(I)V"⟩
abbrev ws_W_giveNumber : List Cond := Cond.code y_W_giveNumber b_W_giveNumber 2 (none) :: TB
set_option maxRecDepth 100000 in
theorem tc_W_giveNumber : Cond.code y_W_giveNumber b_W_giveNumber 2 (none) ∈ TB := inTB 389 rfl rfl
theorem mv_W_giveNumber : Cond.instanceMethod y_W_giveNumber ∈ TB ∧ Cond.selects "NoneWords$Writer" y_W_giveNumber y_W_giveNumber ∈ TB ∧ Cond.initialized "NoneWords$Writer" ∈ TB ∧ Cond.code y_W_giveNumber b_W_giveNumber 2 (none) ∈ TB := ⟨inTB 388 (by decide +kernel) (by decide +kernel), inTB 10 (by decide +kernel) (by decide +kernel), inTB 68 (by decide +kernel) (by decide +kernel), tc_W_giveNumber⟩
theorem pd_W_giveNumber : y_W_giveNumber.cls = "NoneWords$Writer" ∧ y_W_giveNumber.cls ≠ "java/lang/invoke/MethodHandle" ∧ y_W_giveNumber.cls ≠ "java/lang/invoke/VarHandle" ∧ (parseMethodDescriptor y_W_giveNumber.desc).map (fun d => d.parameters.length) = some 1 := by decide +kernel
theorem d_W_giveNumber_0 : decode b_W_giveNumber 0 = .ok (.aload_n 0, 1) := by decide +kernel
theorem d_W_giveNumber_1 : decode b_W_giveNumber 1 = .ok (.getfield 55, 3) := by decide +kernel
theorem d_W_giveNumber_4 : decode b_W_giveNumber 4 = .ok (.iload_n 1, 1) := by decide +kernel
theorem d_W_giveNumber_5 : decode b_W_giveNumber 5 = .ok (.invokevirtual 63, 3) := by decide +kernel
theorem d_W_giveNumber_8 : decode b_W_giveNumber 8 = .ok (.ifCond .eq 45, 3) := by decide +kernel
theorem d_W_giveNumber_11 : decode b_W_giveNumber 11 = .ok (.aload_n 0, 1) := by decide +kernel
theorem d_W_giveNumber_12 : decode b_W_giveNumber 12 = .ok (.getfield 37, 3) := by decide +kernel
theorem d_W_giveNumber_15 : decode b_W_giveNumber 15 = .ok (.ifCond .le 38, 3) := by decide +kernel
theorem d_W_giveNumber_18 : decode b_W_giveNumber 18 = .ok (.aload_n 0, 1) := by decide +kernel
theorem d_W_giveNumber_19 : decode b_W_giveNumber 19 = .ok (.dup, 1) := by decide +kernel
theorem d_W_giveNumber_20 : decode b_W_giveNumber 20 = .ok (.getfield 18, 3) := by decide +kernel
theorem d_W_giveNumber_23 : decode b_W_giveNumber 23 = .ok (.iconst 1, 1) := by decide +kernel
theorem d_W_giveNumber_24 : decode b_W_giveNumber 24 = .ok (.iadd, 1) := by decide +kernel
theorem d_W_giveNumber_25 : decode b_W_giveNumber 25 = .ok (.putfield 18, 3) := by decide +kernel
theorem d_W_giveNumber_28 : decode b_W_giveNumber 28 = .ok (.aload_n 0, 1) := by decide +kernel
theorem d_W_giveNumber_29 : decode b_W_giveNumber 29 = .ok (.getfield 15, 3) := by decide +kernel
theorem d_W_giveNumber_32 : decode b_W_giveNumber 32 = .ok (.iload_n 1, 1) := by decide +kernel
theorem d_W_giveNumber_33 : decode b_W_giveNumber 33 = .ok (.aload_n 0, 1) := by decide +kernel
theorem d_W_giveNumber_34 : decode b_W_giveNumber 34 = .ok (.getfield 18, 3) := by decide +kernel
theorem d_W_giveNumber_37 : decode b_W_giveNumber 37 = .ok (.iastore, 1) := by decide +kernel
theorem d_W_giveNumber_38 : decode b_W_giveNumber 38 = .ok (.aload_n 0, 1) := by decide +kernel
theorem d_W_giveNumber_39 : decode b_W_giveNumber 39 = .ok (.getfield 34, 3) := by decide +kernel
theorem d_W_giveNumber_42 : decode b_W_giveNumber 42 = .ok (.aload_n 0, 1) := by decide +kernel
theorem d_W_giveNumber_43 : decode b_W_giveNumber 43 = .ok (.getfield 37, 3) := by decide +kernel
theorem d_W_giveNumber_46 : decode b_W_giveNumber 46 = .ok (.iconst 1, 1) := by decide +kernel
theorem d_W_giveNumber_47 : decode b_W_giveNumber 47 = .ok (.isub, 1) := by decide +kernel
theorem d_W_giveNumber_48 : decode b_W_giveNumber 48 = .ok (.aload_n 0, 1) := by decide +kernel
theorem d_W_giveNumber_49 : decode b_W_giveNumber 49 = .ok (.getfield 18, 3) := by decide +kernel
theorem d_W_giveNumber_52 : decode b_W_giveNumber 52 = .ok (.iastore, 1) := by decide +kernel
theorem d_W_giveNumber_53 : decode b_W_giveNumber 53 = .ok (.return_, 1) := by decide +kernel
abbrev rm_W_giveNumber : Room := { frames := 1, cells := 0, slots := 0, locals := 21 }
def f_W_giveNumber (x1 : Int32) (M : Mem) : Option Mem :=
  ob (f_F_hasNode x1 M) fun r5 M5 => if r5 = 0 then some M5 else if (M5 11 9) ≤ 0 then some M5 else gd (inb x1 120) (gd (inb (((ms (ms M5 11 3 ((M5 11 3) + (1 : Int32))) 13 x1.toNatClampNeg ((ms M5 11 3 ((M5 11 3) + (1 : Int32))) 11 3)) 11 9) - (1 : Int32)) 120) (some (ms (ms (ms M5 11 3 ((M5 11 3) + (1 : Int32))) 13 x1.toNatClampNeg ((ms M5 11 3 ((M5 11 3) + (1 : Int32))) 11 3)) 18 (((ms (ms M5 11 3 ((M5 11 3) + (1 : Int32))) 13 x1.toNatClampNeg ((ms M5 11 3 ((M5 11 3) + (1 : Int32))) 11 3)) 11 9) - (1 : Int32)).toNatClampNeg ((ms (ms M5 11 3 ((M5 11 3) + (1 : Int32))) 13 x1.toNatClampNeg ((ms M5 11 3 ((M5 11 3) + (1 : Int32))) 11 3)) 11 3))))
set_option maxRecDepth 100000 in
theorem g_W_giveNumber {M' : Mem} (C : GC p s m args meth c b_W_giveNumber 2 (none) "NoneWords$Writer" TB D vwCl (tysW cI cZ cC) A Z) {x1 : Int32} {M : Mem} (hf : f_W_giveNumber x1 M = some M') : GW p l e rm_W_giveNumber s m args below meth c (MQ below (QW D vwCl (tysW cI cZ cC) A none (wc ad cI cZ cC M')) args s 0 0 A) D vwCl A 2 0 0 (wc ad cI cZ cC M) 0 [(0, .ref (ad 11)), (1, .int x1)] [] := by
  unfold f_W_giveNumber at hf
  refine gw_aload_n C 0 d_W_giveNumber_0 rfl rfl ?_
  refine gw_get C in_W 11 wcg_11 clg_3 0 (by decide) tw_134 rfl rfl d_W_giveNumber_1 ?_
  refine gw_iload_n C 1 d_W_giveNumber_4 rfl rfl ?_
  obtain ⟨r5, M5, hc5, hf⟩ := ob_some hf
  refine gw_callVr (rest := []) C 1 wcg_1 clg_0 (c_F_hasNode C.2.2.2.2.2.2.2.2.2.2 hc5) (cwV 1 C.2.2.2.2.1 (gTB_V tw_345 mv_F_hasNode) rfl rfl rfl pd_F_hasNode ⟨Nat.le_of_ble_eq_true rfl, Nat.le_of_ble_eq_true rfl⟩) rfl rfl (Nat.le_of_ble_eq_true rfl) d_W_giveNumber_5 ⟨Nat.le_of_ble_eq_true rfl, Nat.le_of_ble_eq_true rfl⟩ ?_
  refine gw_if_eq (tgt := 53) C d_W_giveNumber_8 (by decide) (fun c => ?_) (fun c => ?_)
  · have hf := (if_pos c).symm.trans hf
    exact gw_vreti C d_W_giveNumber_53 (wc ad cI cZ cC) hf
  · have hf := (if_neg c).symm.trans hf
    refine gw_aload_n C 0 d_W_giveNumber_11 rfl rfl ?_
    refine gw_get C in_W 11 wcg_11 clg_3 9 (by decide) tw_143 rfl rfl d_W_giveNumber_12 ?_
    refine gw_if_le (tgt := 53) C d_W_giveNumber_15 (by decide) (fun c => ?_) (fun c => ?_)
    · have hf := (if_pos c).symm.trans hf
      exact gw_vreti C d_W_giveNumber_53 (wc ad cI cZ cC) hf
    · have hf := (if_neg c).symm.trans hf
      refine gw_aload_n C 0 d_W_giveNumber_18 rfl rfl ?_
      refine gw_dup C d_W_giveNumber_19 rfl ?_
      refine gw_get C in_W 11 wcg_11 clg_3 3 (by decide) tw_137 rfl rfl d_W_giveNumber_20 ?_
      refine gw_iconst (v := (1 : Int32)) C d_W_giveNumber_23 (by decide) ?_
      refine gw_iadd C d_W_giveNumber_24 ?_
      refine gw_put C in_W ty_W tk_W nm_W 11 wcg_11 clg_3 3 (by decide) tw_137 rfl rfl rfl rfl (Nat.le_of_ble_eq_true rfl) d_W_giveNumber_25 wcf_11_3 ?_
      refine gw_aload_n C 0 d_W_giveNumber_28 rfl rfl ?_
      refine gw_get C in_W 11 wcg_11 clg_3 2 (by decide) tw_136 rfl rfl d_W_giveNumber_29 ?_
      refine gw_iload_n C 1 d_W_giveNumber_32 rfl rfl ?_
      refine gw_aload_n C 0 d_W_giveNumber_33 rfl rfl ?_
      refine gw_get C in_W 11 wcg_11 clg_3 3 (by decide) tw_137 rfl rfl d_W_giveNumber_34 ?_
      obtain ⟨hb37, hf⟩ := gd_some hf
      refine gw_iast C 13 0 wcg_13 rfl hb37 d_W_giveNumber_37 wca_13 ?_
      refine gw_aload_n C 0 d_W_giveNumber_38 rfl rfl ?_
      refine gw_get C in_W 11 wcg_11 clg_3 8 (by decide) tw_142 rfl rfl d_W_giveNumber_39 ?_
      refine gw_aload_n C 0 d_W_giveNumber_42 rfl rfl ?_
      refine gw_get C in_W 11 wcg_11 clg_3 9 (by decide) tw_143 rfl rfl d_W_giveNumber_43 ?_
      refine gw_iconst (v := (1 : Int32)) C d_W_giveNumber_46 (by decide) ?_
      refine gw_isub C d_W_giveNumber_47 ?_
      refine gw_aload_n C 0 d_W_giveNumber_48 rfl rfl ?_
      refine gw_get C in_W 11 wcg_11 clg_3 3 (by decide) tw_137 rfl rfl d_W_giveNumber_49 ?_
      obtain ⟨hb52, hf⟩ := gd_some hf
      refine gw_iast C 18 0 wcg_18 rfl hb52 d_W_giveNumber_52 wca_18 ?_
      exact gw_vreti C d_W_giveNumber_53 (wc ad cI cZ cC) hf
theorem c_W_giveNumber (hZ : gw_ZOK Z) {x1 : Int32} {M : Mem} {M' : Mem} (hf : f_W_giveNumber x1 M = some M') : CW l y_W_giveNumber ws_W_giveNumber rm_W_giveNumber D vwCl (tysW cI cZ cC) Z [.ref (ad 11), .int x1] (wc ad cI cZ cC M) none (wc ad cI cZ cC M') 0 0 :=
  CW.ofG hZ (by decide) rfl (Nat.le_of_ble_eq_true rfl) (fun _ _ _ _ _ _ _ _ C _ => g_W_giveNumber C hf)
abbrev b_W_hasNumber : ByteArray := prog_5_method_20_code
def y_W_hasNumber : MethodName := ⟨"NoneWords$Writer", "hasNumber", "(I)Z"⟩
abbrev ws_W_hasNumber : List Cond := Cond.code y_W_hasNumber b_W_hasNumber 2 (some (FieldType.boolean)) :: TB
set_option maxRecDepth 100000 in
theorem tc_W_hasNumber : Cond.code y_W_hasNumber b_W_hasNumber 2 (some (FieldType.boolean)) ∈ TB := inTB 373 rfl rfl
theorem mv_W_hasNumber : Cond.instanceMethod y_W_hasNumber ∈ TB ∧ Cond.selects "NoneWords$Writer" y_W_hasNumber y_W_hasNumber ∈ TB ∧ Cond.initialized "NoneWords$Writer" ∈ TB ∧ Cond.code y_W_hasNumber b_W_hasNumber 2 (some (FieldType.boolean)) ∈ TB := ⟨inTB 372 (by decide +kernel) (by decide +kernel), inTB 7 (by decide +kernel) (by decide +kernel), inTB 68 (by decide +kernel) (by decide +kernel), tc_W_hasNumber⟩
theorem pd_W_hasNumber : y_W_hasNumber.cls = "NoneWords$Writer" ∧ y_W_hasNumber.cls ≠ "java/lang/invoke/MethodHandle" ∧ y_W_hasNumber.cls ≠ "java/lang/invoke/VarHandle" ∧ (parseMethodDescriptor y_W_hasNumber.desc).map (fun d => d.parameters.length) = some 1 := by decide +kernel
theorem d_W_hasNumber_0 : decode b_W_hasNumber 0 = .ok (.aload_n 0, 1) := by decide +kernel
theorem d_W_hasNumber_1 : decode b_W_hasNumber 1 = .ok (.iload_n 1, 1) := by decide +kernel
theorem d_W_hasNumber_2 : decode b_W_hasNumber 2 = .ok (.invokevirtual 132, 3) := by decide +kernel
theorem d_W_hasNumber_5 : decode b_W_hasNumber 5 = .ok (.ifCond .eq 7, 3) := by decide +kernel
theorem d_W_hasNumber_8 : decode b_W_hasNumber 8 = .ok (.iconst 1, 1) := by decide +kernel
theorem d_W_hasNumber_9 : decode b_W_hasNumber 9 = .ok (.goto 4, 3) := by decide +kernel
theorem d_W_hasNumber_12 : decode b_W_hasNumber 12 = .ok (.iconst 0, 1) := by decide +kernel
theorem d_W_hasNumber_13 : decode b_W_hasNumber 13 = .ok (.ireturn, 1) := by decide +kernel
abbrev rm_W_hasNumber : Room := { frames := 2, cells := 0, slots := 0, locals := 42 }
def f_W_hasNumber (x1 : Int32) (M : Mem) : Option (Int32 × Mem) :=
  ob (f_W_numberOfNode x1 M) fun r2 M2 => if r2 = 0 then some ((0 : Int32), M2) else some ((1 : Int32), M2)
set_option maxRecDepth 100000 in
theorem g_W_hasNumber {r : Int32} {M' : Mem} (C : GC p s m args meth c b_W_hasNumber 2 (some (FieldType.boolean)) "NoneWords$Writer" TB D vwCl (tysW cI cZ cC) A Z) {x1 : Int32} {M : Mem} (hf : f_W_hasNumber x1 M = some (r, M')) : GW p l e rm_W_hasNumber s m args below meth c (MQ below (QW D vwCl (tysW cI cZ cC) A (some (.int r)) (wc ad cI cZ cC M')) args s 0 0 A) D vwCl A 2 0 0 (wc ad cI cZ cC M) 0 [(0, .ref (ad 11)), (1, .int x1)] [] := by
  unfold f_W_hasNumber at hf
  refine gw_aload_n C 0 d_W_hasNumber_0 rfl rfl ?_
  refine gw_iload_n C 1 d_W_hasNumber_1 rfl rfl ?_
  obtain ⟨r2, M2, hc2, hf⟩ := ob_some hf
  refine gw_callVr (rest := []) C 11 wcg_11 clg_3 (c_W_numberOfNode C.2.2.2.2.2.2.2.2.2.2 hc2) (cwV 1 C.2.2.2.2.1 (gTB_V tw_374 mv_W_numberOfNode) rfl rfl rfl pd_W_numberOfNode ⟨Nat.le_of_ble_eq_true rfl, Nat.le_of_ble_eq_true rfl⟩) rfl rfl (Nat.le_of_ble_eq_true rfl) d_W_hasNumber_2 ⟨Nat.le_of_ble_eq_true rfl, Nat.le_of_ble_eq_true rfl⟩ ?_
  refine gw_if_eq (tgt := 12) C d_W_hasNumber_5 (by decide) (fun c => ?_) (fun c => ?_)
  · have hf := (if_pos c).symm.trans hf
    refine gw_iconst (v := (0 : Int32)) C d_W_hasNumber_12 (by decide) ?_
    exact gw_zreti C d_W_hasNumber_13 (wc ad cI cZ cC) (by decide) hf
  · have hf := (if_neg c).symm.trans hf
    refine gw_iconst (v := (1 : Int32)) C d_W_hasNumber_8 (by decide) ?_
    refine gw_goto (tgt := 13) C d_W_hasNumber_9 (by decide) ?_
    exact gw_zreti C d_W_hasNumber_13 (wc ad cI cZ cC) (by decide) hf
theorem c_W_hasNumber (hZ : gw_ZOK Z) {x1 : Int32} {M : Mem} {r : Int32} {M' : Mem} (hf : f_W_hasNumber x1 M = some (r, M')) : CW l y_W_hasNumber ws_W_hasNumber rm_W_hasNumber D vwCl (tysW cI cZ cC) Z [.ref (ad 11), .int x1] (wc ad cI cZ cC M) (some (.int r)) (wc ad cI cZ cC M') 0 0 :=
  CW.ofG hZ (by decide) rfl (Nat.le_of_ble_eq_true rfl) (fun _ _ _ _ _ _ _ _ C _ => g_W_hasNumber C hf)
abbrev b_W_isShared : ByteArray := prog_5_method_21_code
def y_W_isShared : MethodName := ⟨"NoneWords$Writer", "isShared", "(I)Z"⟩
abbrev ws_W_isShared : List Cond := Cond.code y_W_isShared b_W_isShared 2 (some (FieldType.boolean)) :: TB
set_option maxRecDepth 100000 in
theorem tc_W_isShared : Cond.code y_W_isShared b_W_isShared 2 (some (FieldType.boolean)) ∈ TB := inTB 385 rfl rfl
theorem mv_W_isShared : Cond.instanceMethod y_W_isShared ∈ TB ∧ Cond.selects "NoneWords$Writer" y_W_isShared y_W_isShared ∈ TB ∧ Cond.initialized "NoneWords$Writer" ∈ TB ∧ Cond.code y_W_isShared b_W_isShared 2 (some (FieldType.boolean)) ∈ TB := ⟨inTB 384 (by decide +kernel) (by decide +kernel), inTB 9 (by decide +kernel) (by decide +kernel), inTB 68 (by decide +kernel) (by decide +kernel), tc_W_isShared⟩
theorem pd_W_isShared : y_W_isShared.cls = "NoneWords$Writer" ∧ y_W_isShared.cls ≠ "java/lang/invoke/MethodHandle" ∧ y_W_isShared.cls ≠ "java/lang/invoke/VarHandle" ∧ (parseMethodDescriptor y_W_isShared.desc).map (fun d => d.parameters.length) = some 1 := by decide +kernel
theorem d_W_isShared_0 : decode b_W_isShared 0 = .ok (.aload_n 0, 1) := by decide +kernel
theorem d_W_isShared_1 : decode b_W_isShared 1 = .ok (.getfield 55, 3) := by decide +kernel
theorem d_W_isShared_4 : decode b_W_isShared 4 = .ok (.iload_n 1, 1) := by decide +kernel
theorem d_W_isShared_5 : decode b_W_isShared 5 = .ok (.invokevirtual 63, 3) := by decide +kernel
theorem d_W_isShared_8 : decode b_W_isShared 8 = .ok (.ifCond .eq 17, 3) := by decide +kernel
theorem d_W_isShared_11 : decode b_W_isShared 11 = .ok (.aload_n 0, 1) := by decide +kernel
theorem d_W_isShared_12 : decode b_W_isShared 12 = .ok (.getfield 9, 3) := by decide +kernel
theorem d_W_isShared_15 : decode b_W_isShared 15 = .ok (.iload_n 1, 1) := by decide +kernel
theorem d_W_isShared_16 : decode b_W_isShared 16 = .ok (.iaload, 1) := by decide +kernel
theorem d_W_isShared_17 : decode b_W_isShared 17 = .ok (.iconst 2, 1) := by decide +kernel
theorem d_W_isShared_18 : decode b_W_isShared 18 = .ok (.if_icmp .lt 7, 3) := by decide +kernel
theorem d_W_isShared_21 : decode b_W_isShared 21 = .ok (.iconst 1, 1) := by decide +kernel
theorem d_W_isShared_22 : decode b_W_isShared 22 = .ok (.goto 4, 3) := by decide +kernel
theorem d_W_isShared_25 : decode b_W_isShared 25 = .ok (.iconst 0, 1) := by decide +kernel
theorem d_W_isShared_26 : decode b_W_isShared 26 = .ok (.ireturn, 1) := by decide +kernel
abbrev rm_W_isShared : Room := { frames := 1, cells := 0, slots := 0, locals := 21 }
def f_W_isShared (x1 : Int32) (M : Mem) : Option (Int32 × Mem) :=
  ob (f_F_hasNode x1 M) fun r5 M5 => if r5 = 0 then some ((0 : Int32), M5) else gd (inb x1 120) (if (M5 12 x1.toNatClampNeg) < (2 : Int32) then some ((0 : Int32), M5) else some ((1 : Int32), M5))
set_option maxRecDepth 100000 in
theorem g_W_isShared {r : Int32} {M' : Mem} (C : GC p s m args meth c b_W_isShared 2 (some (FieldType.boolean)) "NoneWords$Writer" TB D vwCl (tysW cI cZ cC) A Z) {x1 : Int32} {M : Mem} (hf : f_W_isShared x1 M = some (r, M')) : GW p l e rm_W_isShared s m args below meth c (MQ below (QW D vwCl (tysW cI cZ cC) A (some (.int r)) (wc ad cI cZ cC M')) args s 0 0 A) D vwCl A 2 0 0 (wc ad cI cZ cC M) 0 [(0, .ref (ad 11)), (1, .int x1)] [] := by
  unfold f_W_isShared at hf
  refine gw_aload_n C 0 d_W_isShared_0 rfl rfl ?_
  refine gw_get C in_W 11 wcg_11 clg_3 0 (by decide) tw_134 rfl rfl d_W_isShared_1 ?_
  refine gw_iload_n C 1 d_W_isShared_4 rfl rfl ?_
  obtain ⟨r5, M5, hc5, hf⟩ := ob_some hf
  refine gw_callVr (rest := []) C 1 wcg_1 clg_0 (c_F_hasNode C.2.2.2.2.2.2.2.2.2.2 hc5) (cwV 1 C.2.2.2.2.1 (gTB_V tw_345 mv_F_hasNode) rfl rfl rfl pd_F_hasNode ⟨Nat.le_of_ble_eq_true rfl, Nat.le_of_ble_eq_true rfl⟩) rfl rfl (Nat.le_of_ble_eq_true rfl) d_W_isShared_5 ⟨Nat.le_of_ble_eq_true rfl, Nat.le_of_ble_eq_true rfl⟩ ?_
  refine gw_if_eq (tgt := 25) C d_W_isShared_8 (by decide) (fun c => ?_) (fun c => ?_)
  · have hf := (if_pos c).symm.trans hf
    refine gw_iconst (v := (0 : Int32)) C d_W_isShared_25 (by decide) ?_
    exact gw_zreti C d_W_isShared_26 (wc ad cI cZ cC) (by decide) hf
  · have hf := (if_neg c).symm.trans hf
    refine gw_aload_n C 0 d_W_isShared_11 rfl rfl ?_
    refine gw_get C in_W 11 wcg_11 clg_3 1 (by decide) tw_135 rfl rfl d_W_isShared_12 ?_
    refine gw_iload_n C 1 d_W_isShared_15 rfl rfl ?_
    obtain ⟨hb16, hf⟩ := gd_some hf
    refine gw_iald C 12 0 wcg_12 rfl hb16 d_W_isShared_16 ?_
    refine gw_iconst (v := (2 : Int32)) C d_W_isShared_17 (by decide) ?_
    refine gw_icmp_lt (tgt := 25) C d_W_isShared_18 (by decide) (fun c => ?_) (fun c => ?_)
    · have hf := (if_pos c).symm.trans hf
      refine gw_iconst (v := (0 : Int32)) C d_W_isShared_25 (by decide) ?_
      exact gw_zreti C d_W_isShared_26 (wc ad cI cZ cC) (by decide) hf
    · have hf := (if_neg c).symm.trans hf
      refine gw_iconst (v := (1 : Int32)) C d_W_isShared_21 (by decide) ?_
      refine gw_goto (tgt := 26) C d_W_isShared_22 (by decide) ?_
      exact gw_zreti C d_W_isShared_26 (wc ad cI cZ cC) (by decide) hf
theorem c_W_isShared (hZ : gw_ZOK Z) {x1 : Int32} {M : Mem} {r : Int32} {M' : Mem} (hf : f_W_isShared x1 M = some (r, M')) : CW l y_W_isShared ws_W_isShared rm_W_isShared D vwCl (tysW cI cZ cC) Z [.ref (ad 11), .int x1] (wc ad cI cZ cC M) (some (.int r)) (wc ad cI cZ cC M') 0 0 :=
  CW.ofG hZ (by decide) rfl (Nat.le_of_ble_eq_true rfl) (fun _ _ _ _ _ _ _ _ C _ => g_W_isShared C hf)
abbrev b_W_close : ByteArray := prog_5_method_17_code
def y_W_close : MethodName := ⟨"NoneWords$Writer", "close", "(IIII)V"⟩
abbrev ws_W_close : List Cond := Cond.code y_W_close b_W_close 5 (none) :: TB
set_option maxRecDepth 100000 in
theorem tc_W_close : Cond.code y_W_close b_W_close 5 (none) ∈ TB := inTB 381 rfl rfl
theorem mv_W_close : Cond.instanceMethod y_W_close ∈ TB ∧ Cond.selects "NoneWords$Writer" y_W_close y_W_close ∈ TB ∧ Cond.initialized "NoneWords$Writer" ∈ TB ∧ Cond.code y_W_close b_W_close 5 (none) ∈ TB := ⟨inTB 380 (by decide +kernel) (by decide +kernel), inTB 8 (by decide +kernel) (by decide +kernel), inTB 68 (by decide +kernel) (by decide +kernel), tc_W_close⟩
theorem pd_W_close : y_W_close.cls = "NoneWords$Writer" ∧ y_W_close.cls ≠ "java/lang/invoke/MethodHandle" ∧ y_W_close.cls ≠ "java/lang/invoke/VarHandle" ∧ (parseMethodDescriptor y_W_close.desc).map (fun d => d.parameters.length) = some 4 := by decide +kernel
theorem d_W_close_0 : decode b_W_close 0 = .ok (.aload_n 0, 1) := by decide +kernel
theorem d_W_close_1 : decode b_W_close 1 = .ok (.iload_n 1, 1) := by decide +kernel
theorem d_W_close_2 : decode b_W_close 2 = .ok (.iload_n 2, 1) := by decide +kernel
theorem d_W_close_3 : decode b_W_close 3 = .ok (.iload_n 3, 1) := by decide +kernel
theorem d_W_close_4 : decode b_W_close 4 = .ok (.iload 4, 2) := by decide +kernel
theorem d_W_close_6 : decode b_W_close 6 = .ok (.invokevirtual 105, 3) := by decide +kernel
theorem d_W_close_9 : decode b_W_close 9 = .ok (.aload_n 0, 1) := by decide +kernel
theorem d_W_close_10 : decode b_W_close 10 = .ok (.iload 4, 2) := by decide +kernel
theorem d_W_close_12 : decode b_W_close 12 = .ok (.invokevirtual 123, 3) := by decide +kernel
theorem d_W_close_15 : decode b_W_close 15 = .ok (.ifCond .eq 9, 3) := by decide +kernel
theorem d_W_close_18 : decode b_W_close 18 = .ok (.aload_n 0, 1) := by decide +kernel
theorem d_W_close_19 : decode b_W_close 19 = .ok (.iload 4, 2) := by decide +kernel
theorem d_W_close_21 : decode b_W_close 21 = .ok (.invokevirtual 129, 3) := by decide +kernel
theorem d_W_close_24 : decode b_W_close 24 = .ok (.return_, 1) := by decide +kernel
abbrev rm_W_close : Room := { frames := 2, cells := 0, slots := 0, locals := 42 }
def f_W_close (x1 : Int32) (x2 : Int32) (x3 : Int32) (x4 : Int32) (M : Mem) : Option Mem :=
  om (f_W_say x1 x2 x3 x4 M) fun M6 => ob (f_W_isShared x4 M6) fun r12 M12 => if r12 = 0 then some M12 else om (f_W_giveNumber x4 M12) fun M21 => some M21
set_option maxRecDepth 100000 in
theorem g_W_close {M' : Mem} (C : GC p s m args meth c b_W_close 5 (none) "NoneWords$Writer" TB D vwCl (tysW cI cZ cC) A Z) {x1 : Int32} {x2 : Int32} {x3 : Int32} {x4 : Int32} {M : Mem} (hf : f_W_close x1 x2 x3 x4 M = some M') : GW p l e rm_W_close s m args below meth c (MQ below (QW D vwCl (tysW cI cZ cC) A none (wc ad cI cZ cC M')) args s 0 0 A) D vwCl A 5 0 0 (wc ad cI cZ cC M) 0 [(0, .ref (ad 11)), (1, .int x1), (2, .int x2), (3, .int x3), (4, .int x4)] [] := by
  unfold f_W_close at hf
  refine gw_aload_n C 0 d_W_close_0 rfl rfl ?_
  refine gw_iload_n C 1 d_W_close_1 rfl rfl ?_
  refine gw_iload_n C 2 d_W_close_2 rfl rfl ?_
  refine gw_iload_n C 3 d_W_close_3 rfl rfl ?_
  refine gw_iload C 4 d_W_close_4 rfl ?_
  obtain ⟨M6, hc6, hf⟩ := om_some hf
  refine gw_callVv (rest := []) C 11 wcg_11 clg_3 (c_W_say C.2.2.2.2.2.2.2.2.2.2 hc6) (cwV 4 C.2.2.2.2.1 (gTB_V tw_362 mv_W_say) rfl rfl rfl pd_W_say ⟨Nat.le_of_ble_eq_true rfl, Nat.le_of_ble_eq_true rfl⟩) rfl rfl (Nat.le_of_ble_eq_true rfl) d_W_close_6 ⟨Nat.le_of_ble_eq_true rfl, Nat.le_of_ble_eq_true rfl⟩ ?_
  refine gw_aload_n C 0 d_W_close_9 rfl rfl ?_
  refine gw_iload C 4 d_W_close_10 rfl ?_
  obtain ⟨r12, M12, hc12, hf⟩ := ob_some hf
  refine gw_callVr (rest := []) C 11 wcg_11 clg_3 (c_W_isShared C.2.2.2.2.2.2.2.2.2.2 hc12) (cwV 1 C.2.2.2.2.1 (gTB_V tw_382 mv_W_isShared) rfl rfl rfl pd_W_isShared ⟨Nat.le_of_ble_eq_true rfl, Nat.le_of_ble_eq_true rfl⟩) rfl rfl (Nat.le_of_ble_eq_true rfl) d_W_close_12 ⟨Nat.le_of_ble_eq_true rfl, Nat.le_of_ble_eq_true rfl⟩ ?_
  refine gw_if_eq (tgt := 24) C d_W_close_15 (by decide) (fun c => ?_) (fun c => ?_)
  · have hf := (if_pos c).symm.trans hf
    exact gw_vreti C d_W_close_24 (wc ad cI cZ cC) hf
  · have hf := (if_neg c).symm.trans hf
    refine gw_aload_n C 0 d_W_close_18 rfl rfl ?_
    refine gw_iload C 4 d_W_close_19 rfl ?_
    obtain ⟨M21, hc21, hf⟩ := om_some hf
    refine gw_callVv (rest := []) C 11 wcg_11 clg_3 (c_W_giveNumber C.2.2.2.2.2.2.2.2.2.2 hc21) (cwV 1 C.2.2.2.2.1 (gTB_V tw_386 mv_W_giveNumber) rfl rfl rfl pd_W_giveNumber ⟨Nat.le_of_ble_eq_true rfl, Nat.le_of_ble_eq_true rfl⟩) rfl rfl (Nat.le_of_ble_eq_true rfl) d_W_close_21 ⟨Nat.le_of_ble_eq_true rfl, Nat.le_of_ble_eq_true rfl⟩ ?_
    exact gw_vreti C d_W_close_24 (wc ad cI cZ cC) hf
theorem c_W_close (hZ : gw_ZOK Z) {x1 : Int32} {x2 : Int32} {x3 : Int32} {x4 : Int32} {M : Mem} {M' : Mem} (hf : f_W_close x1 x2 x3 x4 M = some M') : CW l y_W_close ws_W_close rm_W_close D vwCl (tysW cI cZ cC) Z [.ref (ad 11), .int x1, .int x2, .int x3, .int x4] (wc ad cI cZ cC M) none (wc ad cI cZ cC M') 0 0 :=
  CW.ofG hZ (by decide) rfl (Nat.le_of_ble_eq_true rfl) (fun _ _ _ _ _ _ _ _ C _ => g_W_close C hf)
abbrev b_W_openOfJoins : ByteArray := prog_5_method_15_code
def y_W_openOfJoins : MethodName := ⟨"NoneWords$Writer", "openOfJoins", "(III)V"⟩
abbrev ws_W_openOfJoins : List Cond := Cond.code y_W_openOfJoins b_W_openOfJoins 4 (none) :: TB
set_option maxRecDepth 100000 in
theorem tc_W_openOfJoins : Cond.code y_W_openOfJoins b_W_openOfJoins 4 (none) ∈ TB := inTB 369 rfl rfl
theorem mv_W_openOfJoins : Cond.instanceMethod y_W_openOfJoins ∈ TB ∧ Cond.selects "NoneWords$Writer" y_W_openOfJoins y_W_openOfJoins ∈ TB ∧ Cond.initialized "NoneWords$Writer" ∈ TB ∧ Cond.code y_W_openOfJoins b_W_openOfJoins 4 (none) ∈ TB := ⟨inTB 368 (by decide +kernel) (by decide +kernel), inTB 6 (by decide +kernel) (by decide +kernel), inTB 68 (by decide +kernel) (by decide +kernel), tc_W_openOfJoins⟩
theorem pd_W_openOfJoins : y_W_openOfJoins.cls = "NoneWords$Writer" ∧ y_W_openOfJoins.cls ≠ "java/lang/invoke/MethodHandle" ∧ y_W_openOfJoins.cls ≠ "java/lang/invoke/VarHandle" ∧ (parseMethodDescriptor y_W_openOfJoins.desc).map (fun d => d.parameters.length) = some 3 := by decide +kernel
theorem d_W_openOfJoins_0 : decode b_W_openOfJoins 0 = .ok (.aload_n 0, 1) := by decide +kernel
theorem d_W_openOfJoins_1 : decode b_W_openOfJoins 1 = .ok (.iload_n 2, 1) := by decide +kernel
theorem d_W_openOfJoins_2 : decode b_W_openOfJoins 2 = .ok (.invokevirtual 120, 3) := by decide +kernel
theorem d_W_openOfJoins_5 : decode b_W_openOfJoins 5 = .ok (.ifCond .eq 22, 3) := by decide +kernel
theorem d_W_openOfJoins_8 : decode b_W_openOfJoins 8 = .ok (.aload_n 0, 1) := by decide +kernel
theorem d_W_openOfJoins_9 : decode b_W_openOfJoins 9 = .ok (.iload_n 3, 1) := by decide +kernel
theorem d_W_openOfJoins_10 : decode b_W_openOfJoins 10 = .ok (.invokevirtual 120, 3) := by decide +kernel
theorem d_W_openOfJoins_13 : decode b_W_openOfJoins 13 = .ok (.ifCond .eq 14, 3) := by decide +kernel
theorem d_W_openOfJoins_16 : decode b_W_openOfJoins 16 = .ok (.aload_n 0, 1) := by decide +kernel
theorem d_W_openOfJoins_17 : decode b_W_openOfJoins 17 = .ok (.iconst 1, 1) := by decide +kernel
theorem d_W_openOfJoins_18 : decode b_W_openOfJoins 18 = .ok (.iload_n 2, 1) := by decide +kernel
theorem d_W_openOfJoins_19 : decode b_W_openOfJoins 19 = .ok (.iload_n 3, 1) := by decide +kernel
theorem d_W_openOfJoins_20 : decode b_W_openOfJoins 20 = .ok (.iload_n 1, 1) := by decide +kernel
theorem d_W_openOfJoins_21 : decode b_W_openOfJoins 21 = .ok (.invokevirtual 89, 3) := by decide +kernel
theorem d_W_openOfJoins_24 : decode b_W_openOfJoins 24 = .ok (.goto 114, 3) := by decide +kernel
theorem d_W_openOfJoins_27 : decode b_W_openOfJoins 27 = .ok (.aload_n 0, 1) := by decide +kernel
theorem d_W_openOfJoins_28 : decode b_W_openOfJoins 28 = .ok (.iload_n 2, 1) := by decide +kernel
theorem d_W_openOfJoins_29 : decode b_W_openOfJoins 29 = .ok (.invokevirtual 120, 3) := by decide +kernel
theorem d_W_openOfJoins_32 : decode b_W_openOfJoins 32 = .ok (.ifCond .eq 22, 3) := by decide +kernel
theorem d_W_openOfJoins_35 : decode b_W_openOfJoins 35 = .ok (.aload_n 0, 1) := by decide +kernel
theorem d_W_openOfJoins_36 : decode b_W_openOfJoins 36 = .ok (.iconst 2, 1) := by decide +kernel
theorem d_W_openOfJoins_37 : decode b_W_openOfJoins 37 = .ok (.iload_n 1, 1) := by decide +kernel
theorem d_W_openOfJoins_38 : decode b_W_openOfJoins 38 = .ok (.iload_n 2, 1) := by decide +kernel
theorem d_W_openOfJoins_39 : decode b_W_openOfJoins 39 = .ok (.iconst (-1), 1) := by decide +kernel
theorem d_W_openOfJoins_40 : decode b_W_openOfJoins 40 = .ok (.invokevirtual 78, 3) := by decide +kernel
theorem d_W_openOfJoins_43 : decode b_W_openOfJoins 43 = .ok (.aload_n 0, 1) := by decide +kernel
theorem d_W_openOfJoins_44 : decode b_W_openOfJoins 44 = .ok (.iconst 0, 1) := by decide +kernel
theorem d_W_openOfJoins_45 : decode b_W_openOfJoins 45 = .ok (.iload_n 3, 1) := by decide +kernel
theorem d_W_openOfJoins_46 : decode b_W_openOfJoins 46 = .ok (.iconst (-1), 1) := by decide +kernel
theorem d_W_openOfJoins_47 : decode b_W_openOfJoins 47 = .ok (.iconst (-1), 1) := by decide +kernel
theorem d_W_openOfJoins_48 : decode b_W_openOfJoins 48 = .ok (.invokevirtual 78, 3) := by decide +kernel
theorem d_W_openOfJoins_51 : decode b_W_openOfJoins 51 = .ok (.goto 87, 3) := by decide +kernel
theorem d_W_openOfJoins_54 : decode b_W_openOfJoins 54 = .ok (.aload_n 0, 1) := by decide +kernel
theorem d_W_openOfJoins_55 : decode b_W_openOfJoins 55 = .ok (.iload_n 3, 1) := by decide +kernel
theorem d_W_openOfJoins_56 : decode b_W_openOfJoins 56 = .ok (.invokevirtual 120, 3) := by decide +kernel
theorem d_W_openOfJoins_59 : decode b_W_openOfJoins 59 = .ok (.ifCond .eq 22, 3) := by decide +kernel
theorem d_W_openOfJoins_62 : decode b_W_openOfJoins 62 = .ok (.aload_n 0, 1) := by decide +kernel
theorem d_W_openOfJoins_63 : decode b_W_openOfJoins 63 = .ok (.iconst 2, 1) := by decide +kernel
theorem d_W_openOfJoins_64 : decode b_W_openOfJoins 64 = .ok (.iload_n 1, 1) := by decide +kernel
theorem d_W_openOfJoins_65 : decode b_W_openOfJoins 65 = .ok (.iload_n 3, 1) := by decide +kernel
theorem d_W_openOfJoins_66 : decode b_W_openOfJoins 66 = .ok (.iconst (-1), 1) := by decide +kernel
theorem d_W_openOfJoins_67 : decode b_W_openOfJoins 67 = .ok (.invokevirtual 78, 3) := by decide +kernel
theorem d_W_openOfJoins_70 : decode b_W_openOfJoins 70 = .ok (.aload_n 0, 1) := by decide +kernel
theorem d_W_openOfJoins_71 : decode b_W_openOfJoins 71 = .ok (.iconst 0, 1) := by decide +kernel
theorem d_W_openOfJoins_72 : decode b_W_openOfJoins 72 = .ok (.iload_n 2, 1) := by decide +kernel
theorem d_W_openOfJoins_73 : decode b_W_openOfJoins 73 = .ok (.iconst (-1), 1) := by decide +kernel
theorem d_W_openOfJoins_74 : decode b_W_openOfJoins 74 = .ok (.iconst (-1), 1) := by decide +kernel
theorem d_W_openOfJoins_75 : decode b_W_openOfJoins 75 = .ok (.invokevirtual 78, 3) := by decide +kernel
theorem d_W_openOfJoins_78 : decode b_W_openOfJoins 78 = .ok (.goto 60, 3) := by decide +kernel
theorem d_W_openOfJoins_81 : decode b_W_openOfJoins 81 = .ok (.aload_n 0, 1) := by decide +kernel
theorem d_W_openOfJoins_82 : decode b_W_openOfJoins 82 = .ok (.getfield 55, 3) := by decide +kernel
theorem d_W_openOfJoins_85 : decode b_W_openOfJoins 85 = .ok (.iload_n 2, 1) := by decide +kernel
theorem d_W_openOfJoins_86 : decode b_W_openOfJoins 86 = .ok (.invokevirtual 126, 3) := by decide +kernel
theorem d_W_openOfJoins_89 : decode b_W_openOfJoins 89 = .ok (.ifCond .eq 33, 3) := by decide +kernel
theorem d_W_openOfJoins_92 : decode b_W_openOfJoins 92 = .ok (.aload_n 0, 1) := by decide +kernel
theorem d_W_openOfJoins_93 : decode b_W_openOfJoins 93 = .ok (.getfield 55, 3) := by decide +kernel
theorem d_W_openOfJoins_96 : decode b_W_openOfJoins 96 = .ok (.iload_n 3, 1) := by decide +kernel
theorem d_W_openOfJoins_97 : decode b_W_openOfJoins 97 = .ok (.invokevirtual 126, 3) := by decide +kernel
theorem d_W_openOfJoins_100 : decode b_W_openOfJoins 100 = .ok (.ifCond .ne 22, 3) := by decide +kernel
theorem d_W_openOfJoins_103 : decode b_W_openOfJoins 103 = .ok (.aload_n 0, 1) := by decide +kernel
theorem d_W_openOfJoins_104 : decode b_W_openOfJoins 104 = .ok (.iconst 1, 1) := by decide +kernel
theorem d_W_openOfJoins_105 : decode b_W_openOfJoins 105 = .ok (.iload_n 1, 1) := by decide +kernel
theorem d_W_openOfJoins_106 : decode b_W_openOfJoins 106 = .ok (.iload_n 3, 1) := by decide +kernel
theorem d_W_openOfJoins_107 : decode b_W_openOfJoins 107 = .ok (.iload_n 2, 1) := by decide +kernel
theorem d_W_openOfJoins_108 : decode b_W_openOfJoins 108 = .ok (.invokevirtual 78, 3) := by decide +kernel
theorem d_W_openOfJoins_111 : decode b_W_openOfJoins 111 = .ok (.aload_n 0, 1) := by decide +kernel
theorem d_W_openOfJoins_112 : decode b_W_openOfJoins 112 = .ok (.iconst 0, 1) := by decide +kernel
theorem d_W_openOfJoins_113 : decode b_W_openOfJoins 113 = .ok (.iload_n 3, 1) := by decide +kernel
theorem d_W_openOfJoins_114 : decode b_W_openOfJoins 114 = .ok (.iconst (-1), 1) := by decide +kernel
theorem d_W_openOfJoins_115 : decode b_W_openOfJoins 115 = .ok (.iconst (-1), 1) := by decide +kernel
theorem d_W_openOfJoins_116 : decode b_W_openOfJoins 116 = .ok (.invokevirtual 78, 3) := by decide +kernel
theorem d_W_openOfJoins_119 : decode b_W_openOfJoins 119 = .ok (.goto 19, 3) := by decide +kernel
theorem d_W_openOfJoins_122 : decode b_W_openOfJoins 122 = .ok (.aload_n 0, 1) := by decide +kernel
theorem d_W_openOfJoins_123 : decode b_W_openOfJoins 123 = .ok (.iconst 1, 1) := by decide +kernel
theorem d_W_openOfJoins_124 : decode b_W_openOfJoins 124 = .ok (.iload_n 1, 1) := by decide +kernel
theorem d_W_openOfJoins_125 : decode b_W_openOfJoins 125 = .ok (.iload_n 2, 1) := by decide +kernel
theorem d_W_openOfJoins_126 : decode b_W_openOfJoins 126 = .ok (.iload_n 3, 1) := by decide +kernel
theorem d_W_openOfJoins_127 : decode b_W_openOfJoins 127 = .ok (.invokevirtual 78, 3) := by decide +kernel
theorem d_W_openOfJoins_130 : decode b_W_openOfJoins 130 = .ok (.aload_n 0, 1) := by decide +kernel
theorem d_W_openOfJoins_131 : decode b_W_openOfJoins 131 = .ok (.iconst 0, 1) := by decide +kernel
theorem d_W_openOfJoins_132 : decode b_W_openOfJoins 132 = .ok (.iload_n 2, 1) := by decide +kernel
theorem d_W_openOfJoins_133 : decode b_W_openOfJoins 133 = .ok (.iconst (-1), 1) := by decide +kernel
theorem d_W_openOfJoins_134 : decode b_W_openOfJoins 134 = .ok (.iconst (-1), 1) := by decide +kernel
theorem d_W_openOfJoins_135 : decode b_W_openOfJoins 135 = .ok (.invokevirtual 78, 3) := by decide +kernel
theorem d_W_openOfJoins_138 : decode b_W_openOfJoins 138 = .ok (.return_, 1) := by decide +kernel
abbrev rm_W_openOfJoins : Room := { frames := 3, cells := 0, slots := 0, locals := 66 }
def f_W_openOfJoins_122 (x1 : Int32) (x2 : Int32) (x3 : Int32) (M : Mem) : Option Mem :=
  om (f_W_await (1 : Int32) x1 x2 x3 M) fun M127 => om (f_W_await (0 : Int32) x2 (-1 : Int32) (-1 : Int32) M127) fun M135 => some M135
set_option maxRecDepth 100000 in
theorem g_W_openOfJoins_122 {M' : Mem} (C : GC p s m args meth c b_W_openOfJoins 4 (none) "NoneWords$Writer" TB D vwCl (tysW cI cZ cC) A Z) {x1 : Int32} {x2 : Int32} {x3 : Int32} {M : Mem} (hf : f_W_openOfJoins_122 x1 x2 x3 M = some M') : GW p l e rm_W_openOfJoins s m args below meth c (MQ below (QW D vwCl (tysW cI cZ cC) A none (wc ad cI cZ cC M')) args s 0 0 A) D vwCl A 4 0 0 (wc ad cI cZ cC M) 122 [(0, .ref (ad 11)), (1, .int x1), (2, .int x2), (3, .int x3)] [] := by
  unfold f_W_openOfJoins_122 at hf
  refine gw_aload_n C 0 d_W_openOfJoins_122 rfl rfl ?_
  refine gw_iconst (v := (1 : Int32)) C d_W_openOfJoins_123 (by decide) ?_
  refine gw_iload_n C 1 d_W_openOfJoins_124 rfl rfl ?_
  refine gw_iload_n C 2 d_W_openOfJoins_125 rfl rfl ?_
  refine gw_iload_n C 3 d_W_openOfJoins_126 rfl rfl ?_
  obtain ⟨M127, hc127, hf⟩ := om_some hf
  refine gw_callVv (rest := []) C 11 wcg_11 clg_3 (c_W_await C.2.2.2.2.2.2.2.2.2.2 hc127) (cwV 4 C.2.2.2.2.1 (gTB_V tw_350 mv_W_await) rfl rfl rfl pd_W_await ⟨Nat.le_of_ble_eq_true rfl, Nat.le_of_ble_eq_true rfl⟩) rfl rfl (Nat.le_of_ble_eq_true rfl) d_W_openOfJoins_127 ⟨Nat.le_of_ble_eq_true rfl, Nat.le_of_ble_eq_true rfl⟩ ?_
  refine gw_aload_n C 0 d_W_openOfJoins_130 rfl rfl ?_
  refine gw_iconst (v := (0 : Int32)) C d_W_openOfJoins_131 (by decide) ?_
  refine gw_iload_n C 2 d_W_openOfJoins_132 rfl rfl ?_
  refine gw_iconst (v := (-1 : Int32)) C d_W_openOfJoins_133 (by decide) ?_
  refine gw_iconst (v := (-1 : Int32)) C d_W_openOfJoins_134 (by decide) ?_
  obtain ⟨M135, hc135, hf⟩ := om_some hf
  refine gw_callVv (rest := []) C 11 wcg_11 clg_3 (c_W_await C.2.2.2.2.2.2.2.2.2.2 hc135) (cwV 4 C.2.2.2.2.1 (gTB_V tw_350 mv_W_await) rfl rfl rfl pd_W_await ⟨Nat.le_of_ble_eq_true rfl, Nat.le_of_ble_eq_true rfl⟩) rfl rfl (Nat.le_of_ble_eq_true rfl) d_W_openOfJoins_135 ⟨Nat.le_of_ble_eq_true rfl, Nat.le_of_ble_eq_true rfl⟩ ?_
  exact gw_vreti C d_W_openOfJoins_138 (wc ad cI cZ cC) hf
def f_W_openOfJoins_27 (x1 : Int32) (x2 : Int32) (x3 : Int32) (M : Mem) : Option Mem :=
  ob (f_W_hasNumber x2 M) fun r29 M29 => if r29 = 0 then ob (f_W_hasNumber x3 M29) fun r56 M56 => if r56 = 0 then ob (f_F_isSimple x2 M56) fun r86 M86 => if r86 = 0 then f_W_openOfJoins_122 x1 x2 x3 M86 else ob (f_F_isSimple x3 M86) fun r97 M97 => if r97 = 0 then om (f_W_await (1 : Int32) x1 x3 x2 M97) fun M108 => om (f_W_await (0 : Int32) x3 (-1 : Int32) (-1 : Int32) M108) fun M116 => some M116 else f_W_openOfJoins_122 x1 x2 x3 M97 else om (f_W_await (2 : Int32) x1 x3 (-1 : Int32) M56) fun M67 => om (f_W_await (0 : Int32) x2 (-1 : Int32) (-1 : Int32) M67) fun M75 => some M75 else om (f_W_await (2 : Int32) x1 x2 (-1 : Int32) M29) fun M40 => om (f_W_await (0 : Int32) x3 (-1 : Int32) (-1 : Int32) M40) fun M48 => some M48
set_option maxRecDepth 100000 in
theorem g_W_openOfJoins_27 {M' : Mem} (C : GC p s m args meth c b_W_openOfJoins 4 (none) "NoneWords$Writer" TB D vwCl (tysW cI cZ cC) A Z) {x1 : Int32} {x2 : Int32} {x3 : Int32} {M : Mem} (hf : f_W_openOfJoins_27 x1 x2 x3 M = some M') : GW p l e rm_W_openOfJoins s m args below meth c (MQ below (QW D vwCl (tysW cI cZ cC) A none (wc ad cI cZ cC M')) args s 0 0 A) D vwCl A 4 0 0 (wc ad cI cZ cC M) 27 [(0, .ref (ad 11)), (1, .int x1), (2, .int x2), (3, .int x3)] [] := by
  unfold f_W_openOfJoins_27 at hf
  refine gw_aload_n C 0 d_W_openOfJoins_27 rfl rfl ?_
  refine gw_iload_n C 2 d_W_openOfJoins_28 rfl rfl ?_
  obtain ⟨r29, M29, hc29, hf⟩ := ob_some hf
  refine gw_callVr (rest := []) C 11 wcg_11 clg_3 (c_W_hasNumber C.2.2.2.2.2.2.2.2.2.2 hc29) (cwV 1 C.2.2.2.2.1 (gTB_V tw_370 mv_W_hasNumber) rfl rfl rfl pd_W_hasNumber ⟨Nat.le_of_ble_eq_true rfl, Nat.le_of_ble_eq_true rfl⟩) rfl rfl (Nat.le_of_ble_eq_true rfl) d_W_openOfJoins_29 ⟨Nat.le_of_ble_eq_true rfl, Nat.le_of_ble_eq_true rfl⟩ ?_
  refine gw_if_eq (tgt := 54) C d_W_openOfJoins_32 (by decide) (fun c => ?_) (fun c => ?_)
  · have hf := (if_pos c).symm.trans hf
    refine gw_aload_n C 0 d_W_openOfJoins_54 rfl rfl ?_
    refine gw_iload_n C 3 d_W_openOfJoins_55 rfl rfl ?_
    obtain ⟨r56, M56, hc56, hf⟩ := ob_some hf
    refine gw_callVr (rest := []) C 11 wcg_11 clg_3 (c_W_hasNumber C.2.2.2.2.2.2.2.2.2.2 hc56) (cwV 1 C.2.2.2.2.1 (gTB_V tw_370 mv_W_hasNumber) rfl rfl rfl pd_W_hasNumber ⟨Nat.le_of_ble_eq_true rfl, Nat.le_of_ble_eq_true rfl⟩) rfl rfl (Nat.le_of_ble_eq_true rfl) d_W_openOfJoins_56 ⟨Nat.le_of_ble_eq_true rfl, Nat.le_of_ble_eq_true rfl⟩ ?_
    refine gw_if_eq (tgt := 81) C d_W_openOfJoins_59 (by decide) (fun c => ?_) (fun c => ?_)
    · have hf := (if_pos c).symm.trans hf
      refine gw_aload_n C 0 d_W_openOfJoins_81 rfl rfl ?_
      refine gw_get C in_W 11 wcg_11 clg_3 0 (by decide) tw_134 rfl rfl d_W_openOfJoins_82 ?_
      refine gw_iload_n C 2 d_W_openOfJoins_85 rfl rfl ?_
      obtain ⟨r86, M86, hc86, hf⟩ := ob_some hf
      refine gw_callVr (rest := []) C 1 wcg_1 clg_0 (c_F_isSimple C.2.2.2.2.2.2.2.2.2.2 hc86) (cwV 1 C.2.2.2.2.1 (gTB_V tw_390 mv_F_isSimple) rfl rfl rfl pd_F_isSimple ⟨Nat.le_of_ble_eq_true rfl, Nat.le_of_ble_eq_true rfl⟩) rfl rfl (Nat.le_of_ble_eq_true rfl) d_W_openOfJoins_86 ⟨Nat.le_of_ble_eq_true rfl, Nat.le_of_ble_eq_true rfl⟩ ?_
      refine gw_if_eq (tgt := 122) C d_W_openOfJoins_89 (by decide) (fun c => ?_) (fun c => ?_)
      · have hf := (if_pos c).symm.trans hf
        exact gw_sub [0, 1, 2, 3] rfl (g_W_openOfJoins_122 C hf)
      · have hf := (if_neg c).symm.trans hf
        refine gw_aload_n C 0 d_W_openOfJoins_92 rfl rfl ?_
        refine gw_get C in_W 11 wcg_11 clg_3 0 (by decide) tw_134 rfl rfl d_W_openOfJoins_93 ?_
        refine gw_iload_n C 3 d_W_openOfJoins_96 rfl rfl ?_
        obtain ⟨r97, M97, hc97, hf⟩ := ob_some hf
        refine gw_callVr (rest := []) C 1 wcg_1 clg_0 (c_F_isSimple C.2.2.2.2.2.2.2.2.2.2 hc97) (cwV 1 C.2.2.2.2.1 (gTB_V tw_390 mv_F_isSimple) rfl rfl rfl pd_F_isSimple ⟨Nat.le_of_ble_eq_true rfl, Nat.le_of_ble_eq_true rfl⟩) rfl rfl (Nat.le_of_ble_eq_true rfl) d_W_openOfJoins_97 ⟨Nat.le_of_ble_eq_true rfl, Nat.le_of_ble_eq_true rfl⟩ ?_
        refine gw_if_ne (tgt := 122) C d_W_openOfJoins_100 (by decide) (fun c => ?_) (fun c => ?_)
        · have hf := (if_neg c).symm.trans hf
          exact gw_sub [0, 1, 2, 3] rfl (g_W_openOfJoins_122 C hf)
        · have hf := (if_pos c).symm.trans hf
          refine gw_aload_n C 0 d_W_openOfJoins_103 rfl rfl ?_
          refine gw_iconst (v := (1 : Int32)) C d_W_openOfJoins_104 (by decide) ?_
          refine gw_iload_n C 1 d_W_openOfJoins_105 rfl rfl ?_
          refine gw_iload_n C 3 d_W_openOfJoins_106 rfl rfl ?_
          refine gw_iload_n C 2 d_W_openOfJoins_107 rfl rfl ?_
          obtain ⟨M108, hc108, hf⟩ := om_some hf
          refine gw_callVv (rest := []) C 11 wcg_11 clg_3 (c_W_await C.2.2.2.2.2.2.2.2.2.2 hc108) (cwV 4 C.2.2.2.2.1 (gTB_V tw_350 mv_W_await) rfl rfl rfl pd_W_await ⟨Nat.le_of_ble_eq_true rfl, Nat.le_of_ble_eq_true rfl⟩) rfl rfl (Nat.le_of_ble_eq_true rfl) d_W_openOfJoins_108 ⟨Nat.le_of_ble_eq_true rfl, Nat.le_of_ble_eq_true rfl⟩ ?_
          refine gw_aload_n C 0 d_W_openOfJoins_111 rfl rfl ?_
          refine gw_iconst (v := (0 : Int32)) C d_W_openOfJoins_112 (by decide) ?_
          refine gw_iload_n C 3 d_W_openOfJoins_113 rfl rfl ?_
          refine gw_iconst (v := (-1 : Int32)) C d_W_openOfJoins_114 (by decide) ?_
          refine gw_iconst (v := (-1 : Int32)) C d_W_openOfJoins_115 (by decide) ?_
          obtain ⟨M116, hc116, hf⟩ := om_some hf
          refine gw_callVv (rest := []) C 11 wcg_11 clg_3 (c_W_await C.2.2.2.2.2.2.2.2.2.2 hc116) (cwV 4 C.2.2.2.2.1 (gTB_V tw_350 mv_W_await) rfl rfl rfl pd_W_await ⟨Nat.le_of_ble_eq_true rfl, Nat.le_of_ble_eq_true rfl⟩) rfl rfl (Nat.le_of_ble_eq_true rfl) d_W_openOfJoins_116 ⟨Nat.le_of_ble_eq_true rfl, Nat.le_of_ble_eq_true rfl⟩ ?_
          refine gw_goto (tgt := 138) C d_W_openOfJoins_119 (by decide) ?_
          exact gw_vreti C d_W_openOfJoins_138 (wc ad cI cZ cC) hf
    · have hf := (if_neg c).symm.trans hf
      refine gw_aload_n C 0 d_W_openOfJoins_62 rfl rfl ?_
      refine gw_iconst (v := (2 : Int32)) C d_W_openOfJoins_63 (by decide) ?_
      refine gw_iload_n C 1 d_W_openOfJoins_64 rfl rfl ?_
      refine gw_iload_n C 3 d_W_openOfJoins_65 rfl rfl ?_
      refine gw_iconst (v := (-1 : Int32)) C d_W_openOfJoins_66 (by decide) ?_
      obtain ⟨M67, hc67, hf⟩ := om_some hf
      refine gw_callVv (rest := []) C 11 wcg_11 clg_3 (c_W_await C.2.2.2.2.2.2.2.2.2.2 hc67) (cwV 4 C.2.2.2.2.1 (gTB_V tw_350 mv_W_await) rfl rfl rfl pd_W_await ⟨Nat.le_of_ble_eq_true rfl, Nat.le_of_ble_eq_true rfl⟩) rfl rfl (Nat.le_of_ble_eq_true rfl) d_W_openOfJoins_67 ⟨Nat.le_of_ble_eq_true rfl, Nat.le_of_ble_eq_true rfl⟩ ?_
      refine gw_aload_n C 0 d_W_openOfJoins_70 rfl rfl ?_
      refine gw_iconst (v := (0 : Int32)) C d_W_openOfJoins_71 (by decide) ?_
      refine gw_iload_n C 2 d_W_openOfJoins_72 rfl rfl ?_
      refine gw_iconst (v := (-1 : Int32)) C d_W_openOfJoins_73 (by decide) ?_
      refine gw_iconst (v := (-1 : Int32)) C d_W_openOfJoins_74 (by decide) ?_
      obtain ⟨M75, hc75, hf⟩ := om_some hf
      refine gw_callVv (rest := []) C 11 wcg_11 clg_3 (c_W_await C.2.2.2.2.2.2.2.2.2.2 hc75) (cwV 4 C.2.2.2.2.1 (gTB_V tw_350 mv_W_await) rfl rfl rfl pd_W_await ⟨Nat.le_of_ble_eq_true rfl, Nat.le_of_ble_eq_true rfl⟩) rfl rfl (Nat.le_of_ble_eq_true rfl) d_W_openOfJoins_75 ⟨Nat.le_of_ble_eq_true rfl, Nat.le_of_ble_eq_true rfl⟩ ?_
      refine gw_goto (tgt := 138) C d_W_openOfJoins_78 (by decide) ?_
      exact gw_vreti C d_W_openOfJoins_138 (wc ad cI cZ cC) hf
  · have hf := (if_neg c).symm.trans hf
    refine gw_aload_n C 0 d_W_openOfJoins_35 rfl rfl ?_
    refine gw_iconst (v := (2 : Int32)) C d_W_openOfJoins_36 (by decide) ?_
    refine gw_iload_n C 1 d_W_openOfJoins_37 rfl rfl ?_
    refine gw_iload_n C 2 d_W_openOfJoins_38 rfl rfl ?_
    refine gw_iconst (v := (-1 : Int32)) C d_W_openOfJoins_39 (by decide) ?_
    obtain ⟨M40, hc40, hf⟩ := om_some hf
    refine gw_callVv (rest := []) C 11 wcg_11 clg_3 (c_W_await C.2.2.2.2.2.2.2.2.2.2 hc40) (cwV 4 C.2.2.2.2.1 (gTB_V tw_350 mv_W_await) rfl rfl rfl pd_W_await ⟨Nat.le_of_ble_eq_true rfl, Nat.le_of_ble_eq_true rfl⟩) rfl rfl (Nat.le_of_ble_eq_true rfl) d_W_openOfJoins_40 ⟨Nat.le_of_ble_eq_true rfl, Nat.le_of_ble_eq_true rfl⟩ ?_
    refine gw_aload_n C 0 d_W_openOfJoins_43 rfl rfl ?_
    refine gw_iconst (v := (0 : Int32)) C d_W_openOfJoins_44 (by decide) ?_
    refine gw_iload_n C 3 d_W_openOfJoins_45 rfl rfl ?_
    refine gw_iconst (v := (-1 : Int32)) C d_W_openOfJoins_46 (by decide) ?_
    refine gw_iconst (v := (-1 : Int32)) C d_W_openOfJoins_47 (by decide) ?_
    obtain ⟨M48, hc48, hf⟩ := om_some hf
    refine gw_callVv (rest := []) C 11 wcg_11 clg_3 (c_W_await C.2.2.2.2.2.2.2.2.2.2 hc48) (cwV 4 C.2.2.2.2.1 (gTB_V tw_350 mv_W_await) rfl rfl rfl pd_W_await ⟨Nat.le_of_ble_eq_true rfl, Nat.le_of_ble_eq_true rfl⟩) rfl rfl (Nat.le_of_ble_eq_true rfl) d_W_openOfJoins_48 ⟨Nat.le_of_ble_eq_true rfl, Nat.le_of_ble_eq_true rfl⟩ ?_
    refine gw_goto (tgt := 138) C d_W_openOfJoins_51 (by decide) ?_
    exact gw_vreti C d_W_openOfJoins_138 (wc ad cI cZ cC) hf
def f_W_openOfJoins (x1 : Int32) (x2 : Int32) (x3 : Int32) (M : Mem) : Option Mem :=
  ob (f_W_hasNumber x2 M) fun r2 M2 => if r2 = 0 then f_W_openOfJoins_27 x1 x2 x3 M2 else ob (f_W_hasNumber x3 M2) fun r10 M10 => if r10 = 0 then f_W_openOfJoins_27 x1 x2 x3 M10 else om (f_W_close (1 : Int32) x2 x3 x1 M10) fun M21 => some M21
set_option maxRecDepth 100000 in
theorem g_W_openOfJoins {M' : Mem} (C : GC p s m args meth c b_W_openOfJoins 4 (none) "NoneWords$Writer" TB D vwCl (tysW cI cZ cC) A Z) {x1 : Int32} {x2 : Int32} {x3 : Int32} {M : Mem} (hf : f_W_openOfJoins x1 x2 x3 M = some M') : GW p l e rm_W_openOfJoins s m args below meth c (MQ below (QW D vwCl (tysW cI cZ cC) A none (wc ad cI cZ cC M')) args s 0 0 A) D vwCl A 4 0 0 (wc ad cI cZ cC M) 0 [(0, .ref (ad 11)), (1, .int x1), (2, .int x2), (3, .int x3)] [] := by
  unfold f_W_openOfJoins at hf
  refine gw_aload_n C 0 d_W_openOfJoins_0 rfl rfl ?_
  refine gw_iload_n C 2 d_W_openOfJoins_1 rfl rfl ?_
  obtain ⟨r2, M2, hc2, hf⟩ := ob_some hf
  refine gw_callVr (rest := []) C 11 wcg_11 clg_3 (c_W_hasNumber C.2.2.2.2.2.2.2.2.2.2 hc2) (cwV 1 C.2.2.2.2.1 (gTB_V tw_370 mv_W_hasNumber) rfl rfl rfl pd_W_hasNumber ⟨Nat.le_of_ble_eq_true rfl, Nat.le_of_ble_eq_true rfl⟩) rfl rfl (Nat.le_of_ble_eq_true rfl) d_W_openOfJoins_2 ⟨Nat.le_of_ble_eq_true rfl, Nat.le_of_ble_eq_true rfl⟩ ?_
  refine gw_if_eq (tgt := 27) C d_W_openOfJoins_5 (by decide) (fun c => ?_) (fun c => ?_)
  · have hf := (if_pos c).symm.trans hf
    exact gw_sub [0, 1, 2, 3] rfl (g_W_openOfJoins_27 C hf)
  · have hf := (if_neg c).symm.trans hf
    refine gw_aload_n C 0 d_W_openOfJoins_8 rfl rfl ?_
    refine gw_iload_n C 3 d_W_openOfJoins_9 rfl rfl ?_
    obtain ⟨r10, M10, hc10, hf⟩ := ob_some hf
    refine gw_callVr (rest := []) C 11 wcg_11 clg_3 (c_W_hasNumber C.2.2.2.2.2.2.2.2.2.2 hc10) (cwV 1 C.2.2.2.2.1 (gTB_V tw_370 mv_W_hasNumber) rfl rfl rfl pd_W_hasNumber ⟨Nat.le_of_ble_eq_true rfl, Nat.le_of_ble_eq_true rfl⟩) rfl rfl (Nat.le_of_ble_eq_true rfl) d_W_openOfJoins_10 ⟨Nat.le_of_ble_eq_true rfl, Nat.le_of_ble_eq_true rfl⟩ ?_
    refine gw_if_eq (tgt := 27) C d_W_openOfJoins_13 (by decide) (fun c => ?_) (fun c => ?_)
    · have hf := (if_pos c).symm.trans hf
      exact gw_sub [0, 1, 2, 3] rfl (g_W_openOfJoins_27 C hf)
    · have hf := (if_neg c).symm.trans hf
      refine gw_aload_n C 0 d_W_openOfJoins_16 rfl rfl ?_
      refine gw_iconst (v := (1 : Int32)) C d_W_openOfJoins_17 (by decide) ?_
      refine gw_iload_n C 2 d_W_openOfJoins_18 rfl rfl ?_
      refine gw_iload_n C 3 d_W_openOfJoins_19 rfl rfl ?_
      refine gw_iload_n C 1 d_W_openOfJoins_20 rfl rfl ?_
      obtain ⟨M21, hc21, hf⟩ := om_some hf
      refine gw_callVv (rest := []) C 11 wcg_11 clg_3 (c_W_close C.2.2.2.2.2.2.2.2.2.2 hc21) (cwV 4 C.2.2.2.2.1 (gTB_V tw_378 mv_W_close) rfl rfl rfl pd_W_close ⟨Nat.le_of_ble_eq_true rfl, Nat.le_of_ble_eq_true rfl⟩) rfl rfl (Nat.le_of_ble_eq_true rfl) d_W_openOfJoins_21 ⟨Nat.le_of_ble_eq_true rfl, Nat.le_of_ble_eq_true rfl⟩ ?_
      refine gw_goto (tgt := 138) C d_W_openOfJoins_24 (by decide) ?_
      exact gw_vreti C d_W_openOfJoins_138 (wc ad cI cZ cC) hf
theorem c_W_openOfJoins (hZ : gw_ZOK Z) {x1 : Int32} {x2 : Int32} {x3 : Int32} {M : Mem} {M' : Mem} (hf : f_W_openOfJoins x1 x2 x3 M = some M') : CW l y_W_openOfJoins ws_W_openOfJoins rm_W_openOfJoins D vwCl (tysW cI cZ cC) Z [.ref (ad 11), .int x1, .int x2, .int x3] (wc ad cI cZ cC M) none (wc ad cI cZ cC M') 0 0 :=
  CW.ofG hZ (by decide) rfl (Nat.le_of_ble_eq_true rfl) (fun _ _ _ _ _ _ _ _ C _ => g_W_openOfJoins C hf)
abbrev b_W_openOfLeafAndJoin : ByteArray := prog_5_method_14_code
def y_W_openOfLeafAndJoin : MethodName := ⟨"NoneWords$Writer", "openOfLeafAndJoin", "(III)V"⟩
abbrev ws_W_openOfLeafAndJoin : List Cond := Cond.code y_W_openOfLeafAndJoin b_W_openOfLeafAndJoin 7 (none) :: TB
set_option maxRecDepth 100000 in
theorem tc_W_openOfLeafAndJoin : Cond.code y_W_openOfLeafAndJoin b_W_openOfLeafAndJoin 7 (none) ∈ TB := inTB 403 rfl rfl
theorem mv_W_openOfLeafAndJoin : Cond.instanceMethod y_W_openOfLeafAndJoin ∈ TB ∧ Cond.selects "NoneWords$Writer" y_W_openOfLeafAndJoin y_W_openOfLeafAndJoin ∈ TB ∧ Cond.initialized "NoneWords$Writer" ∈ TB ∧ Cond.code y_W_openOfLeafAndJoin b_W_openOfLeafAndJoin 7 (none) ∈ TB := ⟨inTB 402 (by decide +kernel) (by decide +kernel), inTB 11 (by decide +kernel) (by decide +kernel), inTB 68 (by decide +kernel) (by decide +kernel), tc_W_openOfLeafAndJoin⟩
theorem pd_W_openOfLeafAndJoin : y_W_openOfLeafAndJoin.cls = "NoneWords$Writer" ∧ y_W_openOfLeafAndJoin.cls ≠ "java/lang/invoke/MethodHandle" ∧ y_W_openOfLeafAndJoin.cls ≠ "java/lang/invoke/VarHandle" ∧ (parseMethodDescriptor y_W_openOfLeafAndJoin.desc).map (fun d => d.parameters.length) = some 3 := by decide +kernel
theorem d_W_openOfLeafAndJoin_0 : decode b_W_openOfLeafAndJoin 0 = .ok (.aload_n 0, 1) := by decide +kernel
theorem d_W_openOfLeafAndJoin_1 : decode b_W_openOfLeafAndJoin 1 = .ok (.getfield 55, 3) := by decide +kernel
theorem d_W_openOfLeafAndJoin_4 : decode b_W_openOfLeafAndJoin 4 = .ok (.iload_n 3, 1) := by decide +kernel
theorem d_W_openOfLeafAndJoin_5 : decode b_W_openOfLeafAndJoin 5 = .ok (.invokevirtual 114, 3) := by decide +kernel
theorem d_W_openOfLeafAndJoin_8 : decode b_W_openOfLeafAndJoin 8 = .ok (.istore 4, 2) := by decide +kernel
theorem d_W_openOfLeafAndJoin_10 : decode b_W_openOfLeafAndJoin 10 = .ok (.aload_n 0, 1) := by decide +kernel
theorem d_W_openOfLeafAndJoin_11 : decode b_W_openOfLeafAndJoin 11 = .ok (.getfield 55, 3) := by decide +kernel
theorem d_W_openOfLeafAndJoin_14 : decode b_W_openOfLeafAndJoin 14 = .ok (.iload_n 3, 1) := by decide +kernel
theorem d_W_openOfLeafAndJoin_15 : decode b_W_openOfLeafAndJoin 15 = .ok (.invokevirtual 117, 3) := by decide +kernel
theorem d_W_openOfLeafAndJoin_18 : decode b_W_openOfLeafAndJoin 18 = .ok (.istore 5, 2) := by decide +kernel
theorem d_W_openOfLeafAndJoin_20 : decode b_W_openOfLeafAndJoin 20 = .ok (.iload 4, 2) := by decide +kernel
theorem d_W_openOfLeafAndJoin_22 : decode b_W_openOfLeafAndJoin 22 = .ok (.iconst (-1), 1) := by decide +kernel
theorem d_W_openOfLeafAndJoin_23 : decode b_W_openOfLeafAndJoin 23 = .ok (.if_icmp .eq 13, 3) := by decide +kernel
theorem d_W_openOfLeafAndJoin_26 : decode b_W_openOfLeafAndJoin 26 = .ok (.iload 5, 2) := by decide +kernel
theorem d_W_openOfLeafAndJoin_28 : decode b_W_openOfLeafAndJoin 28 = .ok (.iconst (-1), 1) := by decide +kernel
theorem d_W_openOfLeafAndJoin_29 : decode b_W_openOfLeafAndJoin 29 = .ok (.if_icmp .eq 7, 3) := by decide +kernel
theorem d_W_openOfLeafAndJoin_32 : decode b_W_openOfLeafAndJoin 32 = .ok (.iconst 1, 1) := by decide +kernel
theorem d_W_openOfLeafAndJoin_33 : decode b_W_openOfLeafAndJoin 33 = .ok (.goto 4, 3) := by decide +kernel
theorem d_W_openOfLeafAndJoin_36 : decode b_W_openOfLeafAndJoin 36 = .ok (.iconst 0, 1) := by decide +kernel
theorem d_W_openOfLeafAndJoin_37 : decode b_W_openOfLeafAndJoin 37 = .ok (.istore 6, 2) := by decide +kernel
theorem d_W_openOfLeafAndJoin_39 : decode b_W_openOfLeafAndJoin 39 = .ok (.aload_n 0, 1) := by decide +kernel
theorem d_W_openOfLeafAndJoin_40 : decode b_W_openOfLeafAndJoin 40 = .ok (.iload_n 3, 1) := by decide +kernel
theorem d_W_openOfLeafAndJoin_41 : decode b_W_openOfLeafAndJoin 41 = .ok (.invokevirtual 120, 3) := by decide +kernel
theorem d_W_openOfLeafAndJoin_44 : decode b_W_openOfLeafAndJoin 44 = .ok (.ifCond .eq 14, 3) := by decide +kernel
theorem d_W_openOfLeafAndJoin_47 : decode b_W_openOfLeafAndJoin 47 = .ok (.aload_n 0, 1) := by decide +kernel
theorem d_W_openOfLeafAndJoin_48 : decode b_W_openOfLeafAndJoin 48 = .ok (.iconst 1, 1) := by decide +kernel
theorem d_W_openOfLeafAndJoin_49 : decode b_W_openOfLeafAndJoin 49 = .ok (.iload_n 2, 1) := by decide +kernel
theorem d_W_openOfLeafAndJoin_50 : decode b_W_openOfLeafAndJoin 50 = .ok (.iload_n 3, 1) := by decide +kernel
theorem d_W_openOfLeafAndJoin_51 : decode b_W_openOfLeafAndJoin 51 = .ok (.iload_n 1, 1) := by decide +kernel
theorem d_W_openOfLeafAndJoin_52 : decode b_W_openOfLeafAndJoin 52 = .ok (.invokevirtual 89, 3) := by decide +kernel
theorem d_W_openOfLeafAndJoin_55 : decode b_W_openOfLeafAndJoin 55 = .ok (.goto 62, 3) := by decide +kernel
theorem d_W_openOfLeafAndJoin_58 : decode b_W_openOfLeafAndJoin 58 = .ok (.iload 6, 2) := by decide +kernel
theorem d_W_openOfLeafAndJoin_60 : decode b_W_openOfLeafAndJoin 60 = .ok (.ifCond .eq 41, 3) := by decide +kernel
theorem d_W_openOfLeafAndJoin_63 : decode b_W_openOfLeafAndJoin 63 = .ok (.aload_n 0, 1) := by decide +kernel
theorem d_W_openOfLeafAndJoin_64 : decode b_W_openOfLeafAndJoin 64 = .ok (.iload_n 3, 1) := by decide +kernel
theorem d_W_openOfLeafAndJoin_65 : decode b_W_openOfLeafAndJoin 65 = .ok (.invokevirtual 123, 3) := by decide +kernel
theorem d_W_openOfLeafAndJoin_68 : decode b_W_openOfLeafAndJoin 68 = .ok (.ifCond .ne 33, 3) := by decide +kernel
theorem d_W_openOfLeafAndJoin_71 : decode b_W_openOfLeafAndJoin 71 = .ok (.aload_n 0, 1) := by decide +kernel
theorem d_W_openOfLeafAndJoin_72 : decode b_W_openOfLeafAndJoin 72 = .ok (.iload 5, 2) := by decide +kernel
theorem d_W_openOfLeafAndJoin_74 : decode b_W_openOfLeafAndJoin 74 = .ok (.invokevirtual 120, 3) := by decide +kernel
theorem d_W_openOfLeafAndJoin_77 : decode b_W_openOfLeafAndJoin 77 = .ok (.ifCond .ne 24, 3) := by decide +kernel
theorem d_W_openOfLeafAndJoin_80 : decode b_W_openOfLeafAndJoin 80 = .ok (.aload_n 0, 1) := by decide +kernel
theorem d_W_openOfLeafAndJoin_81 : decode b_W_openOfLeafAndJoin 81 = .ok (.iconst 2, 1) := by decide +kernel
theorem d_W_openOfLeafAndJoin_82 : decode b_W_openOfLeafAndJoin 82 = .ok (.iload_n 1, 1) := by decide +kernel
theorem d_W_openOfLeafAndJoin_83 : decode b_W_openOfLeafAndJoin 83 = .ok (.iload 4, 2) := by decide +kernel
theorem d_W_openOfLeafAndJoin_85 : decode b_W_openOfLeafAndJoin 85 = .ok (.iload_n 2, 1) := by decide +kernel
theorem d_W_openOfLeafAndJoin_86 : decode b_W_openOfLeafAndJoin 86 = .ok (.invokevirtual 78, 3) := by decide +kernel
theorem d_W_openOfLeafAndJoin_89 : decode b_W_openOfLeafAndJoin 89 = .ok (.aload_n 0, 1) := by decide +kernel
theorem d_W_openOfLeafAndJoin_90 : decode b_W_openOfLeafAndJoin 90 = .ok (.iconst 0, 1) := by decide +kernel
theorem d_W_openOfLeafAndJoin_91 : decode b_W_openOfLeafAndJoin 91 = .ok (.iload 5, 2) := by decide +kernel
theorem d_W_openOfLeafAndJoin_93 : decode b_W_openOfLeafAndJoin 93 = .ok (.iconst (-1), 1) := by decide +kernel
theorem d_W_openOfLeafAndJoin_94 : decode b_W_openOfLeafAndJoin 94 = .ok (.iconst (-1), 1) := by decide +kernel
theorem d_W_openOfLeafAndJoin_95 : decode b_W_openOfLeafAndJoin 95 = .ok (.invokevirtual 78, 3) := by decide +kernel
theorem d_W_openOfLeafAndJoin_98 : decode b_W_openOfLeafAndJoin 98 = .ok (.goto 19, 3) := by decide +kernel
theorem d_W_openOfLeafAndJoin_101 : decode b_W_openOfLeafAndJoin 101 = .ok (.aload_n 0, 1) := by decide +kernel
theorem d_W_openOfLeafAndJoin_102 : decode b_W_openOfLeafAndJoin 102 = .ok (.iconst 2, 1) := by decide +kernel
theorem d_W_openOfLeafAndJoin_103 : decode b_W_openOfLeafAndJoin 103 = .ok (.iload_n 1, 1) := by decide +kernel
theorem d_W_openOfLeafAndJoin_104 : decode b_W_openOfLeafAndJoin 104 = .ok (.iload_n 2, 1) := by decide +kernel
theorem d_W_openOfLeafAndJoin_105 : decode b_W_openOfLeafAndJoin 105 = .ok (.iconst (-1), 1) := by decide +kernel
theorem d_W_openOfLeafAndJoin_106 : decode b_W_openOfLeafAndJoin 106 = .ok (.invokevirtual 78, 3) := by decide +kernel
theorem d_W_openOfLeafAndJoin_109 : decode b_W_openOfLeafAndJoin 109 = .ok (.aload_n 0, 1) := by decide +kernel
theorem d_W_openOfLeafAndJoin_110 : decode b_W_openOfLeafAndJoin 110 = .ok (.iconst 0, 1) := by decide +kernel
theorem d_W_openOfLeafAndJoin_111 : decode b_W_openOfLeafAndJoin 111 = .ok (.iload_n 3, 1) := by decide +kernel
theorem d_W_openOfLeafAndJoin_112 : decode b_W_openOfLeafAndJoin 112 = .ok (.iconst (-1), 1) := by decide +kernel
theorem d_W_openOfLeafAndJoin_113 : decode b_W_openOfLeafAndJoin 113 = .ok (.iconst (-1), 1) := by decide +kernel
theorem d_W_openOfLeafAndJoin_114 : decode b_W_openOfLeafAndJoin 114 = .ok (.invokevirtual 78, 3) := by decide +kernel
theorem d_W_openOfLeafAndJoin_117 : decode b_W_openOfLeafAndJoin 117 = .ok (.return_, 1) := by decide +kernel
abbrev rm_W_openOfLeafAndJoin : Room := { frames := 3, cells := 0, slots := 0, locals := 66 }
def f_W_openOfLeafAndJoin_101 (x1 : Int32) (x2 : Int32) (x3 : Int32) (M : Mem) : Option Mem :=
  om (f_W_await (2 : Int32) x1 x2 (-1 : Int32) M) fun M106 => om (f_W_await (0 : Int32) x3 (-1 : Int32) (-1 : Int32) M106) fun M114 => some M114
set_option maxRecDepth 100000 in
theorem g_W_openOfLeafAndJoin_101 {M' : Mem} (C : GC p s m args meth c b_W_openOfLeafAndJoin 7 (none) "NoneWords$Writer" TB D vwCl (tysW cI cZ cC) A Z) {x1 : Int32} {x2 : Int32} {x3 : Int32} {M : Mem} (hf : f_W_openOfLeafAndJoin_101 x1 x2 x3 M = some M') : GW p l e rm_W_openOfLeafAndJoin s m args below meth c (MQ below (QW D vwCl (tysW cI cZ cC) A none (wc ad cI cZ cC M')) args s 0 0 A) D vwCl A 7 0 0 (wc ad cI cZ cC M) 101 [(0, .ref (ad 11)), (1, .int x1), (2, .int x2), (3, .int x3)] [] := by
  unfold f_W_openOfLeafAndJoin_101 at hf
  refine gw_aload_n C 0 d_W_openOfLeafAndJoin_101 rfl rfl ?_
  refine gw_iconst (v := (2 : Int32)) C d_W_openOfLeafAndJoin_102 (by decide) ?_
  refine gw_iload_n C 1 d_W_openOfLeafAndJoin_103 rfl rfl ?_
  refine gw_iload_n C 2 d_W_openOfLeafAndJoin_104 rfl rfl ?_
  refine gw_iconst (v := (-1 : Int32)) C d_W_openOfLeafAndJoin_105 (by decide) ?_
  obtain ⟨M106, hc106, hf⟩ := om_some hf
  refine gw_callVv (rest := []) C 11 wcg_11 clg_3 (c_W_await C.2.2.2.2.2.2.2.2.2.2 hc106) (cwV 4 C.2.2.2.2.1 (gTB_V tw_350 mv_W_await) rfl rfl rfl pd_W_await ⟨Nat.le_of_ble_eq_true rfl, Nat.le_of_ble_eq_true rfl⟩) rfl rfl (Nat.le_of_ble_eq_true rfl) d_W_openOfLeafAndJoin_106 ⟨Nat.le_of_ble_eq_true rfl, Nat.le_of_ble_eq_true rfl⟩ ?_
  refine gw_aload_n C 0 d_W_openOfLeafAndJoin_109 rfl rfl ?_
  refine gw_iconst (v := (0 : Int32)) C d_W_openOfLeafAndJoin_110 (by decide) ?_
  refine gw_iload_n C 3 d_W_openOfLeafAndJoin_111 rfl rfl ?_
  refine gw_iconst (v := (-1 : Int32)) C d_W_openOfLeafAndJoin_112 (by decide) ?_
  refine gw_iconst (v := (-1 : Int32)) C d_W_openOfLeafAndJoin_113 (by decide) ?_
  obtain ⟨M114, hc114, hf⟩ := om_some hf
  refine gw_callVv (rest := []) C 11 wcg_11 clg_3 (c_W_await C.2.2.2.2.2.2.2.2.2.2 hc114) (cwV 4 C.2.2.2.2.1 (gTB_V tw_350 mv_W_await) rfl rfl rfl pd_W_await ⟨Nat.le_of_ble_eq_true rfl, Nat.le_of_ble_eq_true rfl⟩) rfl rfl (Nat.le_of_ble_eq_true rfl) d_W_openOfLeafAndJoin_114 ⟨Nat.le_of_ble_eq_true rfl, Nat.le_of_ble_eq_true rfl⟩ ?_
  exact gw_vreti C d_W_openOfLeafAndJoin_117 (wc ad cI cZ cC) hf
def f_W_openOfLeafAndJoin_37 (x1 : Int32) (x2 : Int32) (x3 : Int32) (x4 : Int32) (x5 : Int32) (y0 : Int32) (M : Mem) : Option Mem :=
  ob (f_W_hasNumber x3 M) fun r41 M41 => if r41 = 0 then if y0 = 0 then f_W_openOfLeafAndJoin_101 x1 x2 x3 M41 else ob (f_W_isShared x3 M41) fun r65 M65 => if r65 = 0 then ob (f_W_hasNumber x5 M65) fun r74 M74 => if r74 = 0 then om (f_W_await (2 : Int32) x1 x4 x2 M74) fun M86 => om (f_W_await (0 : Int32) x5 (-1 : Int32) (-1 : Int32) M86) fun M95 => some M95 else f_W_openOfLeafAndJoin_101 x1 x2 x3 M74 else f_W_openOfLeafAndJoin_101 x1 x2 x3 M65 else om (f_W_close (1 : Int32) x2 x3 x1 M41) fun M52 => some M52
set_option maxRecDepth 100000 in
theorem g_W_openOfLeafAndJoin_37 {M' : Mem} (C : GC p s m args meth c b_W_openOfLeafAndJoin 7 (none) "NoneWords$Writer" TB D vwCl (tysW cI cZ cC) A Z) {x1 : Int32} {x2 : Int32} {x3 : Int32} {x4 : Int32} {x5 : Int32} {y0 : Int32} {M : Mem} (hf : f_W_openOfLeafAndJoin_37 x1 x2 x3 x4 x5 y0 M = some M') : GW p l e rm_W_openOfLeafAndJoin s m args below meth c (MQ below (QW D vwCl (tysW cI cZ cC) A none (wc ad cI cZ cC M')) args s 0 0 A) D vwCl A 7 0 0 (wc ad cI cZ cC M) 37 [(0, .ref (ad 11)), (1, .int x1), (2, .int x2), (3, .int x3), (4, .int x4), (5, .int x5)] [.int y0] := by
  unfold f_W_openOfLeafAndJoin_37 at hf
  refine gw_istore (lv' := [(6, .int y0), (0, .ref (ad 11)), (1, .int x1), (2, .int x2), (3, .int x3), (4, .int x4), (5, .int x5)]) C d_W_openOfLeafAndJoin_37 (by decide) rfl ?_
  refine gw_aload_n C 1 d_W_openOfLeafAndJoin_39 rfl rfl ?_
  refine gw_iload_n C 4 d_W_openOfLeafAndJoin_40 rfl rfl ?_
  obtain ⟨r41, M41, hc41, hf⟩ := ob_some hf
  refine gw_callVr (rest := []) C 11 wcg_11 clg_3 (c_W_hasNumber C.2.2.2.2.2.2.2.2.2.2 hc41) (cwV 1 C.2.2.2.2.1 (gTB_V tw_370 mv_W_hasNumber) rfl rfl rfl pd_W_hasNumber ⟨Nat.le_of_ble_eq_true rfl, Nat.le_of_ble_eq_true rfl⟩) rfl rfl (Nat.le_of_ble_eq_true rfl) d_W_openOfLeafAndJoin_41 ⟨Nat.le_of_ble_eq_true rfl, Nat.le_of_ble_eq_true rfl⟩ ?_
  refine gw_if_eq (tgt := 58) C d_W_openOfLeafAndJoin_44 (by decide) (fun c => ?_) (fun c => ?_)
  · have hf := (if_pos c).symm.trans hf
    refine gw_iload C 0 d_W_openOfLeafAndJoin_58 rfl ?_
    refine gw_if_eq (tgt := 101) C d_W_openOfLeafAndJoin_60 (by decide) (fun c => ?_) (fun c => ?_)
    · have hf := (if_pos c).symm.trans hf
      exact gw_sub [1, 2, 3, 4] rfl (g_W_openOfLeafAndJoin_101 C hf)
    · have hf := (if_neg c).symm.trans hf
      refine gw_aload_n C 1 d_W_openOfLeafAndJoin_63 rfl rfl ?_
      refine gw_iload_n C 4 d_W_openOfLeafAndJoin_64 rfl rfl ?_
      obtain ⟨r65, M65, hc65, hf⟩ := ob_some hf
      refine gw_callVr (rest := []) C 11 wcg_11 clg_3 (c_W_isShared C.2.2.2.2.2.2.2.2.2.2 hc65) (cwV 1 C.2.2.2.2.1 (gTB_V tw_382 mv_W_isShared) rfl rfl rfl pd_W_isShared ⟨Nat.le_of_ble_eq_true rfl, Nat.le_of_ble_eq_true rfl⟩) rfl rfl (Nat.le_of_ble_eq_true rfl) d_W_openOfLeafAndJoin_65 ⟨Nat.le_of_ble_eq_true rfl, Nat.le_of_ble_eq_true rfl⟩ ?_
      refine gw_if_ne (tgt := 101) C d_W_openOfLeafAndJoin_68 (by decide) (fun c => ?_) (fun c => ?_)
      · have hf := (if_neg c).symm.trans hf
        exact gw_sub [1, 2, 3, 4] rfl (g_W_openOfLeafAndJoin_101 C hf)
      · have hf := (if_pos c).symm.trans hf
        refine gw_aload_n C 1 d_W_openOfLeafAndJoin_71 rfl rfl ?_
        refine gw_iload C 6 d_W_openOfLeafAndJoin_72 rfl ?_
        obtain ⟨r74, M74, hc74, hf⟩ := ob_some hf
        refine gw_callVr (rest := []) C 11 wcg_11 clg_3 (c_W_hasNumber C.2.2.2.2.2.2.2.2.2.2 hc74) (cwV 1 C.2.2.2.2.1 (gTB_V tw_370 mv_W_hasNumber) rfl rfl rfl pd_W_hasNumber ⟨Nat.le_of_ble_eq_true rfl, Nat.le_of_ble_eq_true rfl⟩) rfl rfl (Nat.le_of_ble_eq_true rfl) d_W_openOfLeafAndJoin_74 ⟨Nat.le_of_ble_eq_true rfl, Nat.le_of_ble_eq_true rfl⟩ ?_
        refine gw_if_ne (tgt := 101) C d_W_openOfLeafAndJoin_77 (by decide) (fun c => ?_) (fun c => ?_)
        · have hf := (if_neg c).symm.trans hf
          exact gw_sub [1, 2, 3, 4] rfl (g_W_openOfLeafAndJoin_101 C hf)
        · have hf := (if_pos c).symm.trans hf
          refine gw_aload_n C 1 d_W_openOfLeafAndJoin_80 rfl rfl ?_
          refine gw_iconst (v := (2 : Int32)) C d_W_openOfLeafAndJoin_81 (by decide) ?_
          refine gw_iload_n C 2 d_W_openOfLeafAndJoin_82 rfl rfl ?_
          refine gw_iload C 5 d_W_openOfLeafAndJoin_83 rfl ?_
          refine gw_iload_n C 3 d_W_openOfLeafAndJoin_85 rfl rfl ?_
          obtain ⟨M86, hc86, hf⟩ := om_some hf
          refine gw_callVv (rest := []) C 11 wcg_11 clg_3 (c_W_await C.2.2.2.2.2.2.2.2.2.2 hc86) (cwV 4 C.2.2.2.2.1 (gTB_V tw_350 mv_W_await) rfl rfl rfl pd_W_await ⟨Nat.le_of_ble_eq_true rfl, Nat.le_of_ble_eq_true rfl⟩) rfl rfl (Nat.le_of_ble_eq_true rfl) d_W_openOfLeafAndJoin_86 ⟨Nat.le_of_ble_eq_true rfl, Nat.le_of_ble_eq_true rfl⟩ ?_
          refine gw_aload_n C 1 d_W_openOfLeafAndJoin_89 rfl rfl ?_
          refine gw_iconst (v := (0 : Int32)) C d_W_openOfLeafAndJoin_90 (by decide) ?_
          refine gw_iload C 6 d_W_openOfLeafAndJoin_91 rfl ?_
          refine gw_iconst (v := (-1 : Int32)) C d_W_openOfLeafAndJoin_93 (by decide) ?_
          refine gw_iconst (v := (-1 : Int32)) C d_W_openOfLeafAndJoin_94 (by decide) ?_
          obtain ⟨M95, hc95, hf⟩ := om_some hf
          refine gw_callVv (rest := []) C 11 wcg_11 clg_3 (c_W_await C.2.2.2.2.2.2.2.2.2.2 hc95) (cwV 4 C.2.2.2.2.1 (gTB_V tw_350 mv_W_await) rfl rfl rfl pd_W_await ⟨Nat.le_of_ble_eq_true rfl, Nat.le_of_ble_eq_true rfl⟩) rfl rfl (Nat.le_of_ble_eq_true rfl) d_W_openOfLeafAndJoin_95 ⟨Nat.le_of_ble_eq_true rfl, Nat.le_of_ble_eq_true rfl⟩ ?_
          refine gw_goto (tgt := 117) C d_W_openOfLeafAndJoin_98 (by decide) ?_
          exact gw_vreti C d_W_openOfLeafAndJoin_117 (wc ad cI cZ cC) hf
  · have hf := (if_neg c).symm.trans hf
    refine gw_aload_n C 1 d_W_openOfLeafAndJoin_47 rfl rfl ?_
    refine gw_iconst (v := (1 : Int32)) C d_W_openOfLeafAndJoin_48 (by decide) ?_
    refine gw_iload_n C 3 d_W_openOfLeafAndJoin_49 rfl rfl ?_
    refine gw_iload_n C 4 d_W_openOfLeafAndJoin_50 rfl rfl ?_
    refine gw_iload_n C 2 d_W_openOfLeafAndJoin_51 rfl rfl ?_
    obtain ⟨M52, hc52, hf⟩ := om_some hf
    refine gw_callVv (rest := []) C 11 wcg_11 clg_3 (c_W_close C.2.2.2.2.2.2.2.2.2.2 hc52) (cwV 4 C.2.2.2.2.1 (gTB_V tw_378 mv_W_close) rfl rfl rfl pd_W_close ⟨Nat.le_of_ble_eq_true rfl, Nat.le_of_ble_eq_true rfl⟩) rfl rfl (Nat.le_of_ble_eq_true rfl) d_W_openOfLeafAndJoin_52 ⟨Nat.le_of_ble_eq_true rfl, Nat.le_of_ble_eq_true rfl⟩ ?_
    refine gw_goto (tgt := 117) C d_W_openOfLeafAndJoin_55 (by decide) ?_
    exact gw_vreti C d_W_openOfLeafAndJoin_117 (wc ad cI cZ cC) hf
def f_W_openOfLeafAndJoin (x1 : Int32) (x2 : Int32) (x3 : Int32) (M : Mem) : Option Mem :=
  ob (f_F_leafPart x3 M) fun r5 M5 => ob (f_F_joinPart x3 M5) fun r15 M15 => if r5 = (-1 : Int32) then f_W_openOfLeafAndJoin_37 x1 x2 x3 r5 r15 (0 : Int32) M15 else if r15 = (-1 : Int32) then f_W_openOfLeafAndJoin_37 x1 x2 x3 r5 r15 (0 : Int32) M15 else f_W_openOfLeafAndJoin_37 x1 x2 x3 r5 r15 (1 : Int32) M15
set_option maxRecDepth 100000 in
theorem g_W_openOfLeafAndJoin {M' : Mem} (C : GC p s m args meth c b_W_openOfLeafAndJoin 7 (none) "NoneWords$Writer" TB D vwCl (tysW cI cZ cC) A Z) {x1 : Int32} {x2 : Int32} {x3 : Int32} {M : Mem} (hf : f_W_openOfLeafAndJoin x1 x2 x3 M = some M') : GW p l e rm_W_openOfLeafAndJoin s m args below meth c (MQ below (QW D vwCl (tysW cI cZ cC) A none (wc ad cI cZ cC M')) args s 0 0 A) D vwCl A 7 0 0 (wc ad cI cZ cC M) 0 [(0, .ref (ad 11)), (1, .int x1), (2, .int x2), (3, .int x3)] [] := by
  unfold f_W_openOfLeafAndJoin at hf
  refine gw_aload_n C 0 d_W_openOfLeafAndJoin_0 rfl rfl ?_
  refine gw_get C in_W 11 wcg_11 clg_3 0 (by decide) tw_134 rfl rfl d_W_openOfLeafAndJoin_1 ?_
  refine gw_iload_n C 3 d_W_openOfLeafAndJoin_4 rfl rfl ?_
  obtain ⟨r5, M5, hc5, hf⟩ := ob_some hf
  refine gw_callVr (rest := []) C 1 wcg_1 clg_0 (c_F_leafPart C.2.2.2.2.2.2.2.2.2.2 hc5) (cwV 1 C.2.2.2.2.1 (gTB_V tw_404 mv_F_leafPart) rfl rfl rfl pd_F_leafPart ⟨Nat.le_of_ble_eq_true rfl, Nat.le_of_ble_eq_true rfl⟩) rfl rfl (Nat.le_of_ble_eq_true rfl) d_W_openOfLeafAndJoin_5 ⟨Nat.le_of_ble_eq_true rfl, Nat.le_of_ble_eq_true rfl⟩ ?_
  refine gw_istore (lv' := [(4, .int r5), (0, .ref (ad 11)), (1, .int x1), (2, .int x2), (3, .int x3)]) C d_W_openOfLeafAndJoin_8 (by decide) rfl ?_
  refine gw_aload_n C 1 d_W_openOfLeafAndJoin_10 rfl rfl ?_
  refine gw_get C in_W 11 wcg_11 clg_3 0 (by decide) tw_134 rfl rfl d_W_openOfLeafAndJoin_11 ?_
  refine gw_iload_n C 4 d_W_openOfLeafAndJoin_14 rfl rfl ?_
  obtain ⟨r15, M15, hc15, hf⟩ := ob_some hf
  refine gw_callVr (rest := []) C 1 wcg_1 clg_0 (c_F_joinPart C.2.2.2.2.2.2.2.2.2.2 hc15) (cwV 1 C.2.2.2.2.1 (gTB_V tw_408 mv_F_joinPart) rfl rfl rfl pd_F_joinPart ⟨Nat.le_of_ble_eq_true rfl, Nat.le_of_ble_eq_true rfl⟩) rfl rfl (Nat.le_of_ble_eq_true rfl) d_W_openOfLeafAndJoin_15 ⟨Nat.le_of_ble_eq_true rfl, Nat.le_of_ble_eq_true rfl⟩ ?_
  refine gw_istore (lv' := [(5, .int r15), (4, .int r5), (0, .ref (ad 11)), (1, .int x1), (2, .int x2), (3, .int x3)]) C d_W_openOfLeafAndJoin_18 (by decide) rfl ?_
  refine gw_iload C 1 d_W_openOfLeafAndJoin_20 rfl ?_
  refine gw_iconst (v := (-1 : Int32)) C d_W_openOfLeafAndJoin_22 (by decide) ?_
  refine gw_icmp_eq (tgt := 36) C d_W_openOfLeafAndJoin_23 (by decide) (fun c => ?_) (fun c => ?_)
  · have hf := (if_pos c).symm.trans hf
    refine gw_iconst (v := (0 : Int32)) C d_W_openOfLeafAndJoin_36 (by decide) ?_
    exact gw_sub [2, 3, 4, 5, 1, 0] rfl (g_W_openOfLeafAndJoin_37 C hf)
  · have hf := (if_neg c).symm.trans hf
    refine gw_iload C 0 d_W_openOfLeafAndJoin_26 rfl ?_
    refine gw_iconst (v := (-1 : Int32)) C d_W_openOfLeafAndJoin_28 (by decide) ?_
    refine gw_icmp_eq (tgt := 36) C d_W_openOfLeafAndJoin_29 (by decide) (fun c => ?_) (fun c => ?_)
    · have hf := (if_pos c).symm.trans hf
      refine gw_iconst (v := (0 : Int32)) C d_W_openOfLeafAndJoin_36 (by decide) ?_
      exact gw_sub [2, 3, 4, 5, 1, 0] rfl (g_W_openOfLeafAndJoin_37 C hf)
    · have hf := (if_neg c).symm.trans hf
      refine gw_iconst (v := (1 : Int32)) C d_W_openOfLeafAndJoin_32 (by decide) ?_
      refine gw_goto (tgt := 37) C d_W_openOfLeafAndJoin_33 (by decide) ?_
      exact gw_sub [2, 3, 4, 5, 1, 0] rfl (g_W_openOfLeafAndJoin_37 C hf)
theorem c_W_openOfLeafAndJoin (hZ : gw_ZOK Z) {x1 : Int32} {x2 : Int32} {x3 : Int32} {M : Mem} {M' : Mem} (hf : f_W_openOfLeafAndJoin x1 x2 x3 M = some M') : CW l y_W_openOfLeafAndJoin ws_W_openOfLeafAndJoin rm_W_openOfLeafAndJoin D vwCl (tysW cI cZ cC) Z [.ref (ad 11), .int x1, .int x2, .int x3] (wc ad cI cZ cC M) none (wc ad cI cZ cC M') 0 0 :=
  CW.ofG hZ (by decide) rfl (Nat.le_of_ble_eq_true rfl) (fun _ _ _ _ _ _ _ _ C _ => g_W_openOfLeafAndJoin C hf)
abbrev b_W_goOn : ByteArray := prog_5_method_16_code
def y_W_goOn : MethodName := ⟨"NoneWords$Writer", "goOn", "(III)V"⟩
abbrev ws_W_goOn : List Cond := Cond.code y_W_goOn b_W_goOn 5 (none) :: TB
set_option maxRecDepth 100000 in
theorem tc_W_goOn : Cond.code y_W_goOn b_W_goOn 5 (none) ∈ TB := inTB 416 rfl rfl
theorem mv_W_goOn : Cond.instanceMethod y_W_goOn ∈ TB ∧ Cond.selects "NoneWords$Writer" y_W_goOn y_W_goOn ∈ TB ∧ Cond.initialized "NoneWords$Writer" ∈ TB ∧ Cond.code y_W_goOn b_W_goOn 5 (none) ∈ TB := ⟨inTB 415 (by decide +kernel) (by decide +kernel), inTB 12 (by decide +kernel) (by decide +kernel), inTB 68 (by decide +kernel) (by decide +kernel), tc_W_goOn⟩
theorem pd_W_goOn : y_W_goOn.cls = "NoneWords$Writer" ∧ y_W_goOn.cls ≠ "java/lang/invoke/MethodHandle" ∧ y_W_goOn.cls ≠ "java/lang/invoke/VarHandle" ∧ (parseMethodDescriptor y_W_goOn.desc).map (fun d => d.parameters.length) = some 3 := by decide +kernel
theorem d_W_goOn_0 : decode b_W_goOn 0 = .ok (.aload_n 0, 1) := by decide +kernel
theorem d_W_goOn_1 : decode b_W_goOn 1 = .ok (.getfield 55, 3) := by decide +kernel
theorem d_W_goOn_4 : decode b_W_goOn 4 = .ok (.iload_n 2, 1) := by decide +kernel
theorem d_W_goOn_5 : decode b_W_goOn 5 = .ok (.invokevirtual 126, 3) := by decide +kernel
theorem d_W_goOn_8 : decode b_W_goOn 8 = .ok (.ifCond .ne 14, 3) := by decide +kernel
theorem d_W_goOn_11 : decode b_W_goOn 11 = .ok (.aload_n 0, 1) := by decide +kernel
theorem d_W_goOn_12 : decode b_W_goOn 12 = .ok (.getfield 55, 3) := by decide +kernel
theorem d_W_goOn_15 : decode b_W_goOn 15 = .ok (.iload_n 3, 1) := by decide +kernel
theorem d_W_goOn_16 : decode b_W_goOn 16 = .ok (.invokevirtual 126, 3) := by decide +kernel
theorem d_W_goOn_19 : decode b_W_goOn 19 = .ok (.ifCond .eq 7, 3) := by decide +kernel
theorem d_W_goOn_22 : decode b_W_goOn 22 = .ok (.iconst 1, 1) := by decide +kernel
theorem d_W_goOn_23 : decode b_W_goOn 23 = .ok (.goto 4, 3) := by decide +kernel
theorem d_W_goOn_26 : decode b_W_goOn 26 = .ok (.iconst 0, 1) := by decide +kernel
theorem d_W_goOn_27 : decode b_W_goOn 27 = .ok (.istore 4, 2) := by decide +kernel
theorem d_W_goOn_29 : decode b_W_goOn 29 = .ok (.iload 4, 2) := by decide +kernel
theorem d_W_goOn_31 : decode b_W_goOn 31 = .ok (.ifCond .ne 16, 3) := by decide +kernel
theorem d_W_goOn_34 : decode b_W_goOn 34 = .ok (.aload_n 0, 1) := by decide +kernel
theorem d_W_goOn_35 : decode b_W_goOn 35 = .ok (.iload_n 2, 1) := by decide +kernel
theorem d_W_goOn_36 : decode b_W_goOn 36 = .ok (.invokevirtual 120, 3) := by decide +kernel
theorem d_W_goOn_39 : decode b_W_goOn 39 = .ok (.ifCond .ne 8, 3) := by decide +kernel
theorem d_W_goOn_42 : decode b_W_goOn 42 = .ok (.aload_n 0, 1) := by decide +kernel
theorem d_W_goOn_43 : decode b_W_goOn 43 = .ok (.iload_n 2, 1) := by decide +kernel
theorem d_W_goOn_44 : decode b_W_goOn 44 = .ok (.invokevirtual 129, 3) := by decide +kernel
theorem d_W_goOn_47 : decode b_W_goOn 47 = .ok (.aload_n 0, 1) := by decide +kernel
theorem d_W_goOn_48 : decode b_W_goOn 48 = .ok (.iload_n 3, 1) := by decide +kernel
theorem d_W_goOn_49 : decode b_W_goOn 49 = .ok (.invokevirtual 120, 3) := by decide +kernel
theorem d_W_goOn_52 : decode b_W_goOn 52 = .ok (.ifCond .eq 14, 3) := by decide +kernel
theorem d_W_goOn_55 : decode b_W_goOn 55 = .ok (.aload_n 0, 1) := by decide +kernel
theorem d_W_goOn_56 : decode b_W_goOn 56 = .ok (.iconst 2, 1) := by decide +kernel
theorem d_W_goOn_57 : decode b_W_goOn 57 = .ok (.iload_n 3, 1) := by decide +kernel
theorem d_W_goOn_58 : decode b_W_goOn 58 = .ok (.iconst (-1), 1) := by decide +kernel
theorem d_W_goOn_59 : decode b_W_goOn 59 = .ok (.iload_n 1, 1) := by decide +kernel
theorem d_W_goOn_60 : decode b_W_goOn 60 = .ok (.invokevirtual 89, 3) := by decide +kernel
theorem d_W_goOn_63 : decode b_W_goOn 63 = .ok (.goto 28, 3) := by decide +kernel
theorem d_W_goOn_66 : decode b_W_goOn 66 = .ok (.aload_n 0, 1) := by decide +kernel
theorem d_W_goOn_67 : decode b_W_goOn 67 = .ok (.iconst 2, 1) := by decide +kernel
theorem d_W_goOn_68 : decode b_W_goOn 68 = .ok (.iload_n 1, 1) := by decide +kernel
theorem d_W_goOn_69 : decode b_W_goOn 69 = .ok (.iload 4, 2) := by decide +kernel
theorem d_W_goOn_71 : decode b_W_goOn 71 = .ok (.ifCond .eq 7, 3) := by decide +kernel
theorem d_W_goOn_74 : decode b_W_goOn 74 = .ok (.iconst (-1), 1) := by decide +kernel
theorem d_W_goOn_75 : decode b_W_goOn 75 = .ok (.goto 4, 3) := by decide +kernel
theorem d_W_goOn_78 : decode b_W_goOn 78 = .ok (.iload_n 2, 1) := by decide +kernel
theorem d_W_goOn_79 : decode b_W_goOn 79 = .ok (.iconst (-1), 1) := by decide +kernel
theorem d_W_goOn_80 : decode b_W_goOn 80 = .ok (.invokevirtual 78, 3) := by decide +kernel
theorem d_W_goOn_83 : decode b_W_goOn 83 = .ok (.aload_n 0, 1) := by decide +kernel
theorem d_W_goOn_84 : decode b_W_goOn 84 = .ok (.iconst 0, 1) := by decide +kernel
theorem d_W_goOn_85 : decode b_W_goOn 85 = .ok (.iload_n 3, 1) := by decide +kernel
theorem d_W_goOn_86 : decode b_W_goOn 86 = .ok (.iconst (-1), 1) := by decide +kernel
theorem d_W_goOn_87 : decode b_W_goOn 87 = .ok (.iconst (-1), 1) := by decide +kernel
theorem d_W_goOn_88 : decode b_W_goOn 88 = .ok (.invokevirtual 78, 3) := by decide +kernel
theorem d_W_goOn_91 : decode b_W_goOn 91 = .ok (.return_, 1) := by decide +kernel
abbrev rm_W_goOn : Room := { frames := 3, cells := 0, slots := 0, locals := 66 }
def f_W_goOn_79 (x3 : Int32) (y0 : Int32) (y1 : Int32) (y2 : Int32) (M : Mem) : Option Mem :=
  om (f_W_await y2 y1 y0 (-1 : Int32) M) fun M80 => om (f_W_await (0 : Int32) x3 (-1 : Int32) (-1 : Int32) M80) fun M88 => some M88
set_option maxRecDepth 100000 in
theorem g_W_goOn_79 {M' : Mem} (C : GC p s m args meth c b_W_goOn 5 (none) "NoneWords$Writer" TB D vwCl (tysW cI cZ cC) A Z) {x3 : Int32} {y0 : Int32} {y1 : Int32} {y2 : Int32} {M : Mem} (hf : f_W_goOn_79 x3 y0 y1 y2 M = some M') : GW p l e rm_W_goOn s m args below meth c (MQ below (QW D vwCl (tysW cI cZ cC) A none (wc ad cI cZ cC M')) args s 0 0 A) D vwCl A 5 0 0 (wc ad cI cZ cC M) 79 [(0, .ref (ad 11)), (3, .int x3)] [.int y0, .int y1, .int y2, .ref (ad 11)] := by
  unfold f_W_goOn_79 at hf
  refine gw_iconst (v := (-1 : Int32)) C d_W_goOn_79 (by decide) ?_
  obtain ⟨M80, hc80, hf⟩ := om_some hf
  refine gw_callVv (rest := []) C 11 wcg_11 clg_3 (c_W_await C.2.2.2.2.2.2.2.2.2.2 hc80) (cwV 4 C.2.2.2.2.1 (gTB_V tw_350 mv_W_await) rfl rfl rfl pd_W_await ⟨Nat.le_of_ble_eq_true rfl, Nat.le_of_ble_eq_true rfl⟩) rfl rfl (Nat.le_of_ble_eq_true rfl) d_W_goOn_80 ⟨Nat.le_of_ble_eq_true rfl, Nat.le_of_ble_eq_true rfl⟩ ?_
  refine gw_aload_n C 0 d_W_goOn_83 rfl rfl ?_
  refine gw_iconst (v := (0 : Int32)) C d_W_goOn_84 (by decide) ?_
  refine gw_iload_n C 1 d_W_goOn_85 rfl rfl ?_
  refine gw_iconst (v := (-1 : Int32)) C d_W_goOn_86 (by decide) ?_
  refine gw_iconst (v := (-1 : Int32)) C d_W_goOn_87 (by decide) ?_
  obtain ⟨M88, hc88, hf⟩ := om_some hf
  refine gw_callVv (rest := []) C 11 wcg_11 clg_3 (c_W_await C.2.2.2.2.2.2.2.2.2.2 hc88) (cwV 4 C.2.2.2.2.1 (gTB_V tw_350 mv_W_await) rfl rfl rfl pd_W_await ⟨Nat.le_of_ble_eq_true rfl, Nat.le_of_ble_eq_true rfl⟩) rfl rfl (Nat.le_of_ble_eq_true rfl) d_W_goOn_88 ⟨Nat.le_of_ble_eq_true rfl, Nat.le_of_ble_eq_true rfl⟩ ?_
  exact gw_vreti C d_W_goOn_91 (wc ad cI cZ cC) hf
def f_W_goOn_47 (x1 : Int32) (x2 : Int32) (x3 : Int32) (x4 : Int32) (M : Mem) : Option Mem :=
  ob (f_W_hasNumber x3 M) fun r49 M49 => if r49 = 0 then if x4 = 0 then f_W_goOn_79 x3 x2 x1 (2 : Int32) M49 else f_W_goOn_79 x3 (-1 : Int32) x1 (2 : Int32) M49 else om (f_W_close (2 : Int32) x3 (-1 : Int32) x1 M49) fun M60 => some M60
set_option maxRecDepth 100000 in
theorem g_W_goOn_47 {M' : Mem} (C : GC p s m args meth c b_W_goOn 5 (none) "NoneWords$Writer" TB D vwCl (tysW cI cZ cC) A Z) {x1 : Int32} {x2 : Int32} {x3 : Int32} {x4 : Int32} {M : Mem} (hf : f_W_goOn_47 x1 x2 x3 x4 M = some M') : GW p l e rm_W_goOn s m args below meth c (MQ below (QW D vwCl (tysW cI cZ cC) A none (wc ad cI cZ cC M')) args s 0 0 A) D vwCl A 5 0 0 (wc ad cI cZ cC M) 47 [(0, .ref (ad 11)), (1, .int x1), (2, .int x2), (3, .int x3), (4, .int x4)] [] := by
  unfold f_W_goOn_47 at hf
  refine gw_aload_n C 0 d_W_goOn_47 rfl rfl ?_
  refine gw_iload_n C 3 d_W_goOn_48 rfl rfl ?_
  obtain ⟨r49, M49, hc49, hf⟩ := ob_some hf
  refine gw_callVr (rest := []) C 11 wcg_11 clg_3 (c_W_hasNumber C.2.2.2.2.2.2.2.2.2.2 hc49) (cwV 1 C.2.2.2.2.1 (gTB_V tw_370 mv_W_hasNumber) rfl rfl rfl pd_W_hasNumber ⟨Nat.le_of_ble_eq_true rfl, Nat.le_of_ble_eq_true rfl⟩) rfl rfl (Nat.le_of_ble_eq_true rfl) d_W_goOn_49 ⟨Nat.le_of_ble_eq_true rfl, Nat.le_of_ble_eq_true rfl⟩ ?_
  refine gw_if_eq (tgt := 66) C d_W_goOn_52 (by decide) (fun c => ?_) (fun c => ?_)
  · have hf := (if_pos c).symm.trans hf
    refine gw_aload_n C 0 d_W_goOn_66 rfl rfl ?_
    refine gw_iconst (v := (2 : Int32)) C d_W_goOn_67 (by decide) ?_
    refine gw_iload_n C 1 d_W_goOn_68 rfl rfl ?_
    refine gw_iload C 4 d_W_goOn_69 rfl ?_
    refine gw_if_eq (tgt := 78) C d_W_goOn_71 (by decide) (fun c => ?_) (fun c => ?_)
    · have hf := (if_pos c).symm.trans hf
      refine gw_iload_n C 2 d_W_goOn_78 rfl rfl ?_
      exact gw_sub [0, 3] rfl (g_W_goOn_79 C hf)
    · have hf := (if_neg c).symm.trans hf
      refine gw_iconst (v := (-1 : Int32)) C d_W_goOn_74 (by decide) ?_
      refine gw_goto (tgt := 79) C d_W_goOn_75 (by decide) ?_
      exact gw_sub [0, 3] rfl (g_W_goOn_79 C hf)
  · have hf := (if_neg c).symm.trans hf
    refine gw_aload_n C 0 d_W_goOn_55 rfl rfl ?_
    refine gw_iconst (v := (2 : Int32)) C d_W_goOn_56 (by decide) ?_
    refine gw_iload_n C 3 d_W_goOn_57 rfl rfl ?_
    refine gw_iconst (v := (-1 : Int32)) C d_W_goOn_58 (by decide) ?_
    refine gw_iload_n C 1 d_W_goOn_59 rfl rfl ?_
    obtain ⟨M60, hc60, hf⟩ := om_some hf
    refine gw_callVv (rest := []) C 11 wcg_11 clg_3 (c_W_close C.2.2.2.2.2.2.2.2.2.2 hc60) (cwV 4 C.2.2.2.2.1 (gTB_V tw_378 mv_W_close) rfl rfl rfl pd_W_close ⟨Nat.le_of_ble_eq_true rfl, Nat.le_of_ble_eq_true rfl⟩) rfl rfl (Nat.le_of_ble_eq_true rfl) d_W_goOn_60 ⟨Nat.le_of_ble_eq_true rfl, Nat.le_of_ble_eq_true rfl⟩ ?_
    refine gw_goto (tgt := 91) C d_W_goOn_63 (by decide) ?_
    exact gw_vreti C d_W_goOn_91 (wc ad cI cZ cC) hf
def f_W_goOn_27 (x1 : Int32) (x2 : Int32) (x3 : Int32) (y0 : Int32) (M : Mem) : Option Mem :=
  if y0 = 0 then ob (f_W_hasNumber x2 M) fun r36 M36 => if r36 = 0 then om (f_W_giveNumber x2 M36) fun M44 => f_W_goOn_47 x1 x2 x3 y0 M44 else f_W_goOn_47 x1 x2 x3 y0 M36 else f_W_goOn_47 x1 x2 x3 y0 M
set_option maxRecDepth 100000 in
theorem g_W_goOn_27 {M' : Mem} (C : GC p s m args meth c b_W_goOn 5 (none) "NoneWords$Writer" TB D vwCl (tysW cI cZ cC) A Z) {x1 : Int32} {x2 : Int32} {x3 : Int32} {y0 : Int32} {M : Mem} (hf : f_W_goOn_27 x1 x2 x3 y0 M = some M') : GW p l e rm_W_goOn s m args below meth c (MQ below (QW D vwCl (tysW cI cZ cC) A none (wc ad cI cZ cC M')) args s 0 0 A) D vwCl A 5 0 0 (wc ad cI cZ cC M) 27 [(0, .ref (ad 11)), (1, .int x1), (2, .int x2), (3, .int x3)] [.int y0] := by
  unfold f_W_goOn_27 at hf
  refine gw_istore (lv' := [(4, .int y0), (0, .ref (ad 11)), (1, .int x1), (2, .int x2), (3, .int x3)]) C d_W_goOn_27 (by decide) rfl ?_
  refine gw_iload C 0 d_W_goOn_29 rfl ?_
  refine gw_if_ne (tgt := 47) C d_W_goOn_31 (by decide) (fun c => ?_) (fun c => ?_)
  · have hf := (if_neg c).symm.trans hf
    exact gw_sub [1, 2, 3, 4, 0] rfl (g_W_goOn_47 C hf)
  · have hf := (if_pos c).symm.trans hf
    refine gw_aload_n C 1 d_W_goOn_34 rfl rfl ?_
    refine gw_iload_n C 3 d_W_goOn_35 rfl rfl ?_
    obtain ⟨r36, M36, hc36, hf⟩ := ob_some hf
    refine gw_callVr (rest := []) C 11 wcg_11 clg_3 (c_W_hasNumber C.2.2.2.2.2.2.2.2.2.2 hc36) (cwV 1 C.2.2.2.2.1 (gTB_V tw_370 mv_W_hasNumber) rfl rfl rfl pd_W_hasNumber ⟨Nat.le_of_ble_eq_true rfl, Nat.le_of_ble_eq_true rfl⟩) rfl rfl (Nat.le_of_ble_eq_true rfl) d_W_goOn_36 ⟨Nat.le_of_ble_eq_true rfl, Nat.le_of_ble_eq_true rfl⟩ ?_
    refine gw_if_ne (tgt := 47) C d_W_goOn_39 (by decide) (fun c => ?_) (fun c => ?_)
    · have hf := (if_neg c).symm.trans hf
      exact gw_sub [1, 2, 3, 4, 0] rfl (g_W_goOn_47 C hf)
    · have hf := (if_pos c).symm.trans hf
      refine gw_aload_n C 1 d_W_goOn_42 rfl rfl ?_
      refine gw_iload_n C 3 d_W_goOn_43 rfl rfl ?_
      obtain ⟨M44, hc44, hf⟩ := om_some hf
      refine gw_callVv (rest := []) C 11 wcg_11 clg_3 (c_W_giveNumber C.2.2.2.2.2.2.2.2.2.2 hc44) (cwV 1 C.2.2.2.2.1 (gTB_V tw_386 mv_W_giveNumber) rfl rfl rfl pd_W_giveNumber ⟨Nat.le_of_ble_eq_true rfl, Nat.le_of_ble_eq_true rfl⟩) rfl rfl (Nat.le_of_ble_eq_true rfl) d_W_goOn_44 ⟨Nat.le_of_ble_eq_true rfl, Nat.le_of_ble_eq_true rfl⟩ ?_
      exact gw_sub [1, 2, 3, 4, 0] rfl (g_W_goOn_47 C hf)
def f_W_goOn (x1 : Int32) (x2 : Int32) (x3 : Int32) (M : Mem) : Option Mem :=
  ob (f_F_isSimple x2 M) fun r5 M5 => if r5 = 0 then ob (f_F_isSimple x3 M5) fun r16 M16 => if r16 = 0 then f_W_goOn_27 x1 x2 x3 (0 : Int32) M16 else f_W_goOn_27 x1 x2 x3 (1 : Int32) M16 else f_W_goOn_27 x1 x2 x3 (1 : Int32) M5
set_option maxRecDepth 100000 in
theorem g_W_goOn {M' : Mem} (C : GC p s m args meth c b_W_goOn 5 (none) "NoneWords$Writer" TB D vwCl (tysW cI cZ cC) A Z) {x1 : Int32} {x2 : Int32} {x3 : Int32} {M : Mem} (hf : f_W_goOn x1 x2 x3 M = some M') : GW p l e rm_W_goOn s m args below meth c (MQ below (QW D vwCl (tysW cI cZ cC) A none (wc ad cI cZ cC M')) args s 0 0 A) D vwCl A 5 0 0 (wc ad cI cZ cC M) 0 [(0, .ref (ad 11)), (1, .int x1), (2, .int x2), (3, .int x3)] [] := by
  unfold f_W_goOn at hf
  refine gw_aload_n C 0 d_W_goOn_0 rfl rfl ?_
  refine gw_get C in_W 11 wcg_11 clg_3 0 (by decide) tw_134 rfl rfl d_W_goOn_1 ?_
  refine gw_iload_n C 2 d_W_goOn_4 rfl rfl ?_
  obtain ⟨r5, M5, hc5, hf⟩ := ob_some hf
  refine gw_callVr (rest := []) C 1 wcg_1 clg_0 (c_F_isSimple C.2.2.2.2.2.2.2.2.2.2 hc5) (cwV 1 C.2.2.2.2.1 (gTB_V tw_390 mv_F_isSimple) rfl rfl rfl pd_F_isSimple ⟨Nat.le_of_ble_eq_true rfl, Nat.le_of_ble_eq_true rfl⟩) rfl rfl (Nat.le_of_ble_eq_true rfl) d_W_goOn_5 ⟨Nat.le_of_ble_eq_true rfl, Nat.le_of_ble_eq_true rfl⟩ ?_
  refine gw_if_ne (tgt := 22) C d_W_goOn_8 (by decide) (fun c => ?_) (fun c => ?_)
  · have hf := (if_neg c).symm.trans hf
    refine gw_iconst (v := (1 : Int32)) C d_W_goOn_22 (by decide) ?_
    refine gw_goto (tgt := 27) C d_W_goOn_23 (by decide) ?_
    exact gw_sub [0, 1, 2, 3] rfl (g_W_goOn_27 C hf)
  · have hf := (if_pos c).symm.trans hf
    refine gw_aload_n C 0 d_W_goOn_11 rfl rfl ?_
    refine gw_get C in_W 11 wcg_11 clg_3 0 (by decide) tw_134 rfl rfl d_W_goOn_12 ?_
    refine gw_iload_n C 3 d_W_goOn_15 rfl rfl ?_
    obtain ⟨r16, M16, hc16, hf⟩ := ob_some hf
    refine gw_callVr (rest := []) C 1 wcg_1 clg_0 (c_F_isSimple C.2.2.2.2.2.2.2.2.2.2 hc16) (cwV 1 C.2.2.2.2.1 (gTB_V tw_390 mv_F_isSimple) rfl rfl rfl pd_F_isSimple ⟨Nat.le_of_ble_eq_true rfl, Nat.le_of_ble_eq_true rfl⟩) rfl rfl (Nat.le_of_ble_eq_true rfl) d_W_goOn_16 ⟨Nat.le_of_ble_eq_true rfl, Nat.le_of_ble_eq_true rfl⟩ ?_
    refine gw_if_eq (tgt := 26) C d_W_goOn_19 (by decide) (fun c => ?_) (fun c => ?_)
    · have hf := (if_pos c).symm.trans hf
      refine gw_iconst (v := (0 : Int32)) C d_W_goOn_26 (by decide) ?_
      exact gw_sub [0, 1, 2, 3] rfl (g_W_goOn_27 C hf)
    · have hf := (if_neg c).symm.trans hf
      refine gw_iconst (v := (1 : Int32)) C d_W_goOn_22 (by decide) ?_
      refine gw_goto (tgt := 27) C d_W_goOn_23 (by decide) ?_
      exact gw_sub [0, 1, 2, 3] rfl (g_W_goOn_27 C hf)
theorem c_W_goOn (hZ : gw_ZOK Z) {x1 : Int32} {x2 : Int32} {x3 : Int32} {M : Mem} {M' : Mem} (hf : f_W_goOn x1 x2 x3 M = some M') : CW l y_W_goOn ws_W_goOn rm_W_goOn D vwCl (tysW cI cZ cC) Z [.ref (ad 11), .int x1, .int x2, .int x3] (wc ad cI cZ cC M) none (wc ad cI cZ cC M') 0 0 :=
  CW.ofG hZ (by decide) rfl (Nat.le_of_ble_eq_true rfl) (fun _ _ _ _ _ _ _ _ C _ => g_W_goOn C hf)
abbrev b_W_open : ByteArray := prog_5_method_13_code
def y_W_open : MethodName := ⟨"NoneWords$Writer", "open", "(I)V"⟩
abbrev ws_W_open : List Cond := Cond.code y_W_open b_W_open 4 (none) :: TB
set_option maxRecDepth 100000 in
theorem tc_W_open : Cond.code y_W_open b_W_open 4 (none) ∈ TB := inTB 357 rfl rfl
theorem mv_W_open : Cond.instanceMethod y_W_open ∈ TB ∧ Cond.selects "NoneWords$Writer" y_W_open y_W_open ∈ TB ∧ Cond.initialized "NoneWords$Writer" ∈ TB ∧ Cond.code y_W_open b_W_open 4 (none) ∈ TB := ⟨inTB 356 (by decide +kernel) (by decide +kernel), inTB 4 (by decide +kernel) (by decide +kernel), inTB 68 (by decide +kernel) (by decide +kernel), tc_W_open⟩
theorem pd_W_open : y_W_open.cls = "NoneWords$Writer" ∧ y_W_open.cls ≠ "java/lang/invoke/MethodHandle" ∧ y_W_open.cls ≠ "java/lang/invoke/VarHandle" ∧ (parseMethodDescriptor y_W_open.desc).map (fun d => d.parameters.length) = some 1 := by decide +kernel
theorem d_W_open_0 : decode b_W_open 0 = .ok (.aload_n 0, 1) := by decide +kernel
theorem d_W_open_1 : decode b_W_open 1 = .ok (.getfield 55, 3) := by decide +kernel
theorem d_W_open_4 : decode b_W_open 4 = .ok (.iload_n 1, 1) := by decide +kernel
theorem d_W_open_5 : decode b_W_open 5 = .ok (.invokevirtual 92, 3) := by decide +kernel
theorem d_W_open_8 : decode b_W_open 8 = .ok (.istore_n 2, 1) := by decide +kernel
theorem d_W_open_9 : decode b_W_open 9 = .ok (.aload_n 0, 1) := by decide +kernel
theorem d_W_open_10 : decode b_W_open 10 = .ok (.getfield 55, 3) := by decide +kernel
theorem d_W_open_13 : decode b_W_open 13 = .ok (.iload_n 1, 1) := by decide +kernel
theorem d_W_open_14 : decode b_W_open 14 = .ok (.invokevirtual 99, 3) := by decide +kernel
theorem d_W_open_17 : decode b_W_open 17 = .ok (.istore_n 3, 1) := by decide +kernel
theorem d_W_open_18 : decode b_W_open 18 = .ok (.aload_n 0, 1) := by decide +kernel
theorem d_W_open_19 : decode b_W_open 19 = .ok (.getfield 55, 3) := by decide +kernel
theorem d_W_open_22 : decode b_W_open 22 = .ok (.iload_n 1, 1) := by decide +kernel
theorem d_W_open_23 : decode b_W_open 23 = .ok (.invokevirtual 102, 3) := by decide +kernel
theorem d_W_open_26 : decode b_W_open 26 = .ok (.ifCond .ne 14, 3) := by decide +kernel
theorem d_W_open_29 : decode b_W_open 29 = .ok (.aload_n 0, 1) := by decide +kernel
theorem d_W_open_30 : decode b_W_open 30 = .ok (.iconst 0, 1) := by decide +kernel
theorem d_W_open_31 : decode b_W_open 31 = .ok (.iconst (-1), 1) := by decide +kernel
theorem d_W_open_32 : decode b_W_open 32 = .ok (.iconst (-1), 1) := by decide +kernel
theorem d_W_open_33 : decode b_W_open 33 = .ok (.iload_n 1, 1) := by decide +kernel
theorem d_W_open_34 : decode b_W_open 34 = .ok (.invokevirtual 105, 3) := by decide +kernel
theorem d_W_open_37 : decode b_W_open 37 = .ok (.goto 85, 3) := by decide +kernel
theorem d_W_open_40 : decode b_W_open 40 = .ok (.aload_n 0, 1) := by decide +kernel
theorem d_W_open_41 : decode b_W_open 41 = .ok (.getfield 55, 3) := by decide +kernel
theorem d_W_open_44 : decode b_W_open 44 = .ok (.iload_n 2, 1) := by decide +kernel
theorem d_W_open_45 : decode b_W_open 45 = .ok (.invokevirtual 102, 3) := by decide +kernel
theorem d_W_open_48 : decode b_W_open 48 = .ok (.ifCond .eq 24, 3) := by decide +kernel
theorem d_W_open_51 : decode b_W_open 51 = .ok (.aload_n 0, 1) := by decide +kernel
theorem d_W_open_52 : decode b_W_open 52 = .ok (.getfield 55, 3) := by decide +kernel
theorem d_W_open_55 : decode b_W_open 55 = .ok (.iload_n 3, 1) := by decide +kernel
theorem d_W_open_56 : decode b_W_open 56 = .ok (.invokevirtual 102, 3) := by decide +kernel
theorem d_W_open_59 : decode b_W_open 59 = .ok (.ifCond .eq 13, 3) := by decide +kernel
theorem d_W_open_62 : decode b_W_open 62 = .ok (.aload_n 0, 1) := by decide +kernel
theorem d_W_open_63 : decode b_W_open 63 = .ok (.iload_n 1, 1) := by decide +kernel
theorem d_W_open_64 : decode b_W_open 64 = .ok (.iload_n 2, 1) := by decide +kernel
theorem d_W_open_65 : decode b_W_open 65 = .ok (.iload_n 3, 1) := by decide +kernel
theorem d_W_open_66 : decode b_W_open 66 = .ok (.invokevirtual 108, 3) := by decide +kernel
theorem d_W_open_69 : decode b_W_open 69 = .ok (.goto 53, 3) := by decide +kernel
theorem d_W_open_72 : decode b_W_open 72 = .ok (.aload_n 0, 1) := by decide +kernel
theorem d_W_open_73 : decode b_W_open 73 = .ok (.getfield 55, 3) := by decide +kernel
theorem d_W_open_76 : decode b_W_open 76 = .ok (.iload_n 2, 1) := by decide +kernel
theorem d_W_open_77 : decode b_W_open 77 = .ok (.invokevirtual 102, 3) := by decide +kernel
theorem d_W_open_80 : decode b_W_open 80 = .ok (.ifCond .eq 13, 3) := by decide +kernel
theorem d_W_open_83 : decode b_W_open 83 = .ok (.aload_n 0, 1) := by decide +kernel
theorem d_W_open_84 : decode b_W_open 84 = .ok (.iload_n 1, 1) := by decide +kernel
theorem d_W_open_85 : decode b_W_open 85 = .ok (.iload_n 3, 1) := by decide +kernel
theorem d_W_open_86 : decode b_W_open 86 = .ok (.iload_n 2, 1) := by decide +kernel
theorem d_W_open_87 : decode b_W_open 87 = .ok (.invokevirtual 111, 3) := by decide +kernel
theorem d_W_open_90 : decode b_W_open 90 = .ok (.goto 32, 3) := by decide +kernel
theorem d_W_open_93 : decode b_W_open 93 = .ok (.aload_n 0, 1) := by decide +kernel
theorem d_W_open_94 : decode b_W_open 94 = .ok (.getfield 55, 3) := by decide +kernel
theorem d_W_open_97 : decode b_W_open 97 = .ok (.iload_n 3, 1) := by decide +kernel
theorem d_W_open_98 : decode b_W_open 98 = .ok (.invokevirtual 102, 3) := by decide +kernel
theorem d_W_open_101 : decode b_W_open 101 = .ok (.ifCond .eq 13, 3) := by decide +kernel
theorem d_W_open_104 : decode b_W_open 104 = .ok (.aload_n 0, 1) := by decide +kernel
theorem d_W_open_105 : decode b_W_open 105 = .ok (.iload_n 1, 1) := by decide +kernel
theorem d_W_open_106 : decode b_W_open 106 = .ok (.iload_n 2, 1) := by decide +kernel
theorem d_W_open_107 : decode b_W_open 107 = .ok (.iload_n 3, 1) := by decide +kernel
theorem d_W_open_108 : decode b_W_open 108 = .ok (.invokevirtual 111, 3) := by decide +kernel
theorem d_W_open_111 : decode b_W_open 111 = .ok (.goto 11, 3) := by decide +kernel
theorem d_W_open_114 : decode b_W_open 114 = .ok (.aload_n 0, 1) := by decide +kernel
theorem d_W_open_115 : decode b_W_open 115 = .ok (.iconst 1, 1) := by decide +kernel
theorem d_W_open_116 : decode b_W_open 116 = .ok (.iload_n 2, 1) := by decide +kernel
theorem d_W_open_117 : decode b_W_open 117 = .ok (.iload_n 3, 1) := by decide +kernel
theorem d_W_open_118 : decode b_W_open 118 = .ok (.iload_n 1, 1) := by decide +kernel
theorem d_W_open_119 : decode b_W_open 119 = .ok (.invokevirtual 89, 3) := by decide +kernel
theorem d_W_open_122 : decode b_W_open 122 = .ok (.return_, 1) := by decide +kernel
abbrev rm_W_open : Room := { frames := 4, cells := 0, slots := 0, locals := 92 }
def f_W_open_72 (x1 : Int32) (x2 : Int32) (x3 : Int32) (M : Mem) : Option Mem :=
  ob (f_F_isJoin x2 M) fun r77 M77 => if r77 = 0 then ob (f_F_isJoin x3 M77) fun r98 M98 => if r98 = 0 then om (f_W_close (1 : Int32) x2 x3 x1 M98) fun M119 => some M119 else om (f_W_openOfLeafAndJoin x1 x2 x3 M98) fun M108 => some M108 else om (f_W_openOfLeafAndJoin x1 x3 x2 M77) fun M87 => some M87
set_option maxRecDepth 100000 in
theorem g_W_open_72 {M' : Mem} (C : GC p s m args meth c b_W_open 4 (none) "NoneWords$Writer" TB D vwCl (tysW cI cZ cC) A Z) {x1 : Int32} {x2 : Int32} {x3 : Int32} {M : Mem} (hf : f_W_open_72 x1 x2 x3 M = some M') : GW p l e rm_W_open s m args below meth c (MQ below (QW D vwCl (tysW cI cZ cC) A none (wc ad cI cZ cC M')) args s 0 0 A) D vwCl A 4 0 0 (wc ad cI cZ cC M) 72 [(0, .ref (ad 11)), (1, .int x1), (2, .int x2), (3, .int x3)] [] := by
  unfold f_W_open_72 at hf
  refine gw_aload_n C 0 d_W_open_72 rfl rfl ?_
  refine gw_get C in_W 11 wcg_11 clg_3 0 (by decide) tw_134 rfl rfl d_W_open_73 ?_
  refine gw_iload_n C 2 d_W_open_76 rfl rfl ?_
  obtain ⟨r77, M77, hc77, hf⟩ := ob_some hf
  refine gw_callVr (rest := []) C 1 wcg_1 clg_0 (c_F_isJoin C.2.2.2.2.2.2.2.2.2.2 hc77) (cwV 1 C.2.2.2.2.1 (gTB_V tw_358 mv_F_isJoin) rfl rfl rfl pd_F_isJoin ⟨Nat.le_of_ble_eq_true rfl, Nat.le_of_ble_eq_true rfl⟩) rfl rfl (Nat.le_of_ble_eq_true rfl) d_W_open_77 ⟨Nat.le_of_ble_eq_true rfl, Nat.le_of_ble_eq_true rfl⟩ ?_
  refine gw_if_eq (tgt := 93) C d_W_open_80 (by decide) (fun c => ?_) (fun c => ?_)
  · have hf := (if_pos c).symm.trans hf
    refine gw_aload_n C 0 d_W_open_93 rfl rfl ?_
    refine gw_get C in_W 11 wcg_11 clg_3 0 (by decide) tw_134 rfl rfl d_W_open_94 ?_
    refine gw_iload_n C 3 d_W_open_97 rfl rfl ?_
    obtain ⟨r98, M98, hc98, hf⟩ := ob_some hf
    refine gw_callVr (rest := []) C 1 wcg_1 clg_0 (c_F_isJoin C.2.2.2.2.2.2.2.2.2.2 hc98) (cwV 1 C.2.2.2.2.1 (gTB_V tw_358 mv_F_isJoin) rfl rfl rfl pd_F_isJoin ⟨Nat.le_of_ble_eq_true rfl, Nat.le_of_ble_eq_true rfl⟩) rfl rfl (Nat.le_of_ble_eq_true rfl) d_W_open_98 ⟨Nat.le_of_ble_eq_true rfl, Nat.le_of_ble_eq_true rfl⟩ ?_
    refine gw_if_eq (tgt := 114) C d_W_open_101 (by decide) (fun c => ?_) (fun c => ?_)
    · have hf := (if_pos c).symm.trans hf
      refine gw_aload_n C 0 d_W_open_114 rfl rfl ?_
      refine gw_iconst (v := (1 : Int32)) C d_W_open_115 (by decide) ?_
      refine gw_iload_n C 2 d_W_open_116 rfl rfl ?_
      refine gw_iload_n C 3 d_W_open_117 rfl rfl ?_
      refine gw_iload_n C 1 d_W_open_118 rfl rfl ?_
      obtain ⟨M119, hc119, hf⟩ := om_some hf
      refine gw_callVv (rest := []) C 11 wcg_11 clg_3 (c_W_close C.2.2.2.2.2.2.2.2.2.2 hc119) (cwV 4 C.2.2.2.2.1 (gTB_V tw_378 mv_W_close) rfl rfl rfl pd_W_close ⟨Nat.le_of_ble_eq_true rfl, Nat.le_of_ble_eq_true rfl⟩) rfl rfl (Nat.le_of_ble_eq_true rfl) d_W_open_119 ⟨Nat.le_of_ble_eq_true rfl, Nat.le_of_ble_eq_true rfl⟩ ?_
      exact gw_vreti C d_W_open_122 (wc ad cI cZ cC) hf
    · have hf := (if_neg c).symm.trans hf
      refine gw_aload_n C 0 d_W_open_104 rfl rfl ?_
      refine gw_iload_n C 1 d_W_open_105 rfl rfl ?_
      refine gw_iload_n C 2 d_W_open_106 rfl rfl ?_
      refine gw_iload_n C 3 d_W_open_107 rfl rfl ?_
      obtain ⟨M108, hc108, hf⟩ := om_some hf
      refine gw_callVv (rest := []) C 11 wcg_11 clg_3 (c_W_openOfLeafAndJoin C.2.2.2.2.2.2.2.2.2.2 hc108) (cwV 3 C.2.2.2.2.1 (gTB_V tw_400 mv_W_openOfLeafAndJoin) rfl rfl rfl pd_W_openOfLeafAndJoin ⟨Nat.le_of_ble_eq_true rfl, Nat.le_of_ble_eq_true rfl⟩) rfl rfl (Nat.le_of_ble_eq_true rfl) d_W_open_108 ⟨Nat.le_of_ble_eq_true rfl, Nat.le_of_ble_eq_true rfl⟩ ?_
      refine gw_goto (tgt := 122) C d_W_open_111 (by decide) ?_
      exact gw_vreti C d_W_open_122 (wc ad cI cZ cC) hf
  · have hf := (if_neg c).symm.trans hf
    refine gw_aload_n C 0 d_W_open_83 rfl rfl ?_
    refine gw_iload_n C 1 d_W_open_84 rfl rfl ?_
    refine gw_iload_n C 3 d_W_open_85 rfl rfl ?_
    refine gw_iload_n C 2 d_W_open_86 rfl rfl ?_
    obtain ⟨M87, hc87, hf⟩ := om_some hf
    refine gw_callVv (rest := []) C 11 wcg_11 clg_3 (c_W_openOfLeafAndJoin C.2.2.2.2.2.2.2.2.2.2 hc87) (cwV 3 C.2.2.2.2.1 (gTB_V tw_400 mv_W_openOfLeafAndJoin) rfl rfl rfl pd_W_openOfLeafAndJoin ⟨Nat.le_of_ble_eq_true rfl, Nat.le_of_ble_eq_true rfl⟩) rfl rfl (Nat.le_of_ble_eq_true rfl) d_W_open_87 ⟨Nat.le_of_ble_eq_true rfl, Nat.le_of_ble_eq_true rfl⟩ ?_
    refine gw_goto (tgt := 122) C d_W_open_90 (by decide) ?_
    exact gw_vreti C d_W_open_122 (wc ad cI cZ cC) hf
def f_W_open (x1 : Int32) (M : Mem) : Option Mem :=
  ob (f_F_leftPart x1 M) fun r5 M5 => ob (f_F_rightPart x1 M5) fun r14 M14 => ob (f_F_isJoin x1 M14) fun r23 M23 => if r23 = 0 then om (f_W_say (0 : Int32) (-1 : Int32) (-1 : Int32) x1 M23) fun M34 => some M34 else ob (f_F_isJoin r5 M23) fun r45 M45 => if r45 = 0 then f_W_open_72 x1 r5 r14 M45 else ob (f_F_isJoin r14 M45) fun r56 M56 => if r56 = 0 then f_W_open_72 x1 r5 r14 M56 else om (f_W_openOfJoins x1 r5 r14 M56) fun M66 => some M66
set_option maxRecDepth 100000 in
theorem g_W_open {M' : Mem} (C : GC p s m args meth c b_W_open 4 (none) "NoneWords$Writer" TB D vwCl (tysW cI cZ cC) A Z) {x1 : Int32} {M : Mem} (hf : f_W_open x1 M = some M') : GW p l e rm_W_open s m args below meth c (MQ below (QW D vwCl (tysW cI cZ cC) A none (wc ad cI cZ cC M')) args s 0 0 A) D vwCl A 4 0 0 (wc ad cI cZ cC M) 0 [(0, .ref (ad 11)), (1, .int x1)] [] := by
  unfold f_W_open at hf
  refine gw_aload_n C 0 d_W_open_0 rfl rfl ?_
  refine gw_get C in_W 11 wcg_11 clg_3 0 (by decide) tw_134 rfl rfl d_W_open_1 ?_
  refine gw_iload_n C 1 d_W_open_4 rfl rfl ?_
  obtain ⟨r5, M5, hc5, hf⟩ := ob_some hf
  refine gw_callVr (rest := []) C 1 wcg_1 clg_0 (c_F_leftPart C.2.2.2.2.2.2.2.2.2.2 hc5) (cwV 1 C.2.2.2.2.1 (gTB_V tw_337 mv_F_leftPart) rfl rfl rfl pd_F_leftPart ⟨Nat.le_of_ble_eq_true rfl, Nat.le_of_ble_eq_true rfl⟩) rfl rfl (Nat.le_of_ble_eq_true rfl) d_W_open_5 ⟨Nat.le_of_ble_eq_true rfl, Nat.le_of_ble_eq_true rfl⟩ ?_
  refine gw_istore_n (lv' := [(2, .int r5), (0, .ref (ad 11)), (1, .int x1)]) C d_W_open_8 rfl (by decide) rfl ?_
  refine gw_aload_n C 1 d_W_open_9 rfl rfl ?_
  refine gw_get C in_W 11 wcg_11 clg_3 0 (by decide) tw_134 rfl rfl d_W_open_10 ?_
  refine gw_iload_n C 2 d_W_open_13 rfl rfl ?_
  obtain ⟨r14, M14, hc14, hf⟩ := ob_some hf
  refine gw_callVr (rest := []) C 1 wcg_1 clg_0 (c_F_rightPart C.2.2.2.2.2.2.2.2.2.2 hc14) (cwV 1 C.2.2.2.2.1 (gTB_V tw_346 mv_F_rightPart) rfl rfl rfl pd_F_rightPart ⟨Nat.le_of_ble_eq_true rfl, Nat.le_of_ble_eq_true rfl⟩) rfl rfl (Nat.le_of_ble_eq_true rfl) d_W_open_14 ⟨Nat.le_of_ble_eq_true rfl, Nat.le_of_ble_eq_true rfl⟩ ?_
  refine gw_istore_n (lv' := [(3, .int r14), (2, .int r5), (0, .ref (ad 11)), (1, .int x1)]) C d_W_open_17 rfl (by decide) rfl ?_
  refine gw_aload_n C 2 d_W_open_18 rfl rfl ?_
  refine gw_get C in_W 11 wcg_11 clg_3 0 (by decide) tw_134 rfl rfl d_W_open_19 ?_
  refine gw_iload_n C 3 d_W_open_22 rfl rfl ?_
  obtain ⟨r23, M23, hc23, hf⟩ := ob_some hf
  refine gw_callVr (rest := []) C 1 wcg_1 clg_0 (c_F_isJoin C.2.2.2.2.2.2.2.2.2.2 hc23) (cwV 1 C.2.2.2.2.1 (gTB_V tw_358 mv_F_isJoin) rfl rfl rfl pd_F_isJoin ⟨Nat.le_of_ble_eq_true rfl, Nat.le_of_ble_eq_true rfl⟩) rfl rfl (Nat.le_of_ble_eq_true rfl) d_W_open_23 ⟨Nat.le_of_ble_eq_true rfl, Nat.le_of_ble_eq_true rfl⟩ ?_
  refine gw_if_ne (tgt := 40) C d_W_open_26 (by decide) (fun c => ?_) (fun c => ?_)
  · have hf := (if_neg c).symm.trans hf
    refine gw_aload_n C 2 d_W_open_40 rfl rfl ?_
    refine gw_get C in_W 11 wcg_11 clg_3 0 (by decide) tw_134 rfl rfl d_W_open_41 ?_
    refine gw_iload_n C 1 d_W_open_44 rfl rfl ?_
    obtain ⟨r45, M45, hc45, hf⟩ := ob_some hf
    refine gw_callVr (rest := []) C 1 wcg_1 clg_0 (c_F_isJoin C.2.2.2.2.2.2.2.2.2.2 hc45) (cwV 1 C.2.2.2.2.1 (gTB_V tw_358 mv_F_isJoin) rfl rfl rfl pd_F_isJoin ⟨Nat.le_of_ble_eq_true rfl, Nat.le_of_ble_eq_true rfl⟩) rfl rfl (Nat.le_of_ble_eq_true rfl) d_W_open_45 ⟨Nat.le_of_ble_eq_true rfl, Nat.le_of_ble_eq_true rfl⟩ ?_
    refine gw_if_eq (tgt := 72) C d_W_open_48 (by decide) (fun c => ?_) (fun c => ?_)
    · have hf := (if_pos c).symm.trans hf
      exact gw_sub [2, 3, 1, 0] rfl (g_W_open_72 C hf)
    · have hf := (if_neg c).symm.trans hf
      refine gw_aload_n C 2 d_W_open_51 rfl rfl ?_
      refine gw_get C in_W 11 wcg_11 clg_3 0 (by decide) tw_134 rfl rfl d_W_open_52 ?_
      refine gw_iload_n C 0 d_W_open_55 rfl rfl ?_
      obtain ⟨r56, M56, hc56, hf⟩ := ob_some hf
      refine gw_callVr (rest := []) C 1 wcg_1 clg_0 (c_F_isJoin C.2.2.2.2.2.2.2.2.2.2 hc56) (cwV 1 C.2.2.2.2.1 (gTB_V tw_358 mv_F_isJoin) rfl rfl rfl pd_F_isJoin ⟨Nat.le_of_ble_eq_true rfl, Nat.le_of_ble_eq_true rfl⟩) rfl rfl (Nat.le_of_ble_eq_true rfl) d_W_open_56 ⟨Nat.le_of_ble_eq_true rfl, Nat.le_of_ble_eq_true rfl⟩ ?_
      refine gw_if_eq (tgt := 72) C d_W_open_59 (by decide) (fun c => ?_) (fun c => ?_)
      · have hf := (if_pos c).symm.trans hf
        exact gw_sub [2, 3, 1, 0] rfl (g_W_open_72 C hf)
      · have hf := (if_neg c).symm.trans hf
        refine gw_aload_n C 2 d_W_open_62 rfl rfl ?_
        refine gw_iload_n C 3 d_W_open_63 rfl rfl ?_
        refine gw_iload_n C 1 d_W_open_64 rfl rfl ?_
        refine gw_iload_n C 0 d_W_open_65 rfl rfl ?_
        obtain ⟨M66, hc66, hf⟩ := om_some hf
        refine gw_callVv (rest := []) C 11 wcg_11 clg_3 (c_W_openOfJoins C.2.2.2.2.2.2.2.2.2.2 hc66) (cwV 3 C.2.2.2.2.1 (gTB_V tw_366 mv_W_openOfJoins) rfl rfl rfl pd_W_openOfJoins ⟨Nat.le_of_ble_eq_true rfl, Nat.le_of_ble_eq_true rfl⟩) rfl rfl (Nat.le_of_ble_eq_true rfl) d_W_open_66 ⟨Nat.le_of_ble_eq_true rfl, Nat.le_of_ble_eq_true rfl⟩ ?_
        refine gw_goto (tgt := 122) C d_W_open_69 (by decide) ?_
        exact gw_vreti C d_W_open_122 (wc ad cI cZ cC) hf
  · have hf := (if_pos c).symm.trans hf
    refine gw_aload_n C 2 d_W_open_29 rfl rfl ?_
    refine gw_iconst (v := (0 : Int32)) C d_W_open_30 (by decide) ?_
    refine gw_iconst (v := (-1 : Int32)) C d_W_open_31 (by decide) ?_
    refine gw_iconst (v := (-1 : Int32)) C d_W_open_32 (by decide) ?_
    refine gw_iload_n C 3 d_W_open_33 rfl rfl ?_
    obtain ⟨M34, hc34, hf⟩ := om_some hf
    refine gw_callVv (rest := []) C 11 wcg_11 clg_3 (c_W_say C.2.2.2.2.2.2.2.2.2.2 hc34) (cwV 4 C.2.2.2.2.1 (gTB_V tw_362 mv_W_say) rfl rfl rfl pd_W_say ⟨Nat.le_of_ble_eq_true rfl, Nat.le_of_ble_eq_true rfl⟩) rfl rfl (Nat.le_of_ble_eq_true rfl) d_W_open_34 ⟨Nat.le_of_ble_eq_true rfl, Nat.le_of_ble_eq_true rfl⟩ ?_
    refine gw_goto (tgt := 122) C d_W_open_37 (by decide) ?_
    exact gw_vreti C d_W_open_122 (wc ad cI cZ cC) hf
theorem c_W_open (hZ : gw_ZOK Z) {x1 : Int32} {M : Mem} {M' : Mem} (hf : f_W_open x1 M = some M') : CW l y_W_open ws_W_open rm_W_open D vwCl (tysW cI cZ cC) Z [.ref (ad 11), .int x1] (wc ad cI cZ cC M) none (wc ad cI cZ cC M') 0 0 :=
  CW.ofG hZ (by decide) rfl (Nat.le_of_ble_eq_true rfl) (fun _ _ _ _ _ _ _ _ C _ => g_W_open C hf)
abbrev b_W_writeAll : ByteArray := prog_5_method_9_code
def y_W_writeAll : MethodName := ⟨"NoneWords$Writer", "writeAll", "(I)I"⟩
abbrev ws_W_writeAll : List Cond := Cond.code y_W_writeAll b_W_writeAll 6 (some (FieldType.int)) :: TB
set_option maxRecDepth 100000 in
theorem tc_W_writeAll : Cond.code y_W_writeAll b_W_writeAll 6 (some (FieldType.int)) ∈ TB := inTB 331 rfl rfl
theorem mv_W_writeAll : Cond.instanceMethod y_W_writeAll ∈ TB ∧ Cond.selects "NoneWords$Writer" y_W_writeAll y_W_writeAll ∈ TB ∧ Cond.initialized "NoneWords$Writer" ∈ TB ∧ Cond.code y_W_writeAll b_W_writeAll 6 (some (FieldType.int)) ∈ TB := ⟨inTB 329 (by decide +kernel) (by decide +kernel), inTB 330 (by decide +kernel) (by decide +kernel), inTB 68 (by decide +kernel) (by decide +kernel), tc_W_writeAll⟩
theorem pd_W_writeAll : y_W_writeAll.cls = "NoneWords$Writer" ∧ y_W_writeAll.cls ≠ "java/lang/invoke/MethodHandle" ∧ y_W_writeAll.cls ≠ "java/lang/invoke/VarHandle" ∧ (parseMethodDescriptor y_W_writeAll.desc).map (fun d => d.parameters.length) = some 1 := by decide +kernel
theorem d_W_writeAll_0 : decode b_W_writeAll 0 = .ok (.aload_n 0, 1) := by decide +kernel
theorem d_W_writeAll_1 : decode b_W_writeAll 1 = .ok (.iconst 0, 1) := by decide +kernel
theorem d_W_writeAll_2 : decode b_W_writeAll 2 = .ok (.putfield 37, 3) := by decide +kernel
theorem d_W_writeAll_5 : decode b_W_writeAll 5 = .ok (.aload_n 0, 1) := by decide +kernel
theorem d_W_writeAll_6 : decode b_W_writeAll 6 = .ok (.iconst 0, 1) := by decide +kernel
theorem d_W_writeAll_7 : decode b_W_writeAll 7 = .ok (.putfield 18, 3) := by decide +kernel
theorem d_W_writeAll_10 : decode b_W_writeAll 10 = .ok (.aload_n 0, 1) := by decide +kernel
theorem d_W_writeAll_11 : decode b_W_writeAll 11 = .ok (.iconst 0, 1) := by decide +kernel
theorem d_W_writeAll_12 : decode b_W_writeAll 12 = .ok (.putfield 52, 3) := by decide +kernel
theorem d_W_writeAll_15 : decode b_W_writeAll 15 = .ok (.aload_n 0, 1) := by decide +kernel
theorem d_W_writeAll_16 : decode b_W_writeAll 16 = .ok (.getfield 15, 3) := by decide +kernel
theorem d_W_writeAll_19 : decode b_W_writeAll 19 = .ok (.iconst 0, 1) := by decide +kernel
theorem d_W_writeAll_20 : decode b_W_writeAll 20 = .ok (.invokestatic 68, 3) := by decide +kernel
theorem d_W_writeAll_23 : decode b_W_writeAll 23 = .ok (.aload_n 0, 1) := by decide +kernel
theorem d_W_writeAll_24 : decode b_W_writeAll 24 = .ok (.iload_n 1, 1) := by decide +kernel
theorem d_W_writeAll_25 : decode b_W_writeAll 25 = .ok (.invokevirtual 74, 3) := by decide +kernel
theorem d_W_writeAll_28 : decode b_W_writeAll 28 = .ok (.aload_n 0, 1) := by decide +kernel
theorem d_W_writeAll_29 : decode b_W_writeAll 29 = .ok (.iconst 0, 1) := by decide +kernel
theorem d_W_writeAll_30 : decode b_W_writeAll 30 = .ok (.iload_n 1, 1) := by decide +kernel
theorem d_W_writeAll_31 : decode b_W_writeAll 31 = .ok (.iconst (-1), 1) := by decide +kernel
theorem d_W_writeAll_32 : decode b_W_writeAll 32 = .ok (.iconst (-1), 1) := by decide +kernel
theorem d_W_writeAll_33 : decode b_W_writeAll 33 = .ok (.invokevirtual 78, 3) := by decide +kernel
theorem d_W_writeAll_36 : decode b_W_writeAll 36 = .ok (.iconst 0, 1) := by decide +kernel
theorem d_W_writeAll_37 : decode b_W_writeAll 37 = .ok (.istore_n 2, 1) := by decide +kernel
theorem d_W_writeAll_38 : decode b_W_writeAll 38 = .ok (.iload_n 2, 1) := by decide +kernel
theorem d_W_writeAll_39 : decode b_W_writeAll 39 = .ok (.sipush 360, 3) := by decide +kernel
theorem d_W_writeAll_42 : decode b_W_writeAll 42 = .ok (.if_icmp .ge 132, 3) := by decide +kernel
theorem d_W_writeAll_45 : decode b_W_writeAll 45 = .ok (.aload_n 0, 1) := by decide +kernel
theorem d_W_writeAll_46 : decode b_W_writeAll 46 = .ok (.getfield 52, 3) := by decide +kernel
theorem d_W_writeAll_49 : decode b_W_writeAll 49 = .ok (.ifCond .le 125, 3) := by decide +kernel
theorem d_W_writeAll_52 : decode b_W_writeAll 52 = .ok (.aload_n 0, 1) := by decide +kernel
theorem d_W_writeAll_53 : decode b_W_writeAll 53 = .ok (.dup, 1) := by decide +kernel
theorem d_W_writeAll_54 : decode b_W_writeAll 54 = .ok (.getfield 52, 3) := by decide +kernel
theorem d_W_writeAll_57 : decode b_W_writeAll 57 = .ok (.iconst 1, 1) := by decide +kernel
theorem d_W_writeAll_58 : decode b_W_writeAll 58 = .ok (.isub, 1) := by decide +kernel
theorem d_W_writeAll_59 : decode b_W_writeAll 59 = .ok (.putfield 52, 3) := by decide +kernel
theorem d_W_writeAll_62 : decode b_W_writeAll 62 = .ok (.aload_n 0, 1) := by decide +kernel
theorem d_W_writeAll_63 : decode b_W_writeAll 63 = .ok (.getfield 43, 3) := by decide +kernel
theorem d_W_writeAll_66 : decode b_W_writeAll 66 = .ok (.aload_n 0, 1) := by decide +kernel
theorem d_W_writeAll_67 : decode b_W_writeAll 67 = .ok (.getfield 52, 3) := by decide +kernel
theorem d_W_writeAll_70 : decode b_W_writeAll 70 = .ok (.iaload, 1) := by decide +kernel
theorem d_W_writeAll_71 : decode b_W_writeAll 71 = .ok (.istore_n 3, 1) := by decide +kernel
theorem d_W_writeAll_72 : decode b_W_writeAll 72 = .ok (.aload_n 0, 1) := by decide +kernel
theorem d_W_writeAll_73 : decode b_W_writeAll 73 = .ok (.getfield 46, 3) := by decide +kernel
theorem d_W_writeAll_76 : decode b_W_writeAll 76 = .ok (.aload_n 0, 1) := by decide +kernel
theorem d_W_writeAll_77 : decode b_W_writeAll 77 = .ok (.getfield 52, 3) := by decide +kernel
theorem d_W_writeAll_80 : decode b_W_writeAll 80 = .ok (.iaload, 1) := by decide +kernel
theorem d_W_writeAll_81 : decode b_W_writeAll 81 = .ok (.istore 4, 2) := by decide +kernel
theorem d_W_writeAll_83 : decode b_W_writeAll 83 = .ok (.aload_n 0, 1) := by decide +kernel
theorem d_W_writeAll_84 : decode b_W_writeAll 84 = .ok (.getfield 49, 3) := by decide +kernel
theorem d_W_writeAll_87 : decode b_W_writeAll 87 = .ok (.aload_n 0, 1) := by decide +kernel
theorem d_W_writeAll_88 : decode b_W_writeAll 88 = .ok (.getfield 52, 3) := by decide +kernel
theorem d_W_writeAll_91 : decode b_W_writeAll 91 = .ok (.iaload, 1) := by decide +kernel
theorem d_W_writeAll_92 : decode b_W_writeAll 92 = .ok (.istore 5, 2) := by decide +kernel
theorem d_W_writeAll_94 : decode b_W_writeAll 94 = .ok (.aload_n 0, 1) := by decide +kernel
theorem d_W_writeAll_95 : decode b_W_writeAll 95 = .ok (.getfield 40, 3) := by decide +kernel
theorem d_W_writeAll_98 : decode b_W_writeAll 98 = .ok (.aload_n 0, 1) := by decide +kernel
theorem d_W_writeAll_99 : decode b_W_writeAll 99 = .ok (.getfield 52, 3) := by decide +kernel
theorem d_W_writeAll_102 : decode b_W_writeAll 102 = .ok (.iaload, 1) := by decide +kernel
theorem d_W_writeAll_103 : decode b_W_writeAll 103 = .ok (.lookupswitch 45 #[(0, 25), (1, 33)], 25) := by decide +kernel
theorem d_W_writeAll_128 : decode b_W_writeAll 128 = .ok (.aload_n 0, 1) := by decide +kernel
theorem d_W_writeAll_129 : decode b_W_writeAll 129 = .ok (.iload_n 3, 1) := by decide +kernel
theorem d_W_writeAll_130 : decode b_W_writeAll 130 = .ok (.invokevirtual 82, 3) := by decide +kernel
theorem d_W_writeAll_133 : decode b_W_writeAll 133 = .ok (.goto 35, 3) := by decide +kernel
theorem d_W_writeAll_136 : decode b_W_writeAll 136 = .ok (.aload_n 0, 1) := by decide +kernel
theorem d_W_writeAll_137 : decode b_W_writeAll 137 = .ok (.iload_n 3, 1) := by decide +kernel
theorem d_W_writeAll_138 : decode b_W_writeAll 138 = .ok (.iload 4, 2) := by decide +kernel
theorem d_W_writeAll_140 : decode b_W_writeAll 140 = .ok (.iload 5, 2) := by decide +kernel
theorem d_W_writeAll_142 : decode b_W_writeAll 142 = .ok (.invokevirtual 85, 3) := by decide +kernel
theorem d_W_writeAll_145 : decode b_W_writeAll 145 = .ok (.goto 23, 3) := by decide +kernel
theorem d_W_writeAll_148 : decode b_W_writeAll 148 = .ok (.aload_n 0, 1) := by decide +kernel
theorem d_W_writeAll_149 : decode b_W_writeAll 149 = .ok (.iload 4, 2) := by decide +kernel
theorem d_W_writeAll_151 : decode b_W_writeAll 151 = .ok (.iconst (-1), 1) := by decide +kernel
theorem d_W_writeAll_152 : decode b_W_writeAll 152 = .ok (.if_icmp .ne 7, 3) := by decide +kernel
theorem d_W_writeAll_155 : decode b_W_writeAll 155 = .ok (.iconst 3, 1) := by decide +kernel
theorem d_W_writeAll_156 : decode b_W_writeAll 156 = .ok (.goto 4, 3) := by decide +kernel
theorem d_W_writeAll_159 : decode b_W_writeAll 159 = .ok (.iconst 2, 1) := by decide +kernel
theorem d_W_writeAll_160 : decode b_W_writeAll 160 = .ok (.iload 4, 2) := by decide +kernel
theorem d_W_writeAll_162 : decode b_W_writeAll 162 = .ok (.iload 5, 2) := by decide +kernel
theorem d_W_writeAll_164 : decode b_W_writeAll 164 = .ok (.iload_n 3, 1) := by decide +kernel
theorem d_W_writeAll_165 : decode b_W_writeAll 165 = .ok (.invokevirtual 89, 3) := by decide +kernel
theorem d_W_writeAll_168 : decode b_W_writeAll 168 = .ok (.iinc 2 1, 3) := by decide +kernel
theorem d_W_writeAll_171 : decode b_W_writeAll 171 = .ok (.goto (-133), 3) := by decide +kernel
theorem d_W_writeAll_174 : decode b_W_writeAll 174 = .ok (.aload_n 0, 1) := by decide +kernel
theorem d_W_writeAll_175 : decode b_W_writeAll 175 = .ok (.getfield 37, 3) := by decide +kernel
theorem d_W_writeAll_178 : decode b_W_writeAll 178 = .ok (.ireturn, 1) := by decide +kernel
abbrev rm_W_writeAll : Room := { frames := 5, cells := 0, slots := 0, locals := 115 }
def f_W_writeAll_160 (k38 : Int32 → Mem → Option (Int32 × Mem)) (x2 : Int32) (x3 : Int32) (x4 : Int32) (x5 : Int32) (y0 : Int32) (M : Mem) : Option (Int32 × Mem) :=
  om (f_W_close y0 x4 x5 x3 M) fun M165 => k38 (x2 + (1 : Int32)) M165
set_option maxRecDepth 100000 in
theorem g_W_writeAll_160 {r : Int32} {M' : Mem} (C : GC p s m args meth c b_W_writeAll 6 (some (FieldType.int)) "NoneWords$Writer" TB D vwCl (tysW cI cZ cC) A Z) {k38 : Int32 → Mem → Option (Int32 × Mem)} (hk38 : ∀ (x2 : Int32) (M : Mem), k38 x2 M = some (r, M') → GW p l e rm_W_writeAll s m args below meth c (MQ below (QW D vwCl (tysW cI cZ cC) A (some (.int r)) (wc ad cI cZ cC M')) args s 0 0 A) D vwCl A 6 0 0 (wc ad cI cZ cC M) 38 [(0, .ref (ad 11)), (2, .int x2)] []) {x2 : Int32} {x3 : Int32} {x4 : Int32} {x5 : Int32} {y0 : Int32} {M : Mem} (hf : f_W_writeAll_160 k38 x2 x3 x4 x5 y0 M = some (r, M')) : GW p l e rm_W_writeAll s m args below meth c (MQ below (QW D vwCl (tysW cI cZ cC) A (some (.int r)) (wc ad cI cZ cC M')) args s 0 0 A) D vwCl A 6 0 0 (wc ad cI cZ cC M) 160 [(0, .ref (ad 11)), (2, .int x2), (3, .int x3), (4, .int x4), (5, .int x5)] [.int y0, .ref (ad 11)] := by
  unfold f_W_writeAll_160 at hf
  refine gw_iload C 3 d_W_writeAll_160 rfl ?_
  refine gw_iload C 4 d_W_writeAll_162 rfl ?_
  refine gw_iload_n C 2 d_W_writeAll_164 rfl rfl ?_
  obtain ⟨M165, hc165, hf⟩ := om_some hf
  refine gw_callVv (rest := []) C 11 wcg_11 clg_3 (c_W_close C.2.2.2.2.2.2.2.2.2.2 hc165) (cwV 4 C.2.2.2.2.1 (gTB_V tw_378 mv_W_close) rfl rfl rfl pd_W_close ⟨Nat.le_of_ble_eq_true rfl, Nat.le_of_ble_eq_true rfl⟩) rfl rfl (Nat.le_of_ble_eq_true rfl) d_W_writeAll_165 ⟨Nat.le_of_ble_eq_true rfl, Nat.le_of_ble_eq_true rfl⟩ ?_
  refine gw_iinc (v := x2 + (1 : Int32)) (lv' := [(2, .int (x2 + (1 : Int32))), (0, .ref (ad 11)), (3, .int x3), (4, .int x4), (5, .int x5)]) C 1 d_W_writeAll_168 rfl rfl (by decide) rfl ?_
  refine gw_goto (tgt := 38) C d_W_writeAll_171 (by decide) ?_
  exact gw_sub [1, 0] rfl (hk38 _ _ hf)
def f_W_writeAll_38 : Nat → Int32 → Mem → Option (Int32 × Mem)
  | 0, _, _ => none
  | n + 1, x2, M => if (360 : Int32) ≤ x2 then some (M 11 9, M) else if (M 11 14) ≤ 0 then some (M 11 9, M) else gd (inb ((ms M 11 14 ((M 11 14) - (1 : Int32))) 11 14) 121) (gd (inb ((ms M 11 14 ((M 11 14) - (1 : Int32))) 11 14) 121) (gd (inb ((ms M 11 14 ((M 11 14) - (1 : Int32))) 11 14) 121) (gd (inb ((ms M 11 14 ((M 11 14) - (1 : Int32))) 11 14) 121) (if ((ms M 11 14 ((M 11 14) - (1 : Int32))) 19 ((ms M 11 14 ((M 11 14) - (1 : Int32))) 11 14).toNatClampNeg) = (0 : Int32) then om (f_W_open ((ms M 11 14 ((M 11 14) - (1 : Int32))) 20 ((ms M 11 14 ((M 11 14) - (1 : Int32))) 11 14).toNatClampNeg) (ms M 11 14 ((M 11 14) - (1 : Int32)))) fun M130 => (f_W_writeAll_38 n) (x2 + (1 : Int32)) M130 else if ((ms M 11 14 ((M 11 14) - (1 : Int32))) 19 ((ms M 11 14 ((M 11 14) - (1 : Int32))) 11 14).toNatClampNeg) = (1 : Int32) then om (f_W_goOn ((ms M 11 14 ((M 11 14) - (1 : Int32))) 20 ((ms M 11 14 ((M 11 14) - (1 : Int32))) 11 14).toNatClampNeg) ((ms M 11 14 ((M 11 14) - (1 : Int32))) 21 ((ms M 11 14 ((M 11 14) - (1 : Int32))) 11 14).toNatClampNeg) ((ms M 11 14 ((M 11 14) - (1 : Int32))) 22 ((ms M 11 14 ((M 11 14) - (1 : Int32))) 11 14).toNatClampNeg) (ms M 11 14 ((M 11 14) - (1 : Int32)))) fun M142 => (f_W_writeAll_38 n) (x2 + (1 : Int32)) M142 else if ((ms M 11 14 ((M 11 14) - (1 : Int32))) 21 ((ms M 11 14 ((M 11 14) - (1 : Int32))) 11 14).toNatClampNeg) = (-1 : Int32) then f_W_writeAll_160 (f_W_writeAll_38 n) x2 ((ms M 11 14 ((M 11 14) - (1 : Int32))) 20 ((ms M 11 14 ((M 11 14) - (1 : Int32))) 11 14).toNatClampNeg) ((ms M 11 14 ((M 11 14) - (1 : Int32))) 21 ((ms M 11 14 ((M 11 14) - (1 : Int32))) 11 14).toNatClampNeg) ((ms M 11 14 ((M 11 14) - (1 : Int32))) 22 ((ms M 11 14 ((M 11 14) - (1 : Int32))) 11 14).toNatClampNeg) (3 : Int32) (ms M 11 14 ((M 11 14) - (1 : Int32))) else f_W_writeAll_160 (f_W_writeAll_38 n) x2 ((ms M 11 14 ((M 11 14) - (1 : Int32))) 20 ((ms M 11 14 ((M 11 14) - (1 : Int32))) 11 14).toNatClampNeg) ((ms M 11 14 ((M 11 14) - (1 : Int32))) 21 ((ms M 11 14 ((M 11 14) - (1 : Int32))) 11 14).toNatClampNeg) ((ms M 11 14 ((M 11 14) - (1 : Int32))) 22 ((ms M 11 14 ((M 11 14) - (1 : Int32))) 11 14).toNatClampNeg) (2 : Int32) (ms M 11 14 ((M 11 14) - (1 : Int32)))))))
set_option maxRecDepth 100000 in
theorem g_W_writeAll_38 {r : Int32} {M' : Mem} (C : GC p s m args meth c b_W_writeAll 6 (some (FieldType.int)) "NoneWords$Writer" TB D vwCl (tysW cI cZ cC) A Z) : ∀ (n : Nat) (x2 : Int32) (M : Mem), f_W_writeAll_38 n x2 M = some (r, M') → GW p l e rm_W_writeAll s m args below meth c (MQ below (QW D vwCl (tysW cI cZ cC) A (some (.int r)) (wc ad cI cZ cC M')) args s 0 0 A) D vwCl A 6 0 0 (wc ad cI cZ cC M) 38 [(0, .ref (ad 11)), (2, .int x2)] [] := by
  intro n
  induction n with
  | zero => intro _ _ hf; cases hf
  | succ n ih =>
    intro x2 M hf
    rw [f_W_writeAll_38] at hf
    refine gw_iload_n C 1 d_W_writeAll_38 rfl rfl ?_
    refine gw_sipush (v := (360 : Int32)) C d_W_writeAll_39 (by decide) ?_
    refine gw_icmp_ge (tgt := 174) C d_W_writeAll_42 (by decide) (fun c => ?_) (fun c => ?_)
    · have hf := (if_pos c).symm.trans hf
      refine gw_aload_n C 0 d_W_writeAll_174 rfl rfl ?_
      refine gw_get C in_W 11 wcg_11 clg_3 9 (by decide) tw_143 rfl rfl d_W_writeAll_175 ?_
      exact gw_ireti C d_W_writeAll_178 (wc ad cI cZ cC) hf
    · have hf := (if_neg c).symm.trans hf
      refine gw_aload_n C 0 d_W_writeAll_45 rfl rfl ?_
      refine gw_get C in_W 11 wcg_11 clg_3 14 (by decide) tw_148 rfl rfl d_W_writeAll_46 ?_
      refine gw_if_le (tgt := 174) C d_W_writeAll_49 (by decide) (fun c => ?_) (fun c => ?_)
      · have hf := (if_pos c).symm.trans hf
        refine gw_aload_n C 0 d_W_writeAll_174 rfl rfl ?_
        refine gw_get C in_W 11 wcg_11 clg_3 9 (by decide) tw_143 rfl rfl d_W_writeAll_175 ?_
        exact gw_ireti C d_W_writeAll_178 (wc ad cI cZ cC) hf
      · have hf := (if_neg c).symm.trans hf
        refine gw_aload_n C 0 d_W_writeAll_52 rfl rfl ?_
        refine gw_dup C d_W_writeAll_53 rfl ?_
        refine gw_get C in_W 11 wcg_11 clg_3 14 (by decide) tw_148 rfl rfl d_W_writeAll_54 ?_
        refine gw_iconst (v := (1 : Int32)) C d_W_writeAll_57 (by decide) ?_
        refine gw_isub C d_W_writeAll_58 ?_
        refine gw_put C in_W ty_W tk_W nm_W 11 wcg_11 clg_3 14 (by decide) tw_148 rfl rfl rfl rfl (Nat.le_of_ble_eq_true rfl) d_W_writeAll_59 wcf_11_14 ?_
        refine gw_aload_n C 0 d_W_writeAll_62 rfl rfl ?_
        refine gw_get C in_W 11 wcg_11 clg_3 11 (by decide) tw_145 rfl rfl d_W_writeAll_63 ?_
        refine gw_aload_n C 0 d_W_writeAll_66 rfl rfl ?_
        refine gw_get C in_W 11 wcg_11 clg_3 14 (by decide) tw_148 rfl rfl d_W_writeAll_67 ?_
        obtain ⟨hb70, hf⟩ := gd_some hf
        refine gw_iald C 20 0 wcg_20 rfl hb70 d_W_writeAll_70 ?_
        refine gw_istore_n (lv' := [(3, .int ((ms M 11 14 ((M 11 14) - (1 : Int32))) 20 ((ms M 11 14 ((M 11 14) - (1 : Int32))) 11 14).toNatClampNeg)), (0, .ref (ad 11)), (2, .int x2)]) C d_W_writeAll_71 rfl (by decide) rfl ?_
        refine gw_aload_n C 1 d_W_writeAll_72 rfl rfl ?_
        refine gw_get C in_W 11 wcg_11 clg_3 12 (by decide) tw_146 rfl rfl d_W_writeAll_73 ?_
        refine gw_aload_n C 1 d_W_writeAll_76 rfl rfl ?_
        refine gw_get C in_W 11 wcg_11 clg_3 14 (by decide) tw_148 rfl rfl d_W_writeAll_77 ?_
        obtain ⟨hb80, hf⟩ := gd_some hf
        refine gw_iald C 21 0 wcg_21 rfl hb80 d_W_writeAll_80 ?_
        refine gw_istore (lv' := [(4, .int ((ms M 11 14 ((M 11 14) - (1 : Int32))) 21 ((ms M 11 14 ((M 11 14) - (1 : Int32))) 11 14).toNatClampNeg)), (3, .int ((ms M 11 14 ((M 11 14) - (1 : Int32))) 20 ((ms M 11 14 ((M 11 14) - (1 : Int32))) 11 14).toNatClampNeg)), (0, .ref (ad 11)), (2, .int x2)]) C d_W_writeAll_81 (by decide) rfl ?_
        refine gw_aload_n C 2 d_W_writeAll_83 rfl rfl ?_
        refine gw_get C in_W 11 wcg_11 clg_3 13 (by decide) tw_147 rfl rfl d_W_writeAll_84 ?_
        refine gw_aload_n C 2 d_W_writeAll_87 rfl rfl ?_
        refine gw_get C in_W 11 wcg_11 clg_3 14 (by decide) tw_148 rfl rfl d_W_writeAll_88 ?_
        obtain ⟨hb91, hf⟩ := gd_some hf
        refine gw_iald C 22 0 wcg_22 rfl hb91 d_W_writeAll_91 ?_
        refine gw_istore (lv' := [(5, .int ((ms M 11 14 ((M 11 14) - (1 : Int32))) 22 ((ms M 11 14 ((M 11 14) - (1 : Int32))) 11 14).toNatClampNeg)), (4, .int ((ms M 11 14 ((M 11 14) - (1 : Int32))) 21 ((ms M 11 14 ((M 11 14) - (1 : Int32))) 11 14).toNatClampNeg)), (3, .int ((ms M 11 14 ((M 11 14) - (1 : Int32))) 20 ((ms M 11 14 ((M 11 14) - (1 : Int32))) 11 14).toNatClampNeg)), (0, .ref (ad 11)), (2, .int x2)]) C d_W_writeAll_92 (by decide) rfl ?_
        refine gw_aload_n C 3 d_W_writeAll_94 rfl rfl ?_
        refine gw_get C in_W 11 wcg_11 clg_3 10 (by decide) tw_144 rfl rfl d_W_writeAll_95 ?_
        refine gw_aload_n C 3 d_W_writeAll_98 rfl rfl ?_
        refine gw_get C in_W 11 wcg_11 clg_3 14 (by decide) tw_148 rfl rfl d_W_writeAll_99 ?_
        obtain ⟨hb102, hf⟩ := gd_some hf
        refine gw_iald C 19 0 wcg_19 rfl hb102 d_W_writeAll_102 ?_
        by_cases c0 : ((ms M 11 14 ((M 11 14) - (1 : Int32))) 19 ((ms M 11 14 ((M 11 14) - (1 : Int32))) 11 14).toNatClampNeg) = (0 : Int32)
        · have hf := (if_pos c0).symm.trans hf
          refine gw_lookup (tgt := 128) (off := 25) C d_W_writeAll_103 (by decide) (by rw [c0]; rfl) (by decide) ?_
          refine gw_aload_n C 3 d_W_writeAll_128 rfl rfl ?_
          refine gw_iload_n C 2 d_W_writeAll_129 rfl rfl ?_
          obtain ⟨M130, hc130, hf⟩ := om_some hf
          refine gw_callVv (rest := []) C 11 wcg_11 clg_3 (c_W_open C.2.2.2.2.2.2.2.2.2.2 hc130) (cwV 1 C.2.2.2.2.1 (gTB_V tw_354 mv_W_open) rfl rfl rfl pd_W_open ⟨Nat.le_of_ble_eq_true rfl, Nat.le_of_ble_eq_true rfl⟩) rfl rfl (Nat.le_of_ble_eq_true rfl) d_W_writeAll_130 ⟨Nat.le_of_ble_eq_true rfl, Nat.le_of_ble_eq_true rfl⟩ ?_
          refine gw_goto (tgt := 168) C d_W_writeAll_133 (by decide) ?_
          refine gw_iinc (v := x2 + (1 : Int32)) (lv' := [(2, .int (x2 + (1 : Int32))), (5, .int ((ms M 11 14 ((M 11 14) - (1 : Int32))) 22 ((ms M 11 14 ((M 11 14) - (1 : Int32))) 11 14).toNatClampNeg)), (4, .int ((ms M 11 14 ((M 11 14) - (1 : Int32))) 21 ((ms M 11 14 ((M 11 14) - (1 : Int32))) 11 14).toNatClampNeg)), (3, .int ((ms M 11 14 ((M 11 14) - (1 : Int32))) 20 ((ms M 11 14 ((M 11 14) - (1 : Int32))) 11 14).toNatClampNeg)), (0, .ref (ad 11))]) C 4 d_W_writeAll_168 rfl rfl (by decide) rfl ?_
          refine gw_goto (tgt := 38) C d_W_writeAll_171 (by decide) ?_
          exact gw_sub [4, 0] rfl (ih _ _ hf)
        · have hf := (if_neg c0).symm.trans hf
          by_cases c1 : ((ms M 11 14 ((M 11 14) - (1 : Int32))) 19 ((ms M 11 14 ((M 11 14) - (1 : Int32))) 11 14).toNatClampNeg) = (1 : Int32)
          · have hf := (if_pos c1).symm.trans hf
            refine gw_lookup (tgt := 136) (off := 33) C d_W_writeAll_103 (by decide) (by rw [c1]; rfl) (by decide) ?_
            refine gw_aload_n C 3 d_W_writeAll_136 rfl rfl ?_
            refine gw_iload_n C 2 d_W_writeAll_137 rfl rfl ?_
            refine gw_iload C 1 d_W_writeAll_138 rfl ?_
            refine gw_iload C 0 d_W_writeAll_140 rfl ?_
            obtain ⟨M142, hc142, hf⟩ := om_some hf
            refine gw_callVv (rest := []) C 11 wcg_11 clg_3 (c_W_goOn C.2.2.2.2.2.2.2.2.2.2 hc142) (cwV 3 C.2.2.2.2.1 (gTB_V tw_413 mv_W_goOn) rfl rfl rfl pd_W_goOn ⟨Nat.le_of_ble_eq_true rfl, Nat.le_of_ble_eq_true rfl⟩) rfl rfl (Nat.le_of_ble_eq_true rfl) d_W_writeAll_142 ⟨Nat.le_of_ble_eq_true rfl, Nat.le_of_ble_eq_true rfl⟩ ?_
            refine gw_goto (tgt := 168) C d_W_writeAll_145 (by decide) ?_
            refine gw_iinc (v := x2 + (1 : Int32)) (lv' := [(2, .int (x2 + (1 : Int32))), (5, .int ((ms M 11 14 ((M 11 14) - (1 : Int32))) 22 ((ms M 11 14 ((M 11 14) - (1 : Int32))) 11 14).toNatClampNeg)), (4, .int ((ms M 11 14 ((M 11 14) - (1 : Int32))) 21 ((ms M 11 14 ((M 11 14) - (1 : Int32))) 11 14).toNatClampNeg)), (3, .int ((ms M 11 14 ((M 11 14) - (1 : Int32))) 20 ((ms M 11 14 ((M 11 14) - (1 : Int32))) 11 14).toNatClampNeg)), (0, .ref (ad 11))]) C 4 d_W_writeAll_168 rfl rfl (by decide) rfl ?_
            refine gw_goto (tgt := 38) C d_W_writeAll_171 (by decide) ?_
            exact gw_sub [4, 0] rfl (ih _ _ hf)
          · have hf := (if_neg c1).symm.trans hf
            refine gw_lookup (tgt := 148) (off := 45) C d_W_writeAll_103 (by decide) (by show Op.lookupswitch.offset ([(0, 25), (1, 33)] : List (Int × Int)) _ _ = _; rw [lv_osw c0 (by decide), lv_osw c1 (by decide)]; rfl) (by decide) ?_
            refine gw_aload_n C 3 d_W_writeAll_148 rfl rfl ?_
            refine gw_iload C 1 d_W_writeAll_149 rfl ?_
            refine gw_iconst (v := (-1 : Int32)) C d_W_writeAll_151 (by decide) ?_
            refine gw_icmp_ne (tgt := 159) C d_W_writeAll_152 (by decide) (fun c => ?_) (fun c => ?_)
            · have hf := (if_neg c).symm.trans hf
              refine gw_iconst (v := (2 : Int32)) C d_W_writeAll_159 (by decide) ?_
              exact gw_sub [3, 4, 2, 1, 0] rfl (g_W_writeAll_160 C ih hf)
            · have hf := (if_pos c).symm.trans hf
              refine gw_iconst (v := (3 : Int32)) C d_W_writeAll_155 (by decide) ?_
              refine gw_goto (tgt := 160) C d_W_writeAll_156 (by decide) ?_
              exact gw_sub [3, 4, 2, 1, 0] rfl (g_W_writeAll_160 C ih hf)
def f_W_writeAll (x1 : Int32) (M : Mem) : Option (Int32 × Mem) :=
  om (f_W_countUses x1 (mf (ms (ms (ms M 11 9 (0 : Int32)) 11 3 (0 : Int32)) 11 14 (0 : Int32)) 13 120 (0 : Int32))) fun M25 => om (f_W_await (0 : Int32) x1 (-1 : Int32) (-1 : Int32) M25) fun M33 => f_W_writeAll_38 100000 (0 : Int32) M33
set_option maxRecDepth 100000 in
theorem g_W_writeAll {r : Int32} {M' : Mem} (C : GC p s m args meth c b_W_writeAll 6 (some (FieldType.int)) "NoneWords$Writer" TB D vwCl (tysW cI cZ cC) A Z) {x1 : Int32} {M : Mem} (hf : f_W_writeAll x1 M = some (r, M')) : GW p l e rm_W_writeAll s m args below meth c (MQ below (QW D vwCl (tysW cI cZ cC) A (some (.int r)) (wc ad cI cZ cC M')) args s 0 0 A) D vwCl A 6 0 0 (wc ad cI cZ cC M) 0 [(0, .ref (ad 11)), (1, .int x1)] [] := by
  unfold f_W_writeAll at hf
  refine gw_aload_n C 0 d_W_writeAll_0 rfl rfl ?_
  refine gw_iconst (v := (0 : Int32)) C d_W_writeAll_1 (by decide) ?_
  refine gw_put C in_W ty_W tk_W nm_W 11 wcg_11 clg_3 9 (by decide) tw_143 rfl rfl rfl rfl (Nat.le_of_ble_eq_true rfl) d_W_writeAll_2 wcf_11_9 ?_
  refine gw_aload_n C 0 d_W_writeAll_5 rfl rfl ?_
  refine gw_iconst (v := (0 : Int32)) C d_W_writeAll_6 (by decide) ?_
  refine gw_put C in_W ty_W tk_W nm_W 11 wcg_11 clg_3 3 (by decide) tw_137 rfl rfl rfl rfl (Nat.le_of_ble_eq_true rfl) d_W_writeAll_7 wcf_11_3 ?_
  refine gw_aload_n C 0 d_W_writeAll_10 rfl rfl ?_
  refine gw_iconst (v := (0 : Int32)) C d_W_writeAll_11 (by decide) ?_
  refine gw_put C in_W ty_W tk_W nm_W 11 wcg_11 clg_3 14 (by decide) tw_148 rfl rfl rfl rfl (Nat.le_of_ble_eq_true rfl) d_W_writeAll_12 wcf_11_14 ?_
  refine gw_aload_n C 0 d_W_writeAll_15 rfl rfl ?_
  refine gw_get C in_W 11 wcg_11 clg_3 2 (by decide) tw_136 rfl rfl d_W_writeAll_16 ?_
  refine gw_iconst (v := (0 : Int32)) C d_W_writeAll_19 (by decide) ?_
  refine gw_callSv (rest := []) C (c_A_fill C.2.2.2.2.2.2.2.2.2.2 13 0 wcg_13 rfl (by decide) wcz_13) (va_cwS 2 C.2.2.2.2.1 (gTB_vS rfl tw_332 mv_A_fill) rfl rfl rfl pd_A_fill.2 ⟨Nat.le_of_ble_eq_true rfl, Nat.le_of_ble_eq_true rfl⟩) rfl rfl (Nat.le_of_ble_eq_true rfl) d_W_writeAll_20 ⟨Nat.le_of_ble_eq_true rfl, Nat.le_of_ble_eq_true rfl⟩ ?_
  refine gw_aload_n C 0 d_W_writeAll_23 rfl rfl ?_
  refine gw_iload_n C 1 d_W_writeAll_24 rfl rfl ?_
  obtain ⟨M25, hc25, hf⟩ := om_some hf
  refine gw_callVv (rest := []) C 11 wcg_11 clg_3 (c_W_countUses C.2.2.2.2.2.2.2.2.2.2 hc25) (cwV 1 C.2.2.2.2.1 (gTB_V tw_333 mv_W_countUses) rfl rfl rfl pd_W_countUses ⟨Nat.le_of_ble_eq_true rfl, Nat.le_of_ble_eq_true rfl⟩) rfl rfl (Nat.le_of_ble_eq_true rfl) d_W_writeAll_25 ⟨Nat.le_of_ble_eq_true rfl, Nat.le_of_ble_eq_true rfl⟩ ?_
  refine gw_aload_n C 0 d_W_writeAll_28 rfl rfl ?_
  refine gw_iconst (v := (0 : Int32)) C d_W_writeAll_29 (by decide) ?_
  refine gw_iload_n C 1 d_W_writeAll_30 rfl rfl ?_
  refine gw_iconst (v := (-1 : Int32)) C d_W_writeAll_31 (by decide) ?_
  refine gw_iconst (v := (-1 : Int32)) C d_W_writeAll_32 (by decide) ?_
  obtain ⟨M33, hc33, hf⟩ := om_some hf
  refine gw_callVv (rest := []) C 11 wcg_11 clg_3 (c_W_await C.2.2.2.2.2.2.2.2.2.2 hc33) (cwV 4 C.2.2.2.2.1 (gTB_V tw_350 mv_W_await) rfl rfl rfl pd_W_await ⟨Nat.le_of_ble_eq_true rfl, Nat.le_of_ble_eq_true rfl⟩) rfl rfl (Nat.le_of_ble_eq_true rfl) d_W_writeAll_33 ⟨Nat.le_of_ble_eq_true rfl, Nat.le_of_ble_eq_true rfl⟩ ?_
  refine gw_iconst (v := (0 : Int32)) C d_W_writeAll_36 (by decide) ?_
  refine gw_istore_n (lv' := [(2, .int (0 : Int32)), (0, .ref (ad 11)), (1, .int x1)]) C d_W_writeAll_37 rfl (by decide) rfl ?_
  exact gw_sub [1, 0] rfl (g_W_writeAll_38 C _ _ _ hf)
theorem c_W_writeAll (hZ : gw_ZOK Z) {x1 : Int32} {M : Mem} {r : Int32} {M' : Mem} (hf : f_W_writeAll x1 M = some (r, M')) : CW l y_W_writeAll ws_W_writeAll rm_W_writeAll D vwCl (tysW cI cZ cC) Z [.ref (ad 11), .int x1] (wc ad cI cZ cC M) (some (.int r)) (wc ad cI cZ cC M') 0 0 :=
  CW.ofG hZ (by decide) rfl (Nat.le_of_ble_eq_true rfl) (fun _ _ _ _ _ _ _ _ C _ => g_W_writeAll C hf)
end WRITER
