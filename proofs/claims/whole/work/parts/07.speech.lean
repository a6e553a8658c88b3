theorem tw_190 : Cond.fieldLink "NoneWords$Speech" 19 "NoneWords$Speech" "shown" "I" ∈ TB := inTB 190 (by decide +kernel) (by decide +kernel)
theorem tw_189 : Cond.fieldLink "NoneWords$Speech" 15 "NoneWords$Speech" "length" "I" ∈ TB := inTB 189 (by decide +kernel) (by decide +kernel)
theorem tw_188 : Cond.fieldLink "NoneWords$Speech" 11 "NoneWords$Speech" "signs" "[C" ∈ TB := inTB 188 (by decide +kernel) (by decide +kernel)
theorem tw_453 : Cond.methodLink "NoneWords$Speech" 167 ⟨"java/lang/String", "length", "()I"⟩ ∈ TB := inTB 453 (by decide +kernel) (by decide +kernel)
theorem tw_463 : Cond.methodLink "NoneWords$Speech" 171 ⟨"java/lang/String", "charAt", "(I)C"⟩ ∈ TB := inTB 463 (by decide +kernel) (by decide +kernel)
theorem tw_501 : Cond.methodLink "NoneWords$Speech" 68 ⟨"NoneWords$Speech", "put", "(C)V"⟩ ∈ TB := inTB 501 (by decide +kernel) (by decide +kernel)
theorem tw_533 : Cond.methodLink "NoneWords$Speech" 84 ⟨"NoneWords$Speech", "digit", "(I)C"⟩ ∈ TB := inTB 533 (by decide +kernel) (by decide +kernel)
theorem tw_187 : Cond.fieldLink "NoneWords$Speech" 26 "NoneWords$Speech" "writer" "LNoneWords$Writer;" ∈ TB := inTB 187 (by decide +kernel) (by decide +kernel)
theorem tw_575 : Cond.methodLink "NoneWords$Speech" 79 ⟨"NoneWords$Writer", "numberOfNode", "(I)I"⟩ ∈ TB := inTB 575 (by decide +kernel) (by decide +kernel)
theorem tw_449 : Cond.methodLink "NoneWords$Speech" 50 ⟨"NoneWords$Speech", "put", "(Ljava/lang/String;)V"⟩ ∈ TB := inTB 449 (by decide +kernel) (by decide +kernel)
theorem tw_186 : Cond.fieldLink "NoneWords$Speech" 22 "NoneWords$Speech" "facts" "LNoneWords$Facts;" ∈ TB := inTB 186 (by decide +kernel) (by decide +kernel)
theorem tw_532 : Cond.methodLink "NoneWords$Speech" 164 ⟨"NoneWords$Facts", "allVersions", "(I)I"⟩ ∈ TB := inTB 532 (by decide +kernel) (by decide +kernel)
theorem tw_547 : Cond.methodLink "NoneWords$Speech" 99 ⟨"NoneWords$Facts", "toldName", "(I)I"⟩ ∈ TB := inTB 547 (by decide +kernel) (by decide +kernel)
theorem tw_551 : Cond.methodLink "NoneWords$Speech" 102 ⟨"NoneWords$Facts", "toldSet", "(I)I"⟩ ∈ TB := inTB 551 (by decide +kernel) (by decide +kernel)
theorem tw_527 : Cond.methodLink "NoneWords$Speech" 105 ⟨"NoneWords$Speech", "tellSet", "(II)V"⟩ ∈ TB := inTB 527 (by decide +kernel) (by decide +kernel)
theorem tw_555 : Cond.methodLink "NoneWords$Speech" 109 ⟨"NoneWords$Facts", "kindOf", "(I)I"⟩ ∈ TB := inTB 555 (by decide +kernel) (by decide +kernel)
theorem tw_561 : Cond.methodLink "NoneWords$Speech" 116 ⟨"NoneWords$Facts", "toldOther", "(I)I"⟩ ∈ TB := inTB 561 (by decide +kernel) (by decide +kernel)
theorem tw_565 : Cond.methodLink "NoneWords$Speech" 119 ⟨"NoneWords$Facts", "toldOtherSet", "(I)I"⟩ ∈ TB := inTB 565 (by decide +kernel) (by decide +kernel)
theorem tw_526 : Cond.methodLink "NoneWords$Speech" 158 ⟨"NoneWords$Facts", "setOfTerm", "(II)I"⟩ ∈ TB := inTB 526 (by decide +kernel) (by decide +kernel)
theorem tw_521 : Cond.methodLink "NoneWords$Speech" 150 ⟨"NoneWords$Facts", "countNames", "()I"⟩ ∈ TB := inTB 521 (by decide +kernel) (by decide +kernel)
theorem tw_525 : Cond.methodLink "NoneWords$Speech" 154 ⟨"NoneWords$Facts", "hasTermOf", "(IIZ)Z"⟩ ∈ TB := inTB 525 (by decide +kernel) (by decide +kernel)
theorem tw_517 : Cond.methodLink "NoneWords$Speech" 132 ⟨"NoneWords$Speech", "tellTerms", "(IZLjava/lang/String;)V"⟩ ∈ TB := inTB 517 (by decide +kernel) (by decide +kernel)
theorem tw_514 : Cond.methodLink "NoneWords$Speech" 126 ⟨"NoneWords$Facts", "countTerms", "(IZ)I"⟩ ∈ TB := inTB 514 (by decide +kernel) (by decide +kernel)
theorem tw_509 : Cond.methodLink "NoneWords$Speech" 88 ⟨"NoneWords$Facts", "isJoin", "(I)Z"⟩ ∈ TB := inTB 509 (by decide +kernel) (by decide +kernel)
theorem tw_543 : Cond.methodLink "NoneWords$Speech" 96 ⟨"NoneWords$Speech", "tellLeaf", "(I)V"⟩ ∈ TB := inTB 543 (by decide +kernel) (by decide +kernel)
theorem tw_510 : Cond.methodLink "NoneWords$Speech" 93 ⟨"NoneWords$Speech", "tellJoin", "(I)V"⟩ ∈ TB := inTB 510 (by decide +kernel) (by decide +kernel)
theorem tw_578 : Cond.methodLink "NoneWords$Speech" 65 ⟨"NoneWords$Writer", "conclusion", "(I)I"⟩ ∈ TB := inTB 578 (by decide +kernel) (by decide +kernel)
theorem tw_505 : Cond.methodLink "NoneWords$Speech" 54 ⟨"NoneWords$Speech", "tellNode", "(I)V"⟩ ∈ TB := inTB 505 (by decide +kernel) (by decide +kernel)
theorem tw_571 : Cond.methodLink "NoneWords$Speech" 58 ⟨"NoneWords$Speech", "tellNumber", "(I)V"⟩ ∈ TB := inTB 571 (by decide +kernel) (by decide +kernel)
theorem tw_425 : Cond.methodLink "NoneWords$Speech" 30 ⟨"NoneWords$Writer", "hasSentence", "(I)Z"⟩ ∈ TB := inTB 425 (by decide +kernel) (by decide +kernel)
theorem tw_429 : Cond.methodLink "NoneWords$Speech" 36 ⟨"NoneWords$Writer", "firstCause", "(I)I"⟩ ∈ TB := inTB 429 (by decide +kernel) (by decide +kernel)
theorem tw_434 : Cond.methodLink "NoneWords$Speech" 40 ⟨"NoneWords$Writer", "secondCause", "(I)I"⟩ ∈ TB := inTB 434 (by decide +kernel) (by decide +kernel)
theorem tw_438 : Cond.methodLink "NoneWords$Speech" 43 ⟨"NoneWords$Writer", "opening", "(I)I"⟩ ∈ TB := inTB 438 (by decide +kernel) (by decide +kernel)
theorem tw_442 : Cond.methodLink "NoneWords$Speech" 46 ⟨"NoneWords$Speech", "openingWords", "(I)Ljava/lang/String;"⟩ ∈ TB := inTB 442 (by decide +kernel) (by decide +kernel)
section SPEECH
variable {p : Program} {l : Launch} {e : Env} {s : State} {m : MethodId} {args : Array Value} {below : List Frame} {meth : Method} {c : Code} {D : va_G} {A : Nat → Prop} {ad : Nat → Nat} {cI cZ cC : ClassId} {sk sv : Nat → Nat}
abbrev b_P_forget : ByteArray := prog_4_method_2_code
def y_P_forget : MethodName := ⟨"NoneWords$Speech", "forget", "()V"⟩
abbrev ws_P_forget : List Cond := Cond.code y_P_forget b_P_forget 1 (none) :: TB
set_option maxRecDepth 100000 in
theorem tc_P_forget : Cond.code y_P_forget b_P_forget 1 (none) ∈ TB := inTB 327 rfl rfl
theorem mv_P_forget : Cond.instanceMethod y_P_forget ∈ TB ∧ Cond.selects "NoneWords$Speech" y_P_forget y_P_forget ∈ TB ∧ Cond.initialized "NoneWords$Speech" ∈ TB ∧ Cond.code y_P_forget b_P_forget 1 (none) ∈ TB := ⟨inTB 325 (by decide +kernel) (by decide +kernel), inTB 326 (by decide +kernel) (by decide +kernel), inTB 69 (by decide +kernel) (by decide +kernel), tc_P_forget⟩
theorem pd_P_forget : y_P_forget.cls = "NoneWords$Speech" ∧ y_P_forget.cls ≠ "java/lang/invoke/MethodHandle" ∧ y_P_forget.cls ≠ "java/lang/invoke/VarHandle" ∧ (parseMethodDescriptor y_P_forget.desc).map (fun d => d.parameters.length) = some 0 := by decide +kernel
theorem d_P_forget_0 : decode b_P_forget 0 = .ok (.aload_n 0, 1) := by decide +kernel
theorem d_P_forget_1 : decode b_P_forget 1 = .ok (.iconst (-1), 1) := by decide +kernel
theorem d_P_forget_2 : decode b_P_forget 2 = .ok (.putfield 19, 3) := by decide +kernel
theorem d_P_forget_5 : decode b_P_forget 5 = .ok (.return_, 1) := by decide +kernel
abbrev rm_P_forget : Room := { frames := 0, cells := 0, slots := 0, locals := 0 }
def f_P_forget (M : Mem) : Option Mem :=
  some (ms M 23 4 (-1 : Int32))
set_option maxRecDepth 100000 in
theorem g_P_forget {M' : Mem} (C : GC p s m args meth c b_P_forget 1 (none) "NoneWords$Speech" TB D vwCl (tysW cI cZ cC) A (ZS sk sv)) {M : Mem} (hf : f_P_forget M = some M') : GW p l e rm_P_forget s m args below meth c (MQ below (QW D vwCl (tysW cI cZ cC) A none (wc ad cI cZ cC M')) args s 0 0 A) D vwCl A 1 0 0 (wc ad cI cZ cC M) 0 [(0, .ref (ad 23))] [] := by
  unfold f_P_forget at hf
  refine gw_aload_n C 0 d_P_forget_0 rfl rfl ?_
  refine gw_iconst (v := (-1 : Int32)) C d_P_forget_1 (by decide) ?_
  refine gw_put C in_P ty_P tk_P nm_P 23 wcg_23 clg_2 4 (by decide) tw_190 rfl rfl rfl rfl (Nat.le_of_ble_eq_true rfl) d_P_forget_2 wcf_23_4 ?_
  exact gw_vreti C d_P_forget_5 (wc ad cI cZ cC) hf
theorem c_P_forget (hZ : gw_ZOK (ZS sk sv)) {M : Mem} {M' : Mem} (hf : f_P_forget M = some M') : CW l y_P_forget ws_P_forget rm_P_forget D vwCl (tysW cI cZ cC) (ZS sk sv) [.ref (ad 23)] (wc ad cI cZ cC M) none (wc ad cI cZ cC M') 0 0 :=
  CW.ofG hZ (by decide) rfl (Nat.le_of_ble_eq_true rfl) (fun _ _ _ _ _ _ _ _ C _ => g_P_forget C hf)
abbrev b_P_countSigns : ByteArray := prog_4_method_3_code
def y_P_countSigns : MethodName := ⟨"NoneWords$Speech", "countSigns", "()I"⟩
abbrev ws_P_countSigns : List Cond := Cond.code y_P_countSigns b_P_countSigns 1 (some (FieldType.int)) :: TB
set_option maxRecDepth 100000 in
theorem tc_P_countSigns : Cond.code y_P_countSigns b_P_countSigns 1 (some (FieldType.int)) ∈ TB := inTB 585 rfl rfl
theorem mv_P_countSigns : Cond.instanceMethod y_P_countSigns ∈ TB ∧ Cond.selects "NoneWords$Speech" y_P_countSigns y_P_countSigns ∈ TB ∧ Cond.initialized "NoneWords$Speech" ∈ TB ∧ Cond.code y_P_countSigns b_P_countSigns 1 (some (FieldType.int)) ∈ TB := ⟨inTB 583 (by decide +kernel) (by decide +kernel), inTB 584 (by decide +kernel) (by decide +kernel), inTB 69 (by decide +kernel) (by decide +kernel), tc_P_countSigns⟩
theorem pd_P_countSigns : y_P_countSigns.cls = "NoneWords$Speech" ∧ y_P_countSigns.cls ≠ "java/lang/invoke/MethodHandle" ∧ y_P_countSigns.cls ≠ "java/lang/invoke/VarHandle" ∧ (parseMethodDescriptor y_P_countSigns.desc).map (fun d => d.parameters.length) = some 0 := by decide +kernel
theorem d_P_countSigns_0 : decode b_P_countSigns 0 = .ok (.aload_n 0, 1) := by decide +kernel
theorem d_P_countSigns_1 : decode b_P_countSigns 1 = .ok (.getfield 15, 3) := by decide +kernel
theorem d_P_countSigns_4 : decode b_P_countSigns 4 = .ok (.ireturn, 1) := by decide +kernel
abbrev rm_P_countSigns : Room := { frames := 0, cells := 0, slots := 0, locals := 0 }
def f_P_countSigns (M : Mem) : Option (Int32 × Mem) :=
  some (M 23 3, M)
set_option maxRecDepth 100000 in
theorem g_P_countSigns {r : Int32} {M' : Mem} (C : GC p s m args meth c b_P_countSigns 1 (some (FieldType.int)) "NoneWords$Speech" TB D vwCl (tysW cI cZ cC) A (ZS sk sv)) {M : Mem} (hf : f_P_countSigns M = some (r, M')) : GW p l e rm_P_countSigns s m args below meth c (MQ below (QW D vwCl (tysW cI cZ cC) A (some (.int r)) (wc ad cI cZ cC M')) args s 0 0 A) D vwCl A 1 0 0 (wc ad cI cZ cC M) 0 [(0, .ref (ad 23))] [] := by
  unfold f_P_countSigns at hf
  refine gw_aload_n C 0 d_P_countSigns_0 rfl rfl ?_
  refine gw_get C in_P 23 wcg_23 clg_2 3 (by decide) tw_189 rfl rfl d_P_countSigns_1 ?_
  exact gw_ireti C d_P_countSigns_4 (wc ad cI cZ cC) hf
theorem c_P_countSigns (hZ : gw_ZOK (ZS sk sv)) {M : Mem} {r : Int32} {M' : Mem} (hf : f_P_countSigns M = some (r, M')) : CW l y_P_countSigns ws_P_countSigns rm_P_countSigns D vwCl (tysW cI cZ cC) (ZS sk sv) [.ref (ad 23)] (wc ad cI cZ cC M) (some (.int r)) (wc ad cI cZ cC M') 0 0 :=
  CW.ofG hZ (by decide) rfl (Nat.le_of_ble_eq_true rfl) (fun _ _ _ _ _ _ _ _ C _ => g_P_countSigns C hf)
abbrev b_P_signAt : ByteArray := prog_4_method_4_code
def y_P_signAt : MethodName := ⟨"NoneWords$Speech", "signAt", "(I)I"⟩
abbrev ws_P_signAt : List Cond := Cond.code y_P_signAt b_P_signAt 2 (some (FieldType.int)) :: TB
set_option maxRecDepth 100000 in
theorem tc_P_signAt : Cond.code y_P_signAt b_P_signAt 2 (some (FieldType.int)) ∈ TB := inTB 594 rfl rfl
theorem mv_P_signAt : Cond.instanceMethod y_P_signAt ∈ TB ∧ Cond.selects "NoneWords$Speech" y_P_signAt y_P_signAt ∈ TB ∧ Cond.initialized "NoneWords$Speech" ∈ TB ∧ Cond.code y_P_signAt b_P_signAt 2 (some (FieldType.int)) ∈ TB := ⟨inTB 592 (by decide +kernel) (by decide +kernel), inTB 593 (by decide +kernel) (by decide +kernel), inTB 69 (by decide +kernel) (by decide +kernel), tc_P_signAt⟩
theorem pd_P_signAt : y_P_signAt.cls = "NoneWords$Speech" ∧ y_P_signAt.cls ≠ "java/lang/invoke/MethodHandle" ∧ y_P_signAt.cls ≠ "java/lang/invoke/VarHandle" ∧ (parseMethodDescriptor y_P_signAt.desc).map (fun d => d.parameters.length) = some 1 := by decide +kernel
theorem d_P_signAt_0 : decode b_P_signAt 0 = .ok (.iload_n 1, 1) := by decide +kernel
theorem d_P_signAt_1 : decode b_P_signAt 1 = .ok (.ifCond .lt 20, 3) := by decide +kernel
theorem d_P_signAt_4 : decode b_P_signAt 4 = .ok (.iload_n 1, 1) := by decide +kernel
theorem d_P_signAt_5 : decode b_P_signAt 5 = .ok (.aload_n 0, 1) := by decide +kernel
theorem d_P_signAt_6 : decode b_P_signAt 6 = .ok (.getfield 15, 3) := by decide +kernel
theorem d_P_signAt_9 : decode b_P_signAt 9 = .ok (.if_icmp .ge 12, 3) := by decide +kernel
theorem d_P_signAt_12 : decode b_P_signAt 12 = .ok (.aload_n 0, 1) := by decide +kernel
theorem d_P_signAt_13 : decode b_P_signAt 13 = .ok (.getfield 11, 3) := by decide +kernel
theorem d_P_signAt_16 : decode b_P_signAt 16 = .ok (.iload_n 1, 1) := by decide +kernel
theorem d_P_signAt_17 : decode b_P_signAt 17 = .ok (.caload, 1) := by decide +kernel
theorem d_P_signAt_18 : decode b_P_signAt 18 = .ok (.goto 4, 3) := by decide +kernel
theorem d_P_signAt_21 : decode b_P_signAt 21 = .ok (.iconst (-1), 1) := by decide +kernel
theorem d_P_signAt_22 : decode b_P_signAt 22 = .ok (.ireturn, 1) := by decide +kernel
abbrev rm_P_signAt : Room := { frames := 0, cells := 0, slots := 0, locals := 0 }
def f_P_signAt (x1 : Int32) (M : Mem) : Option (Int32 × Mem) :=
  if x1 < 0 then some ((-1 : Int32), M) else if (M 23 3) ≤ x1 then some ((-1 : Int32), M) else gd (inb x1 256) (some (M 24 x1.toNatClampNeg, M))
set_option maxRecDepth 100000 in
theorem g_P_signAt {r : Int32} {M' : Mem} (C : GC p s m args meth c b_P_signAt 2 (some (FieldType.int)) "NoneWords$Speech" TB D vwCl (tysW cI cZ cC) A (ZS sk sv)) {x1 : Int32} {M : Mem} (hf : f_P_signAt x1 M = some (r, M')) : GW p l e rm_P_signAt s m args below meth c (MQ below (QW D vwCl (tysW cI cZ cC) A (some (.int r)) (wc ad cI cZ cC M')) args s 0 0 A) D vwCl A 2 0 0 (wc ad cI cZ cC M) 0 [(0, .ref (ad 23)), (1, .int x1)] [] := by
  unfold f_P_signAt at hf
  refine gw_iload_n C 1 d_P_signAt_0 rfl rfl ?_
  refine gw_if_lt (tgt := 21) C d_P_signAt_1 (by decide) (fun c => ?_) (fun c => ?_)
  · have hf := (if_pos c).symm.trans hf
    refine gw_iconst (v := (-1 : Int32)) C d_P_signAt_21 (by decide) ?_
    exact gw_ireti C d_P_signAt_22 (wc ad cI cZ cC) hf
  · have hf := (if_neg c).symm.trans hf
    refine gw_iload_n C 1 d_P_signAt_4 rfl rfl ?_
    refine gw_aload_n C 0 d_P_signAt_5 rfl rfl ?_
    refine gw_get C in_P 23 wcg_23 clg_2 3 (by decide) tw_189 rfl rfl d_P_signAt_6 ?_
    refine gw_icmp_ge (tgt := 21) C d_P_signAt_9 (by decide) (fun c => ?_) (fun c => ?_)
    · have hf := (if_pos c).symm.trans hf
      refine gw_iconst (v := (-1 : Int32)) C d_P_signAt_21 (by decide) ?_
      exact gw_ireti C d_P_signAt_22 (wc ad cI cZ cC) hf
    · have hf := (if_neg c).symm.trans hf
      refine gw_aload_n C 0 d_P_signAt_12 rfl rfl ?_
      refine gw_get C in_P 23 wcg_23 clg_2 2 (by decide) tw_188 rfl rfl d_P_signAt_13 ?_
      refine gw_iload_n C 1 d_P_signAt_16 rfl rfl ?_
      obtain ⟨hb17, hf⟩ := gd_some hf
      refine gw_cald C 24 2 wcg_24 rfl hb17 d_P_signAt_17 ?_
      refine gw_goto (tgt := 22) C d_P_signAt_18 (by decide) ?_
      exact gw_ireti C d_P_signAt_22 (wc ad cI cZ cC) hf
theorem c_P_signAt (hZ : gw_ZOK (ZS sk sv)) {x1 : Int32} {M : Mem} {r : Int32} {M' : Mem} (hf : f_P_signAt x1 M = some (r, M')) : CW l y_P_signAt ws_P_signAt rm_P_signAt D vwCl (tysW cI cZ cC) (ZS sk sv) [.ref (ad 23), .int x1] (wc ad cI cZ cC M) (some (.int r)) (wc ad cI cZ cC M') 0 0 :=
  CW.ofG hZ (by decide) rfl (Nat.le_of_ble_eq_true rfl) (fun _ _ _ _ _ _ _ _ C _ => g_P_signAt C hf)
abbrev b_P_openingWords : ByteArray := prog_4_method_6_code
def y_P_openingWords : MethodName := ⟨"NoneWords$Speech", "openingWords", "(I)Ljava/lang/String;"⟩
abbrev ws_P_openingWords : List Cond := Cond.code y_P_openingWords b_P_openingWords 1 (some ((FieldType.object "java/lang/String"))) :: TB
set_option maxRecDepth 100000 in
theorem tc_P_openingWords : Cond.code y_P_openingWords b_P_openingWords 1 (some ((FieldType.object "java/lang/String"))) ∈ TB := inTB 444 rfl rfl
theorem mv_P_openingWords : Cond.static y_P_openingWords ∈ TB ∧ Cond.initialized "NoneWords$Speech" ∈ TB ∧ Cond.code y_P_openingWords b_P_openingWords 1 (some ((FieldType.object "java/lang/String"))) ∈ TB := ⟨inTB 443 (by decide +kernel) (by decide +kernel), inTB 69 (by decide +kernel) (by decide +kernel), tc_P_openingWords⟩
theorem pd_P_openingWords : y_P_openingWords.cls = "NoneWords$Speech" ∧ y_P_openingWords.cls ≠ "java/lang/invoke/MethodHandle" ∧ y_P_openingWords.cls ≠ "java/lang/invoke/VarHandle" ∧ (parseMethodDescriptor y_P_openingWords.desc).map (fun d => d.parameters.length) = some 1 := by decide +kernel
theorem d_P_openingWords_0 : decode b_P_openingWords 0 = .ok (.iload_n 0, 1) := by decide +kernel
theorem d_P_openingWords_1 : decode b_P_openingWords 1 = .ok (.tableswitch 36 1 3 #[27, 30, 33], 27) := by decide +kernel
theorem d_P_openingWords_28 : decode b_P_openingWords 28 = .ok (.ldc 71, 2) := by decide +kernel
theorem d_P_openingWords_30 : decode b_P_openingWords 30 = .ok (.areturn, 1) := by decide +kernel
theorem d_P_openingWords_31 : decode b_P_openingWords 31 = .ok (.ldc 73, 2) := by decide +kernel
theorem d_P_openingWords_33 : decode b_P_openingWords 33 = .ok (.areturn, 1) := by decide +kernel
theorem d_P_openingWords_34 : decode b_P_openingWords 34 = .ok (.ldc 75, 2) := by decide +kernel
theorem d_P_openingWords_36 : decode b_P_openingWords 36 = .ok (.areturn, 1) := by decide +kernel
theorem d_P_openingWords_37 : decode b_P_openingWords 37 = .ok (.ldc 77, 2) := by decide +kernel
theorem d_P_openingWords_39 : decode b_P_openingWords 39 = .ok (.areturn, 1) := by decide +kernel
abbrev rm_P_openingWords : Room := { frames := 0, cells := 0, slots := 0, locals := 0 }
def f_P_openingWords (x0 : Int32) (M : Mem) : Option (Nat × Mem) :=
  if x0 = (1 : Int32) then some (0, M) else if x0 = (2 : Int32) then some (1, M) else if x0 = (3 : Int32) then some (2, M) else some (3, M)
set_option maxRecDepth 100000 in
theorem g_P_openingWords {r : Nat} {M' : Mem} (C : GC p s m args meth c b_P_openingWords 1 (some ((FieldType.object "java/lang/String"))) "NoneWords$Speech" TB D vwCl (tysW cI cZ cC) A (ZS sk sv)) {x0 : Int32} {M : Mem} (hf : f_P_openingWords x0 M = some (r, M')) : GW p l e rm_P_openingWords s m args below meth c (MQ below (QW D vwCl (tysW cI cZ cC) A (some (.ref (sk r))) (wc ad cI cZ cC M')) args s 0 0 A) D vwCl A 1 0 0 (wc ad cI cZ cC M) 0 [(0, .int x0)] [] := by
  unfold f_P_openingWords at hf
  refine gw_iload_n C 0 d_P_openingWords_0 rfl rfl ?_
  by_cases c1 : x0 = (1 : Int32)
  · have hf := (if_pos c1).symm.trans hf
    refine gw_tableIn (tgt := 28) C (1 : Int32) c1 d_P_openingWords_1 (by decide) (by decide) rfl (by decide) ?_
    refine gw_ldcS C (C.2.2.2.2.2.2.2.2.2.1.2.1 _ (List.mem_of_getElem? (i := 0) rfl)) d_P_openingWords_28 ?_
    exact gw_areti C d_P_openingWords_30 (wc ad cI cZ cC) sk hf
  · have hf := (if_neg c1).symm.trans hf
    by_cases c2 : x0 = (2 : Int32)
    · have hf := (if_pos c2).symm.trans hf
      refine gw_tableIn (tgt := 31) C (2 : Int32) c2 d_P_openingWords_1 (by decide) (by decide) rfl (by decide) ?_
      refine gw_ldcS C (C.2.2.2.2.2.2.2.2.2.1.2.1 _ (List.mem_of_getElem? (i := 1) rfl)) d_P_openingWords_31 ?_
      exact gw_areti C d_P_openingWords_33 (wc ad cI cZ cC) sk hf
    · have hf := (if_neg c2).symm.trans hf
      by_cases c3 : x0 = (3 : Int32)
      · have hf := (if_pos c3).symm.trans hf
        refine gw_tableIn (tgt := 34) C (3 : Int32) c3 d_P_openingWords_1 (by decide) (by decide) rfl (by decide) ?_
        refine gw_ldcS C (C.2.2.2.2.2.2.2.2.2.1.2.1 _ (List.mem_of_getElem? (i := 2) rfl)) d_P_openingWords_34 ?_
        exact gw_areti C d_P_openingWords_36 (wc ad cI cZ cC) sk hf
      · have hf := (if_neg c3).symm.trans hf
        refine gw_tableOut (tgt := 37) C d_P_openingWords_1 (by have zc1 := lv_neT c1 (a := 1) (by decide); have zc2 := lv_neT c2 (a := 2) (by decide); have zc3 := lv_neT c3 (a := 3) (by decide); omega) (by decide) ?_
        refine gw_ldcS C (C.2.2.2.2.2.2.2.2.2.1.2.1 _ (List.mem_of_getElem? (i := 3) rfl)) d_P_openingWords_37 ?_
        exact gw_areti C d_P_openingWords_39 (wc ad cI cZ cC) sk hf
theorem c_P_openingWords (hZ : gw_ZOK (ZS sk sv)) {x0 : Int32} {M : Mem} {r : Nat} {M' : Mem} (hf : f_P_openingWords x0 M = some (r, M')) : CW l y_P_openingWords ws_P_openingWords rm_P_openingWords D vwCl (tysW cI cZ cC) (ZS sk sv) [.int x0] (wc ad cI cZ cC M) (some (.ref (sk r))) (wc ad cI cZ cC M') 0 0 :=
  CW.ofG hZ (by decide) rfl (Nat.le_of_ble_eq_true rfl) (fun _ _ _ _ _ _ _ _ C _ => g_P_openingWords C hf)
abbrev b_P_digit : ByteArray := prog_4_method_13_code
def y_P_digit : MethodName := ⟨"NoneWords$Speech", "digit", "(I)C"⟩
abbrev ws_P_digit : List Cond := Cond.code y_P_digit b_P_digit 1 (some (FieldType.char)) :: TB
set_option maxRecDepth 100000 in
theorem tc_P_digit : Cond.code y_P_digit b_P_digit 1 (some (FieldType.char)) ∈ TB := inTB 535 rfl rfl
theorem mv_P_digit : Cond.static y_P_digit ∈ TB ∧ Cond.initialized "NoneWords$Speech" ∈ TB ∧ Cond.code y_P_digit b_P_digit 1 (some (FieldType.char)) ∈ TB := ⟨inTB 534 (by decide +kernel) (by decide +kernel), inTB 69 (by decide +kernel) (by decide +kernel), tc_P_digit⟩
theorem pd_P_digit : y_P_digit.cls = "NoneWords$Speech" ∧ y_P_digit.cls ≠ "java/lang/invoke/MethodHandle" ∧ y_P_digit.cls ≠ "java/lang/invoke/VarHandle" ∧ (parseMethodDescriptor y_P_digit.desc).map (fun d => d.parameters.length) = some 1 := by decide +kernel
theorem d_P_digit_0 : decode b_P_digit 0 = .ok (.bipush 48, 2) := by decide +kernel
theorem d_P_digit_2 : decode b_P_digit 2 = .ok (.iload_n 0, 1) := by decide +kernel
theorem d_P_digit_3 : decode b_P_digit 3 = .ok (.bipush 10, 2) := by decide +kernel
theorem d_P_digit_5 : decode b_P_digit 5 = .ok (.irem, 1) := by decide +kernel
theorem d_P_digit_6 : decode b_P_digit 6 = .ok (.iadd, 1) := by decide +kernel
theorem d_P_digit_7 : decode b_P_digit 7 = .ok (.i2c, 1) := by decide +kernel
theorem d_P_digit_8 : decode b_P_digit 8 = .ok (.ireturn, 1) := by decide +kernel
abbrev rm_P_digit : Room := { frames := 0, cells := 0, slots := 0, locals := 0 }
def f_P_digit (x0 : Int32) (M : Mem) : Option (Int32 × Mem) :=
  some (vp_nar .char ((((48 : Int32) + (x0 - x0 / (10 : Int32) * (10 : Int32))).toUInt32 % 65536).toInt32), M)
set_option maxRecDepth 100000 in
theorem g_P_digit {r : Int32} {M' : Mem} (C : GC p s m args meth c b_P_digit 1 (some (FieldType.char)) "NoneWords$Speech" TB D vwCl (tysW cI cZ cC) A (ZS sk sv)) {x0 : Int32} {M : Mem} (hf : f_P_digit x0 M = some (r, M')) : GW p l e rm_P_digit s m args below meth c (MQ below (QW D vwCl (tysW cI cZ cC) A (some (.int r)) (wc ad cI cZ cC M')) args s 0 0 A) D vwCl A 1 0 0 (wc ad cI cZ cC M) 0 [(0, .int x0)] [] := by
  unfold f_P_digit at hf
  refine gw_bipush (v := (48 : Int32)) C d_P_digit_0 (by decide) ?_
  refine gw_iload_n C 0 d_P_digit_2 rfl rfl ?_
  refine gw_bipush (v := (10 : Int32)) C d_P_digit_3 (by decide) ?_
  refine gw_irem C d_P_digit_5 (by decide) ?_
  refine gw_iadd C d_P_digit_6 ?_
  refine gw_i2c C d_P_digit_7 ?_
  exact gw_zretn C d_P_digit_8 (wc ad cI cZ cC) (nar_c _) hf
theorem c_P_digit (hZ : gw_ZOK (ZS sk sv)) {x0 : Int32} {M : Mem} {r : Int32} {M' : Mem} (hf : f_P_digit x0 M = some (r, M')) : CW l y_P_digit ws_P_digit rm_P_digit D vwCl (tysW cI cZ cC) (ZS sk sv) [.int x0] (wc ad cI cZ cC M) (some (.int r)) (wc ad cI cZ cC M') 0 0 :=
  CW.ofG hZ (by decide) rfl (Nat.le_of_ble_eq_true rfl) (fun _ _ _ _ _ _ _ _ C _ => g_P_digit C hf)
abbrev b_P_putC : ByteArray := prog_4_method_15_code
def y_P_putC : MethodName := ⟨"NoneWords$Speech", "put", "(C)V"⟩
abbrev ws_P_putC : List Cond := Cond.code y_P_putC b_P_putC 2 (none) :: TB
set_option maxRecDepth 100000 in
theorem tc_P_putC : Cond.code y_P_putC b_P_putC 2 (none) ∈ TB := inTB 504 rfl rfl
theorem mv_P_putC : Cond.instanceMethod y_P_putC ∈ TB ∧ Cond.selects "NoneWords$Speech" y_P_putC y_P_putC ∈ TB ∧ Cond.initialized "NoneWords$Speech" ∈ TB ∧ Cond.code y_P_putC b_P_putC 2 (none) ∈ TB := ⟨inTB 503 (by decide +kernel) (by decide +kernel), inTB 14 (by decide +kernel) (by decide +kernel), inTB 69 (by decide +kernel) (by decide +kernel), tc_P_putC⟩
theorem pd_P_putC : y_P_putC.cls = "NoneWords$Speech" ∧ y_P_putC.cls ≠ "java/lang/invoke/MethodHandle" ∧ y_P_putC.cls ≠ "java/lang/invoke/VarHandle" ∧ (parseMethodDescriptor y_P_putC.desc).map (fun d => d.parameters.length) = some 1 := by decide +kernel
theorem d_P_putC_0 : decode b_P_putC 0 = .ok (.aload_n 0, 1) := by decide +kernel
theorem d_P_putC_1 : decode b_P_putC 1 = .ok (.getfield 15, 3) := by decide +kernel
theorem d_P_putC_4 : decode b_P_putC 4 = .ok (.sipush 256, 3) := by decide +kernel
theorem d_P_putC_7 : decode b_P_putC 7 = .ok (.if_icmp .ge 23, 3) := by decide +kernel
theorem d_P_putC_10 : decode b_P_putC 10 = .ok (.aload_n 0, 1) := by decide +kernel
theorem d_P_putC_11 : decode b_P_putC 11 = .ok (.getfield 11, 3) := by decide +kernel
theorem d_P_putC_14 : decode b_P_putC 14 = .ok (.aload_n 0, 1) := by decide +kernel
theorem d_P_putC_15 : decode b_P_putC 15 = .ok (.getfield 15, 3) := by decide +kernel
theorem d_P_putC_18 : decode b_P_putC 18 = .ok (.iload_n 1, 1) := by decide +kernel
theorem d_P_putC_19 : decode b_P_putC 19 = .ok (.castore, 1) := by decide +kernel
theorem d_P_putC_20 : decode b_P_putC 20 = .ok (.aload_n 0, 1) := by decide +kernel
theorem d_P_putC_21 : decode b_P_putC 21 = .ok (.dup, 1) := by decide +kernel
theorem d_P_putC_22 : decode b_P_putC 22 = .ok (.getfield 15, 3) := by decide +kernel
theorem d_P_putC_25 : decode b_P_putC 25 = .ok (.iconst 1, 1) := by decide +kernel
theorem d_P_putC_26 : decode b_P_putC 26 = .ok (.iadd, 1) := by decide +kernel
theorem d_P_putC_27 : decode b_P_putC 27 = .ok (.putfield 15, 3) := by decide +kernel
theorem d_P_putC_30 : decode b_P_putC 30 = .ok (.return_, 1) := by decide +kernel
abbrev rm_P_putC : Room := { frames := 0, cells := 0, slots := 0, locals := 0 }
def f_P_putC (x1 : Int32) (M : Mem) : Option Mem :=
  if (256 : Int32) ≤ (M 23 3) then some M else gd (inb (M 23 3) 256) (some (ms (ms M 24 (M 23 3).toNatClampNeg (vp_nar .char x1)) 23 3 (((ms M 24 (M 23 3).toNatClampNeg (vp_nar .char x1)) 23 3) + (1 : Int32))))
set_option maxRecDepth 100000 in
theorem g_P_putC {M' : Mem} (C : GC p s m args meth c b_P_putC 2 (none) "NoneWords$Speech" TB D vwCl (tysW cI cZ cC) A (ZS sk sv)) {x1 : Int32} {M : Mem} (hf : f_P_putC x1 M = some M') : GW p l e rm_P_putC s m args below meth c (MQ below (QW D vwCl (tysW cI cZ cC) A none (wc ad cI cZ cC M')) args s 0 0 A) D vwCl A 2 0 0 (wc ad cI cZ cC M) 0 [(0, .ref (ad 23)), (1, .int x1)] [] := by
  unfold f_P_putC at hf
  refine gw_aload_n C 0 d_P_putC_0 rfl rfl ?_
  refine gw_get C in_P 23 wcg_23 clg_2 3 (by decide) tw_189 rfl rfl d_P_putC_1 ?_
  refine gw_sipush (v := (256 : Int32)) C d_P_putC_4 (by decide) ?_
  refine gw_icmp_ge (tgt := 30) C d_P_putC_7 (by decide) (fun c => ?_) (fun c => ?_)
  · have hf := (if_pos c).symm.trans hf
    exact gw_vreti C d_P_putC_30 (wc ad cI cZ cC) hf
  · have hf := (if_neg c).symm.trans hf
    refine gw_aload_n C 0 d_P_putC_10 rfl rfl ?_
    refine gw_get C in_P 23 wcg_23 clg_2 2 (by decide) tw_188 rfl rfl d_P_putC_11 ?_
    refine gw_aload_n C 0 d_P_putC_14 rfl rfl ?_
    refine gw_get C in_P 23 wcg_23 clg_2 3 (by decide) tw_189 rfl rfl d_P_putC_15 ?_
    refine gw_iload_n C 1 d_P_putC_18 rfl rfl ?_
    obtain ⟨hb19, hf⟩ := gd_some hf
    refine gw_cast C 24 2 wcg_24 rfl hb19 d_P_putC_19 wca_24 ?_
    refine gw_aload_n C 0 d_P_putC_20 rfl rfl ?_
    refine gw_dup C d_P_putC_21 rfl ?_
    refine gw_get C in_P 23 wcg_23 clg_2 3 (by decide) tw_189 rfl rfl d_P_putC_22 ?_
    refine gw_iconst (v := (1 : Int32)) C d_P_putC_25 (by decide) ?_
    refine gw_iadd C d_P_putC_26 ?_
    refine gw_put C in_P ty_P tk_P nm_P 23 wcg_23 clg_2 3 (by decide) tw_189 rfl rfl rfl rfl (Nat.le_of_ble_eq_true rfl) d_P_putC_27 wcf_23_3 ?_
    exact gw_vreti C d_P_putC_30 (wc ad cI cZ cC) hf
theorem c_P_putC (hZ : gw_ZOK (ZS sk sv)) {x1 : Int32} {M : Mem} {M' : Mem} (hf : f_P_putC x1 M = some M') : CW l y_P_putC ws_P_putC rm_P_putC D vwCl (tysW cI cZ cC) (ZS sk sv) [.ref (ad 23), .int x1] (wc ad cI cZ cC M) none (wc ad cI cZ cC M') 0 0 :=
  CW.ofG hZ (by decide) rfl (Nat.le_of_ble_eq_true rfl) (fun _ _ _ _ _ _ _ _ C _ => g_P_putC C hf)
abbrev b_P_putS : ByteArray := prog_4_method_14_code
def y_P_putS : MethodName := ⟨"NoneWords$Speech", "put", "(Ljava/lang/String;)V"⟩
abbrev ws_P_putS : List Cond := Cond.code y_P_putS b_P_putS 3 (none) :: TB
set_option maxRecDepth 100000 in
theorem tc_P_putS : Cond.code y_P_putS b_P_putS 3 (none) ∈ TB := inTB 452 rfl rfl
theorem mv_P_putS : Cond.instanceMethod y_P_putS ∈ TB ∧ Cond.selects "NoneWords$Speech" y_P_putS y_P_putS ∈ TB ∧ Cond.initialized "NoneWords$Speech" ∈ TB ∧ Cond.code y_P_putS b_P_putS 3 (none) ∈ TB := ⟨inTB 451 (by decide +kernel) (by decide +kernel), inTB 13 (by decide +kernel) (by decide +kernel), inTB 69 (by decide +kernel) (by decide +kernel), tc_P_putS⟩
theorem pd_P_putS : y_P_putS.cls = "NoneWords$Speech" ∧ y_P_putS.cls ≠ "java/lang/invoke/MethodHandle" ∧ y_P_putS.cls ≠ "java/lang/invoke/VarHandle" ∧ (parseMethodDescriptor y_P_putS.desc).map (fun d => d.parameters.length) = some 1 := by decide +kernel
theorem d_P_putS_0 : decode b_P_putS 0 = .ok (.iconst 0, 1) := by decide +kernel
theorem d_P_putS_1 : decode b_P_putS 1 = .ok (.istore_n 2, 1) := by decide +kernel
theorem d_P_putS_2 : decode b_P_putS 2 = .ok (.iload_n 2, 1) := by decide +kernel
theorem d_P_putS_3 : decode b_P_putS 3 = .ok (.aload_n 1, 1) := by decide +kernel
theorem d_P_putS_4 : decode b_P_putS 4 = .ok (.invokevirtual 167, 3) := by decide +kernel
theorem d_P_putS_7 : decode b_P_putS 7 = .ok (.if_icmp .ge 18, 3) := by decide +kernel
theorem d_P_putS_10 : decode b_P_putS 10 = .ok (.aload_n 0, 1) := by decide +kernel
theorem d_P_putS_11 : decode b_P_putS 11 = .ok (.aload_n 1, 1) := by decide +kernel
theorem d_P_putS_12 : decode b_P_putS 12 = .ok (.iload_n 2, 1) := by decide +kernel
theorem d_P_putS_13 : decode b_P_putS 13 = .ok (.invokevirtual 171, 3) := by decide +kernel
theorem d_P_putS_16 : decode b_P_putS 16 = .ok (.invokevirtual 68, 3) := by decide +kernel
theorem d_P_putS_19 : decode b_P_putS 19 = .ok (.iinc 2 1, 3) := by decide +kernel
theorem d_P_putS_22 : decode b_P_putS 22 = .ok (.goto (-20), 3) := by decide +kernel
theorem d_P_putS_25 : decode b_P_putS 25 = .ok (.return_, 1) := by decide +kernel
abbrev rm_P_putS : Room := { frames := 4, cells := 0, slots := 0, locals := 85 }
def f_P_putS_2 : Nat → Nat → Int32 → Mem → Option Mem
  | 0, _, _, _ => none
  | n + 1, x1, x2, M => gd (decide (x1 < 20)) (if (nI (slen x1)) ≤ x2 then some M else gd (decide (x1 < 20)) (gd (inb x2 (slen x1)) (om (f_P_putC (sch x1 x2.toNatClampNeg) M) fun M16 => (f_P_putS_2 n) x1 (x2 + (1 : Int32)) M16)))
set_option maxRecDepth 100000 in
theorem g_P_putS_2 {M' : Mem} (C : GC p s m args meth c b_P_putS 3 (none) "NoneWords$Speech" TB D vwCl (tysW cI cZ cC) A (ZS sk sv)) : ∀ (n : Nat) (x1 : Nat) (x2 : Int32) (M : Mem), f_P_putS_2 n x1 x2 M = some M' → GW p l e rm_P_putS s m args below meth c (MQ below (QW D vwCl (tysW cI cZ cC) A none (wc ad cI cZ cC M')) args s 0 0 A) D vwCl A 3 0 0 (wc ad cI cZ cC M) 2 [(0, .ref (ad 23)), (1, .ref (sk x1)), (2, .int x2)] [] := by
  intro n
  induction n with
  | zero => intro _ _ _ hf; cases hf
  | succ n ih =>
    intro x1 x2 M hf
    rw [f_P_putS_2] at hf
    refine gw_iload_n C 2 d_P_putS_2 rfl rfl ?_
    refine gw_aload_n C 1 d_P_putS_3 rfl rfl ?_
    obtain ⟨hs4, hf⟩ := gd_lt hf
    refine gw_callVX (rest := [.int x2]) C (fun H locs hS => vk_recv C.2.2.2.2.2.2.2.2.2.1.1 hs4 hS) (c_G_length hs4) (cwV 0 C.2.2.2.2.1 (gTB_V tw_453 mv_G_length) rfl rfl rfl pd_G_length ⟨Nat.le_of_ble_eq_true rfl, Nat.le_of_ble_eq_true rfl⟩) rfl rfl (Nat.le_of_ble_eq_true rfl) d_P_putS_4 ⟨Nat.le_of_ble_eq_true rfl, Nat.le_of_ble_eq_true rfl⟩ ?_
    refine gw_icmp_ge (tgt := 25) C d_P_putS_7 (by decide) (fun c => ?_) (fun c => ?_)
    · have hf := (if_pos c).symm.trans hf
      exact gw_vreti C d_P_putS_25 (wc ad cI cZ cC) hf
    · have hf := (if_neg c).symm.trans hf
      refine gw_aload_n C 0 d_P_putS_10 rfl rfl ?_
      refine gw_aload_n C 1 d_P_putS_11 rfl rfl ?_
      refine gw_iload_n C 2 d_P_putS_12 rfl rfl ?_
      obtain ⟨hs13, hf⟩ := gd_lt hf
      obtain ⟨hb13, hf⟩ := gd_some hf
      refine gw_callVX (rest := [.ref (ad 23)]) C (fun H locs hS => vk_recv C.2.2.2.2.2.2.2.2.2.1.1 hs13 hS) (c_G_charAtI hs13 hb13) (cwV 1 C.2.2.2.2.1 (gTB_V tw_463 mv_G_charAt) rfl rfl rfl pd_G_charAt ⟨Nat.le_of_ble_eq_true rfl, Nat.le_of_ble_eq_true rfl⟩) rfl rfl (Nat.le_of_ble_eq_true rfl) d_P_putS_13 ⟨Nat.le_of_ble_eq_true rfl, Nat.le_of_ble_eq_true rfl⟩ ?_
      obtain ⟨M16, hc16, hf⟩ := om_some hf
      refine gw_callVv (rest := []) C 23 wcg_23 clg_2 (c_P_putC C.2.2.2.2.2.2.2.2.2.2 hc16) (cwV 1 C.2.2.2.2.1 (gTB_V tw_501 mv_P_putC) rfl rfl rfl pd_P_putC ⟨Nat.le_of_ble_eq_true rfl, Nat.le_of_ble_eq_true rfl⟩) rfl rfl (Nat.le_of_ble_eq_true rfl) d_P_putS_16 ⟨Nat.le_of_ble_eq_true rfl, Nat.le_of_ble_eq_true rfl⟩ ?_
      refine gw_iinc (v := x2 + (1 : Int32)) (lv' := [(2, .int (x2 + (1 : Int32))), (0, .ref (ad 23)), (1, .ref (sk x1))]) C 2 d_P_putS_19 rfl rfl (by decide) rfl ?_
      refine gw_goto (tgt := 2) C d_P_putS_22 (by decide) ?_
      exact gw_sub [1, 2, 0] rfl (ih _ _ _ hf)
def f_P_putS (x1 : Nat) (M : Mem) : Option Mem :=
  f_P_putS_2 100000 x1 (0 : Int32) M
set_option maxRecDepth 100000 in
theorem g_P_putS {M' : Mem} (C : GC p s m args meth c b_P_putS 3 (none) "NoneWords$Speech" TB D vwCl (tysW cI cZ cC) A (ZS sk sv)) {x1 : Nat} {M : Mem} (hf : f_P_putS x1 M = some M') : GW p l e rm_P_putS s m args below meth c (MQ below (QW D vwCl (tysW cI cZ cC) A none (wc ad cI cZ cC M')) args s 0 0 A) D vwCl A 3 0 0 (wc ad cI cZ cC M) 0 [(0, .ref (ad 23)), (1, .ref (sk x1))] [] := by
  unfold f_P_putS at hf
  refine gw_iconst (v := (0 : Int32)) C d_P_putS_0 (by decide) ?_
  refine gw_istore_n (lv' := [(2, .int (0 : Int32)), (0, .ref (ad 23)), (1, .ref (sk x1))]) C d_P_putS_1 rfl (by decide) rfl ?_
  exact gw_sub [1, 2, 0] rfl (g_P_putS_2 C _ _ _ _ hf)
theorem c_P_putS (hZ : gw_ZOK (ZS sk sv)) {x1 : Nat} {M : Mem} {M' : Mem} (hf : f_P_putS x1 M = some M') : CW l y_P_putS ws_P_putS rm_P_putS D vwCl (tysW cI cZ cC) (ZS sk sv) [.ref (ad 23), .ref (sk x1)] (wc ad cI cZ cC M) none (wc ad cI cZ cC M') 0 0 :=
  CW.ofG hZ (by decide) rfl (Nat.le_of_ble_eq_true rfl) (fun _ _ _ _ _ _ _ _ C _ => g_P_putS C hf)
abbrev b_P_tellNumber : ByteArray := prog_4_method_7_code
def y_P_tellNumber : MethodName := ⟨"NoneWords$Speech", "tellNumber", "(I)V"⟩
abbrev ws_P_tellNumber : List Cond := Cond.code y_P_tellNumber b_P_tellNumber 3 (none) :: TB
set_option maxRecDepth 100000 in
theorem tc_P_tellNumber : Cond.code y_P_tellNumber b_P_tellNumber 3 (none) ∈ TB := inTB 574 rfl rfl
theorem mv_P_tellNumber : Cond.instanceMethod y_P_tellNumber ∈ TB ∧ Cond.selects "NoneWords$Speech" y_P_tellNumber y_P_tellNumber ∈ TB ∧ Cond.initialized "NoneWords$Speech" ∈ TB ∧ Cond.code y_P_tellNumber b_P_tellNumber 3 (none) ∈ TB := ⟨inTB 573 (by decide +kernel) (by decide +kernel), inTB 20 (by decide +kernel) (by decide +kernel), inTB 69 (by decide +kernel) (by decide +kernel), tc_P_tellNumber⟩
theorem pd_P_tellNumber : y_P_tellNumber.cls = "NoneWords$Speech" ∧ y_P_tellNumber.cls ≠ "java/lang/invoke/MethodHandle" ∧ y_P_tellNumber.cls ≠ "java/lang/invoke/VarHandle" ∧ (parseMethodDescriptor y_P_tellNumber.desc).map (fun d => d.parameters.length) = some 1 := by decide +kernel
theorem d_P_tellNumber_0 : decode b_P_tellNumber 0 = .ok (.aload_n 0, 1) := by decide +kernel
theorem d_P_tellNumber_1 : decode b_P_tellNumber 1 = .ok (.getfield 26, 3) := by decide +kernel
theorem d_P_tellNumber_4 : decode b_P_tellNumber 4 = .ok (.iload_n 1, 1) := by decide +kernel
theorem d_P_tellNumber_5 : decode b_P_tellNumber 5 = .ok (.invokevirtual 79, 3) := by decide +kernel
theorem d_P_tellNumber_8 : decode b_P_tellNumber 8 = .ok (.istore_n 2, 1) := by decide +kernel
theorem d_P_tellNumber_9 : decode b_P_tellNumber 9 = .ok (.iload_n 2, 1) := by decide +kernel
theorem d_P_tellNumber_10 : decode b_P_tellNumber 10 = .ok (.ifCond .ne 4, 3) := by decide +kernel
theorem d_P_tellNumber_13 : decode b_P_tellNumber 13 = .ok (.return_, 1) := by decide +kernel
theorem d_P_tellNumber_14 : decode b_P_tellNumber 14 = .ok (.aload_n 0, 1) := by decide +kernel
theorem d_P_tellNumber_15 : decode b_P_tellNumber 15 = .ok (.ldc 82, 2) := by decide +kernel
theorem d_P_tellNumber_17 : decode b_P_tellNumber 17 = .ok (.invokevirtual 50, 3) := by decide +kernel
theorem d_P_tellNumber_20 : decode b_P_tellNumber 20 = .ok (.iload_n 2, 1) := by decide +kernel
theorem d_P_tellNumber_21 : decode b_P_tellNumber 21 = .ok (.bipush 100, 2) := by decide +kernel
theorem d_P_tellNumber_23 : decode b_P_tellNumber 23 = .ok (.if_icmp .lt 14, 3) := by decide +kernel
theorem d_P_tellNumber_26 : decode b_P_tellNumber 26 = .ok (.aload_n 0, 1) := by decide +kernel
theorem d_P_tellNumber_27 : decode b_P_tellNumber 27 = .ok (.iload_n 2, 1) := by decide +kernel
theorem d_P_tellNumber_28 : decode b_P_tellNumber 28 = .ok (.bipush 100, 2) := by decide +kernel
theorem d_P_tellNumber_30 : decode b_P_tellNumber 30 = .ok (.idiv, 1) := by decide +kernel
theorem d_P_tellNumber_31 : decode b_P_tellNumber 31 = .ok (.invokestatic 84, 3) := by decide +kernel
theorem d_P_tellNumber_34 : decode b_P_tellNumber 34 = .ok (.invokevirtual 68, 3) := by decide +kernel
theorem d_P_tellNumber_37 : decode b_P_tellNumber 37 = .ok (.iload_n 2, 1) := by decide +kernel
theorem d_P_tellNumber_38 : decode b_P_tellNumber 38 = .ok (.bipush 10, 2) := by decide +kernel
theorem d_P_tellNumber_40 : decode b_P_tellNumber 40 = .ok (.if_icmp .lt 14, 3) := by decide +kernel
theorem d_P_tellNumber_43 : decode b_P_tellNumber 43 = .ok (.aload_n 0, 1) := by decide +kernel
theorem d_P_tellNumber_44 : decode b_P_tellNumber 44 = .ok (.iload_n 2, 1) := by decide +kernel
theorem d_P_tellNumber_45 : decode b_P_tellNumber 45 = .ok (.bipush 10, 2) := by decide +kernel
theorem d_P_tellNumber_47 : decode b_P_tellNumber 47 = .ok (.idiv, 1) := by decide +kernel
theorem d_P_tellNumber_48 : decode b_P_tellNumber 48 = .ok (.invokestatic 84, 3) := by decide +kernel
theorem d_P_tellNumber_51 : decode b_P_tellNumber 51 = .ok (.invokevirtual 68, 3) := by decide +kernel
theorem d_P_tellNumber_54 : decode b_P_tellNumber 54 = .ok (.aload_n 0, 1) := by decide +kernel
theorem d_P_tellNumber_55 : decode b_P_tellNumber 55 = .ok (.iload_n 2, 1) := by decide +kernel
theorem d_P_tellNumber_56 : decode b_P_tellNumber 56 = .ok (.invokestatic 84, 3) := by decide +kernel
theorem d_P_tellNumber_59 : decode b_P_tellNumber 59 = .ok (.invokevirtual 68, 3) := by decide +kernel
theorem d_P_tellNumber_62 : decode b_P_tellNumber 62 = .ok (.aload_n 0, 1) := by decide +kernel
theorem d_P_tellNumber_63 : decode b_P_tellNumber 63 = .ok (.bipush 41, 2) := by decide +kernel
theorem d_P_tellNumber_65 : decode b_P_tellNumber 65 = .ok (.invokevirtual 68, 3) := by decide +kernel
theorem d_P_tellNumber_68 : decode b_P_tellNumber 68 = .ok (.return_, 1) := by decide +kernel
abbrev rm_P_tellNumber : Room := { frames := 5, cells := 0, slots := 0, locals := 107 }
def f_P_tellNumber_54 (x2 : Int32) (M : Mem) : Option Mem :=
  ob (f_P_digit x2 M) fun r56 M56 => om (f_P_putC r56 M56) fun M59 => om (f_P_putC (41 : Int32) M59) fun M65 => some M65
set_option maxRecDepth 100000 in
theorem g_P_tellNumber_54 {M' : Mem} (C : GC p s m args meth c b_P_tellNumber 3 (none) "NoneWords$Speech" TB D vwCl (tysW cI cZ cC) A (ZS sk sv)) {x2 : Int32} {M : Mem} (hf : f_P_tellNumber_54 x2 M = some M') : GW p l e rm_P_tellNumber s m args below meth c (MQ below (QW D vwCl (tysW cI cZ cC) A none (wc ad cI cZ cC M')) args s 0 0 A) D vwCl A 3 0 0 (wc ad cI cZ cC M) 54 [(0, .ref (ad 23)), (2, .int x2)] [] := by
  unfold f_P_tellNumber_54 at hf
  refine gw_aload_n C 0 d_P_tellNumber_54 rfl rfl ?_
  refine gw_iload_n C 1 d_P_tellNumber_55 rfl rfl ?_
  obtain ⟨r56, M56, hc56, hf⟩ := ob_some hf
  refine gw_callSr (rest := [.ref (ad 23)]) C (c_P_digit C.2.2.2.2.2.2.2.2.2.2 hc56) (cwS 1 C.2.2.2.2.1 (gTB_S tw_533 mv_P_digit) rfl rfl rfl pd_P_digit ⟨Nat.le_of_ble_eq_true rfl, Nat.le_of_ble_eq_true rfl⟩) rfl rfl (Nat.le_of_ble_eq_true rfl) d_P_tellNumber_56 ⟨Nat.le_of_ble_eq_true rfl, Nat.le_of_ble_eq_true rfl⟩ ?_
  obtain ⟨M59, hc59, hf⟩ := om_some hf
  refine gw_callVv (rest := []) C 23 wcg_23 clg_2 (c_P_putC C.2.2.2.2.2.2.2.2.2.2 hc59) (cwV 1 C.2.2.2.2.1 (gTB_V tw_501 mv_P_putC) rfl rfl rfl pd_P_putC ⟨Nat.le_of_ble_eq_true rfl, Nat.le_of_ble_eq_true rfl⟩) rfl rfl (Nat.le_of_ble_eq_true rfl) d_P_tellNumber_59 ⟨Nat.le_of_ble_eq_true rfl, Nat.le_of_ble_eq_true rfl⟩ ?_
  refine gw_aload_n C 0 d_P_tellNumber_62 rfl rfl ?_
  refine gw_bipush (v := (41 : Int32)) C d_P_tellNumber_63 (by decide) ?_
  obtain ⟨M65, hc65, hf⟩ := om_some hf
  refine gw_callVv (rest := []) C 23 wcg_23 clg_2 (c_P_putC C.2.2.2.2.2.2.2.2.2.2 hc65) (cwV 1 C.2.2.2.2.1 (gTB_V tw_501 mv_P_putC) rfl rfl rfl pd_P_putC ⟨Nat.le_of_ble_eq_true rfl, Nat.le_of_ble_eq_true rfl⟩) rfl rfl (Nat.le_of_ble_eq_true rfl) d_P_tellNumber_65 ⟨Nat.le_of_ble_eq_true rfl, Nat.le_of_ble_eq_true rfl⟩ ?_
  exact gw_vreti C d_P_tellNumber_68 (wc ad cI cZ cC) hf
def f_P_tellNumber_37 (x2 : Int32) (M : Mem) : Option Mem :=
  if x2 < (10 : Int32) then f_P_tellNumber_54 x2 M else ob (f_P_digit (x2 / (10 : Int32)) M) fun r48 M48 => om (f_P_putC r48 M48) fun M51 => f_P_tellNumber_54 x2 M51
set_option maxRecDepth 100000 in
theorem g_P_tellNumber_37 {M' : Mem} (C : GC p s m args meth c b_P_tellNumber 3 (none) "NoneWords$Speech" TB D vwCl (tysW cI cZ cC) A (ZS sk sv)) {x2 : Int32} {M : Mem} (hf : f_P_tellNumber_37 x2 M = some M') : GW p l e rm_P_tellNumber s m args below meth c (MQ below (QW D vwCl (tysW cI cZ cC) A none (wc ad cI cZ cC M')) args s 0 0 A) D vwCl A 3 0 0 (wc ad cI cZ cC M) 37 [(0, .ref (ad 23)), (2, .int x2)] [] := by
  unfold f_P_tellNumber_37 at hf
  refine gw_iload_n C 1 d_P_tellNumber_37 rfl rfl ?_
  refine gw_bipush (v := (10 : Int32)) C d_P_tellNumber_38 (by decide) ?_
  refine gw_icmp_lt (tgt := 54) C d_P_tellNumber_40 (by decide) (fun c => ?_) (fun c => ?_)
  · have hf := (if_pos c).symm.trans hf
    exact gw_sub [0, 1] rfl (g_P_tellNumber_54 C hf)
  · have hf := (if_neg c).symm.trans hf
    refine gw_aload_n C 0 d_P_tellNumber_43 rfl rfl ?_
    refine gw_iload_n C 1 d_P_tellNumber_44 rfl rfl ?_
    refine gw_bipush (v := (10 : Int32)) C d_P_tellNumber_45 (by decide) ?_
    refine gw_idiv C d_P_tellNumber_47 (by decide) ?_
    obtain ⟨r48, M48, hc48, hf⟩ := ob_some hf
    refine gw_callSr (rest := [.ref (ad 23)]) C (c_P_digit C.2.2.2.2.2.2.2.2.2.2 hc48) (cwS 1 C.2.2.2.2.1 (gTB_S tw_533 mv_P_digit) rfl rfl rfl pd_P_digit ⟨Nat.le_of_ble_eq_true rfl, Nat.le_of_ble_eq_true rfl⟩) rfl rfl (Nat.le_of_ble_eq_true rfl) d_P_tellNumber_48 ⟨Nat.le_of_ble_eq_true rfl, Nat.le_of_ble_eq_true rfl⟩ ?_
    obtain ⟨M51, hc51, hf⟩ := om_some hf
    refine gw_callVv (rest := []) C 23 wcg_23 clg_2 (c_P_putC C.2.2.2.2.2.2.2.2.2.2 hc51) (cwV 1 C.2.2.2.2.1 (gTB_V tw_501 mv_P_putC) rfl rfl rfl pd_P_putC ⟨Nat.le_of_ble_eq_true rfl, Nat.le_of_ble_eq_true rfl⟩) rfl rfl (Nat.le_of_ble_eq_true rfl) d_P_tellNumber_51 ⟨Nat.le_of_ble_eq_true rfl, Nat.le_of_ble_eq_true rfl⟩ ?_
    exact gw_sub [0, 1] rfl (g_P_tellNumber_54 C hf)
def f_P_tellNumber (x1 : Int32) (M : Mem) : Option Mem :=
  ob (f_W_numberOfNode x1 M) fun r5 M5 => if r5 = 0 then some M5 else om (f_P_putS 18 M5) fun M17 => if r5 < (100 : Int32) then f_P_tellNumber_37 r5 M17 else ob (f_P_digit (r5 / (100 : Int32)) M17) fun r31 M31 => om (f_P_putC r31 M31) fun M34 => f_P_tellNumber_37 r5 M34
set_option maxRecDepth 100000 in
theorem g_P_tellNumber {M' : Mem} (C : GC p s m args meth c b_P_tellNumber 3 (none) "NoneWords$Speech" TB D vwCl (tysW cI cZ cC) A (ZS sk sv)) {x1 : Int32} {M : Mem} (hf : f_P_tellNumber x1 M = some M') : GW p l e rm_P_tellNumber s m args below meth c (MQ below (QW D vwCl (tysW cI cZ cC) A none (wc ad cI cZ cC M')) args s 0 0 A) D vwCl A 3 0 0 (wc ad cI cZ cC M) 0 [(0, .ref (ad 23)), (1, .int x1)] [] := by
  unfold f_P_tellNumber at hf
  refine gw_aload_n C 0 d_P_tellNumber_0 rfl rfl ?_
  refine gw_get C in_P 23 wcg_23 clg_2 1 (by decide) tw_187 rfl rfl d_P_tellNumber_1 ?_
  refine gw_iload_n C 1 d_P_tellNumber_4 rfl rfl ?_
  obtain ⟨r5, M5, hc5, hf⟩ := ob_some hf
  refine gw_callVr (rest := []) C 11 wcg_11 clg_3 (c_W_numberOfNode C.2.2.2.2.2.2.2.2.2.2 hc5) (cwV 1 C.2.2.2.2.1 (gTB_V tw_575 mv_W_numberOfNode) rfl rfl rfl pd_W_numberOfNode ⟨Nat.le_of_ble_eq_true rfl, Nat.le_of_ble_eq_true rfl⟩) rfl rfl (Nat.le_of_ble_eq_true rfl) d_P_tellNumber_5 ⟨Nat.le_of_ble_eq_true rfl, Nat.le_of_ble_eq_true rfl⟩ ?_
  refine gw_istore_n (lv' := [(2, .int r5), (0, .ref (ad 23)), (1, .int x1)]) C d_P_tellNumber_8 rfl (by decide) rfl ?_
  refine gw_iload_n C 0 d_P_tellNumber_9 rfl rfl ?_
  refine gw_if_ne (tgt := 14) C d_P_tellNumber_10 (by decide) (fun c => ?_) (fun c => ?_)
  · have hf := (if_neg c).symm.trans hf
    refine gw_aload_n C 1 d_P_tellNumber_14 rfl rfl ?_
    refine gw_ldcS C (C.2.2.2.2.2.2.2.2.2.1.2.1 _ (List.mem_of_getElem? (i := 18) rfl)) d_P_tellNumber_15 ?_
    obtain ⟨M17, hc17, hf⟩ := om_some hf
    refine gw_callVv (rest := []) C 23 wcg_23 clg_2 (c_P_putS C.2.2.2.2.2.2.2.2.2.2 hc17) (cwV 1 C.2.2.2.2.1 (gTB_V tw_449 mv_P_putS) rfl rfl rfl pd_P_putS ⟨Nat.le_of_ble_eq_true rfl, Nat.le_of_ble_eq_true rfl⟩) rfl rfl (Nat.le_of_ble_eq_true rfl) d_P_tellNumber_17 ⟨Nat.le_of_ble_eq_true rfl, Nat.le_of_ble_eq_true rfl⟩ ?_
    refine gw_iload_n C 0 d_P_tellNumber_20 rfl rfl ?_
    refine gw_bipush (v := (100 : Int32)) C d_P_tellNumber_21 (by decide) ?_
    refine gw_icmp_lt (tgt := 37) C d_P_tellNumber_23 (by decide) (fun c => ?_) (fun c => ?_)
    · have hf := (if_pos c).symm.trans hf
      exact gw_sub [1, 0] rfl (g_P_tellNumber_37 C hf)
    · have hf := (if_neg c).symm.trans hf
      refine gw_aload_n C 1 d_P_tellNumber_26 rfl rfl ?_
      refine gw_iload_n C 0 d_P_tellNumber_27 rfl rfl ?_
      refine gw_bipush (v := (100 : Int32)) C d_P_tellNumber_28 (by decide) ?_
      refine gw_idiv C d_P_tellNumber_30 (by decide) ?_
      obtain ⟨r31, M31, hc31, hf⟩ := ob_some hf
      refine gw_callSr (rest := [.ref (ad 23)]) C (c_P_digit C.2.2.2.2.2.2.2.2.2.2 hc31) (cwS 1 C.2.2.2.2.1 (gTB_S tw_533 mv_P_digit) rfl rfl rfl pd_P_digit ⟨Nat.le_of_ble_eq_true rfl, Nat.le_of_ble_eq_true rfl⟩) rfl rfl (Nat.le_of_ble_eq_true rfl) d_P_tellNumber_31 ⟨Nat.le_of_ble_eq_true rfl, Nat.le_of_ble_eq_true rfl⟩ ?_
      obtain ⟨M34, hc34, hf⟩ := om_some hf
      refine gw_callVv (rest := []) C 23 wcg_23 clg_2 (c_P_putC C.2.2.2.2.2.2.2.2.2.2 hc34) (cwV 1 C.2.2.2.2.1 (gTB_V tw_501 mv_P_putC) rfl rfl rfl pd_P_putC ⟨Nat.le_of_ble_eq_true rfl, Nat.le_of_ble_eq_true rfl⟩) rfl rfl (Nat.le_of_ble_eq_true rfl) d_P_tellNumber_34 ⟨Nat.le_of_ble_eq_true rfl, Nat.le_of_ble_eq_true rfl⟩ ?_
      exact gw_sub [1, 0] rfl (g_P_tellNumber_37 C hf)
  · have hf := (if_pos c).symm.trans hf
    exact gw_vreti C d_P_tellNumber_13 (wc ad cI cZ cC) hf
theorem c_P_tellNumber (hZ : gw_ZOK (ZS sk sv)) {x1 : Int32} {M : Mem} {M' : Mem} (hf : f_P_tellNumber x1 M = some M') : CW l y_P_tellNumber ws_P_tellNumber rm_P_tellNumber D vwCl (tysW cI cZ cC) (ZS sk sv) [.ref (ad 23), .int x1] (wc ad cI cZ cC M) none (wc ad cI cZ cC M') 0 0 :=
  CW.ofG hZ (by decide) rfl (Nat.le_of_ble_eq_true rfl) (fun _ _ _ _ _ _ _ _ C _ => g_P_tellNumber C hf)
abbrev b_P_tellSet : ByteArray := prog_4_method_12_code
def y_P_tellSet : MethodName := ⟨"NoneWords$Speech", "tellSet", "(II)V"⟩
abbrev ws_P_tellSet : List Cond := Cond.code y_P_tellSet b_P_tellSet 9 (none) :: TB
set_option maxRecDepth 100000 in
theorem tc_P_tellSet : Cond.code y_P_tellSet b_P_tellSet 9 (none) ∈ TB := inTB 530 rfl rfl
theorem mv_P_tellSet : Cond.instanceMethod y_P_tellSet ∈ TB ∧ Cond.selects "NoneWords$Speech" y_P_tellSet y_P_tellSet ∈ TB ∧ Cond.initialized "NoneWords$Speech" ∈ TB ∧ Cond.code y_P_tellSet b_P_tellSet 9 (none) ∈ TB := ⟨inTB 529 (by decide +kernel) (by decide +kernel), inTB 18 (by decide +kernel) (by decide +kernel), inTB 69 (by decide +kernel) (by decide +kernel), tc_P_tellSet⟩
theorem pd_P_tellSet : y_P_tellSet.cls = "NoneWords$Speech" ∧ y_P_tellSet.cls ≠ "java/lang/invoke/MethodHandle" ∧ y_P_tellSet.cls ≠ "java/lang/invoke/VarHandle" ∧ (parseMethodDescriptor y_P_tellSet.desc).map (fun d => d.parameters.length) = some 2 := by decide +kernel
theorem d_P_tellSet_0 : decode b_P_tellSet 0 = .ok (.iload_n 2, 1) := by decide +kernel
theorem d_P_tellSet_1 : decode b_P_tellSet 1 = .ok (.ifCond .ne 9, 3) := by decide +kernel
theorem d_P_tellSet_4 : decode b_P_tellSet 4 = .ok (.aload_n 0, 1) := by decide +kernel
theorem d_P_tellSet_5 : decode b_P_tellSet 5 = .ok (.ldc 162, 2) := by decide +kernel
theorem d_P_tellSet_7 : decode b_P_tellSet 7 = .ok (.invokevirtual 50, 3) := by decide +kernel
theorem d_P_tellSet_10 : decode b_P_tellSet 10 = .ok (.aload_n 0, 1) := by decide +kernel
theorem d_P_tellSet_11 : decode b_P_tellSet 11 = .ok (.bipush 97, 2) := by decide +kernel
theorem d_P_tellSet_13 : decode b_P_tellSet 13 = .ok (.iload_n 1, 1) := by decide +kernel
theorem d_P_tellSet_14 : decode b_P_tellSet 14 = .ok (.iadd, 1) := by decide +kernel
theorem d_P_tellSet_15 : decode b_P_tellSet 15 = .ok (.i2c, 1) := by decide +kernel
theorem d_P_tellSet_16 : decode b_P_tellSet 16 = .ok (.invokevirtual 68, 3) := by decide +kernel
theorem d_P_tellSet_19 : decode b_P_tellSet 19 = .ok (.iload_n 2, 1) := by decide +kernel
theorem d_P_tellSet_20 : decode b_P_tellSet 20 = .ok (.aload_n 0, 1) := by decide +kernel
theorem d_P_tellSet_21 : decode b_P_tellSet 21 = .ok (.getfield 22, 3) := by decide +kernel
theorem d_P_tellSet_24 : decode b_P_tellSet 24 = .ok (.iload_n 1, 1) := by decide +kernel
theorem d_P_tellSet_25 : decode b_P_tellSet 25 = .ok (.invokevirtual 164, 3) := by decide +kernel
theorem d_P_tellSet_28 : decode b_P_tellSet 28 = .ok (.if_icmp .ne 7, 3) := by decide +kernel
theorem d_P_tellSet_31 : decode b_P_tellSet 31 = .ok (.iconst 0, 1) := by decide +kernel
theorem d_P_tellSet_32 : decode b_P_tellSet 32 = .ok (.goto 4, 3) := by decide +kernel
theorem d_P_tellSet_35 : decode b_P_tellSet 35 = .ok (.iload_n 2, 1) := by decide +kernel
theorem d_P_tellSet_36 : decode b_P_tellSet 36 = .ok (.istore_n 3, 1) := by decide +kernel
theorem d_P_tellSet_37 : decode b_P_tellSet 37 = .ok (.iload_n 3, 1) := by decide +kernel
theorem d_P_tellSet_38 : decode b_P_tellSet 38 = .ok (.iload_n 3, 1) := by decide +kernel
theorem d_P_tellSet_39 : decode b_P_tellSet 39 = .ok (.iconst 1, 1) := by decide +kernel
theorem d_P_tellSet_40 : decode b_P_tellSet 40 = .ok (.ishl, 1) := by decide +kernel
theorem d_P_tellSet_41 : decode b_P_tellSet 41 = .ok (.iconst (-1), 1) := by decide +kernel
theorem d_P_tellSet_42 : decode b_P_tellSet 42 = .ok (.ixor, 1) := by decide +kernel
theorem d_P_tellSet_43 : decode b_P_tellSet 43 = .ok (.iand, 1) := by decide +kernel
theorem d_P_tellSet_44 : decode b_P_tellSet 44 = .ok (.istore 4, 2) := by decide +kernel
theorem d_P_tellSet_46 : decode b_P_tellSet 46 = .ok (.iload_n 3, 1) := by decide +kernel
theorem d_P_tellSet_47 : decode b_P_tellSet 47 = .ok (.iload_n 3, 1) := by decide +kernel
theorem d_P_tellSet_48 : decode b_P_tellSet 48 = .ok (.iconst 1, 1) := by decide +kernel
theorem d_P_tellSet_49 : decode b_P_tellSet 49 = .ok (.ishr, 1) := by decide +kernel
theorem d_P_tellSet_50 : decode b_P_tellSet 50 = .ok (.iconst (-1), 1) := by decide +kernel
theorem d_P_tellSet_51 : decode b_P_tellSet 51 = .ok (.ixor, 1) := by decide +kernel
theorem d_P_tellSet_52 : decode b_P_tellSet 52 = .ok (.iand, 1) := by decide +kernel
theorem d_P_tellSet_53 : decode b_P_tellSet 53 = .ok (.istore 5, 2) := by decide +kernel
theorem d_P_tellSet_55 : decode b_P_tellSet 55 = .ok (.bipush 32, 2) := by decide +kernel
theorem d_P_tellSet_57 : decode b_P_tellSet 57 = .ok (.istore 6, 2) := by decide +kernel
theorem d_P_tellSet_59 : decode b_P_tellSet 59 = .ok (.iconst 0, 1) := by decide +kernel
theorem d_P_tellSet_60 : decode b_P_tellSet 60 = .ok (.istore 7, 2) := by decide +kernel
theorem d_P_tellSet_62 : decode b_P_tellSet 62 = .ok (.iload 7, 2) := by decide +kernel
theorem d_P_tellSet_64 : decode b_P_tellSet 64 = .ok (.iconst 4, 1) := by decide +kernel
theorem d_P_tellSet_65 : decode b_P_tellSet 65 = .ok (.if_icmp .ge 68, 3) := by decide +kernel
theorem d_P_tellSet_68 : decode b_P_tellSet 68 = .ok (.iconst 1, 1) := by decide +kernel
theorem d_P_tellSet_69 : decode b_P_tellSet 69 = .ok (.iload 7, 2) := by decide +kernel
theorem d_P_tellSet_71 : decode b_P_tellSet 71 = .ok (.ishl, 1) := by decide +kernel
theorem d_P_tellSet_72 : decode b_P_tellSet 72 = .ok (.istore 8, 2) := by decide +kernel
theorem d_P_tellSet_74 : decode b_P_tellSet 74 = .ok (.iload 4, 2) := by decide +kernel
theorem d_P_tellSet_76 : decode b_P_tellSet 76 = .ok (.iload 8, 2) := by decide +kernel
theorem d_P_tellSet_78 : decode b_P_tellSet 78 = .ok (.iand, 1) := by decide +kernel
theorem d_P_tellSet_79 : decode b_P_tellSet 79 = .ok (.ifCond .eq 25, 3) := by decide +kernel
theorem d_P_tellSet_82 : decode b_P_tellSet 82 = .ok (.aload_n 0, 1) := by decide +kernel
theorem d_P_tellSet_83 : decode b_P_tellSet 83 = .ok (.iload 6, 2) := by decide +kernel
theorem d_P_tellSet_85 : decode b_P_tellSet 85 = .ok (.invokevirtual 68, 3) := by decide +kernel
theorem d_P_tellSet_88 : decode b_P_tellSet 88 = .ok (.aload_n 0, 1) := by decide +kernel
theorem d_P_tellSet_89 : decode b_P_tellSet 89 = .ok (.iload 7, 2) := by decide +kernel
theorem d_P_tellSet_91 : decode b_P_tellSet 91 = .ok (.invokestatic 84, 3) := by decide +kernel
theorem d_P_tellSet_94 : decode b_P_tellSet 94 = .ok (.invokevirtual 68, 3) := by decide +kernel
theorem d_P_tellSet_97 : decode b_P_tellSet 97 = .ok (.bipush 44, 2) := by decide +kernel
theorem d_P_tellSet_99 : decode b_P_tellSet 99 = .ok (.istore 6, 2) := by decide +kernel
theorem d_P_tellSet_101 : decode b_P_tellSet 101 = .ok (.goto 26, 3) := by decide +kernel
theorem d_P_tellSet_104 : decode b_P_tellSet 104 = .ok (.iload 5, 2) := by decide +kernel
theorem d_P_tellSet_106 : decode b_P_tellSet 106 = .ok (.iload 8, 2) := by decide +kernel
theorem d_P_tellSet_108 : decode b_P_tellSet 108 = .ok (.iand, 1) := by decide +kernel
theorem d_P_tellSet_109 : decode b_P_tellSet 109 = .ok (.ifCond .eq 18, 3) := by decide +kernel
theorem d_P_tellSet_112 : decode b_P_tellSet 112 = .ok (.aload_n 0, 1) := by decide +kernel
theorem d_P_tellSet_113 : decode b_P_tellSet 113 = .ok (.bipush 45, 2) := by decide +kernel
theorem d_P_tellSet_115 : decode b_P_tellSet 115 = .ok (.invokevirtual 68, 3) := by decide +kernel
theorem d_P_tellSet_118 : decode b_P_tellSet 118 = .ok (.aload_n 0, 1) := by decide +kernel
theorem d_P_tellSet_119 : decode b_P_tellSet 119 = .ok (.iload 7, 2) := by decide +kernel
theorem d_P_tellSet_121 : decode b_P_tellSet 121 = .ok (.invokestatic 84, 3) := by decide +kernel
theorem d_P_tellSet_124 : decode b_P_tellSet 124 = .ok (.invokevirtual 68, 3) := by decide +kernel
theorem d_P_tellSet_127 : decode b_P_tellSet 127 = .ok (.iinc 7 1, 3) := by decide +kernel
theorem d_P_tellSet_130 : decode b_P_tellSet 130 = .ok (.goto (-68), 3) := by decide +kernel
theorem d_P_tellSet_133 : decode b_P_tellSet 133 = .ok (.return_, 1) := by decide +kernel
abbrev rm_P_tellSet : Room := { frames := 5, cells := 0, slots := 0, locals := 107 }
def f_P_tellSet_62 : Nat → Int32 → Int32 → Int32 → Int32 → Mem → Option Mem
  | 0, _, _, _, _, _ => none
  | n + 1, x4, x5, x6, x7, M => if (4 : Int32) ≤ x7 then some M else if (x4 &&& ((1 : Int32) <<< (x7 &&& 31))) = 0 then if (x5 &&& ((1 : Int32) <<< (x7 &&& 31))) = 0 then (f_P_tellSet_62 n) x4 x5 x6 (x7 + (1 : Int32)) M else om (f_P_putC (45 : Int32) M) fun M115 => ob (f_P_digit x7 M115) fun r121 M121 => om (f_P_putC r121 M121) fun M124 => (f_P_tellSet_62 n) x4 x5 x6 (x7 + (1 : Int32)) M124 else om (f_P_putC x6 M) fun M85 => ob (f_P_digit x7 M85) fun r91 M91 => om (f_P_putC r91 M91) fun M94 => (f_P_tellSet_62 n) x4 x5 (44 : Int32) (x7 + (1 : Int32)) M94
set_option maxRecDepth 100000 in
theorem g_P_tellSet_62 {M' : Mem} (C : GC p s m args meth c b_P_tellSet 9 (none) "NoneWords$Speech" TB D vwCl (tysW cI cZ cC) A (ZS sk sv)) : ∀ (n : Nat) (x4 : Int32) (x5 : Int32) (x6 : Int32) (x7 : Int32) (M : Mem), f_P_tellSet_62 n x4 x5 x6 x7 M = some M' → GW p l e rm_P_tellSet s m args below meth c (MQ below (QW D vwCl (tysW cI cZ cC) A none (wc ad cI cZ cC M')) args s 0 0 A) D vwCl A 9 0 0 (wc ad cI cZ cC M) 62 [(0, .ref (ad 23)), (4, .int x4), (5, .int x5), (6, .int x6), (7, .int x7)] [] := by
  intro n
  induction n with
  | zero => intro _ _ _ _ _ hf; cases hf
  | succ n ih =>
    intro x4 x5 x6 x7 M hf
    rw [f_P_tellSet_62] at hf
    refine gw_iload C 4 d_P_tellSet_62 rfl ?_
    refine gw_iconst (v := (4 : Int32)) C d_P_tellSet_64 (by decide) ?_
    refine gw_icmp_ge (tgt := 133) C d_P_tellSet_65 (by decide) (fun c => ?_) (fun c => ?_)
    · have hf := (if_pos c).symm.trans hf
      exact gw_vreti C d_P_tellSet_133 (wc ad cI cZ cC) hf
    · have hf := (if_neg c).symm.trans hf
      refine gw_iconst (v := (1 : Int32)) C d_P_tellSet_68 (by decide) ?_
      refine gw_iload C 4 d_P_tellSet_69 rfl ?_
      refine gw_ishl C d_P_tellSet_71 ?_
      refine gw_istore (lv' := [(8, .int ((1 : Int32) <<< (x7 &&& 31))), (0, .ref (ad 23)), (4, .int x4), (5, .int x5), (6, .int x6), (7, .int x7)]) C d_P_tellSet_72 (by decide) rfl ?_
      refine gw_iload C 2 d_P_tellSet_74 rfl ?_
      refine gw_iload C 0 d_P_tellSet_76 rfl ?_
      refine gw_iand C d_P_tellSet_78 ?_
      refine gw_if_eq (tgt := 104) C d_P_tellSet_79 (by decide) (fun c => ?_) (fun c => ?_)
      · have hf := (if_pos c).symm.trans hf
        refine gw_iload C 3 d_P_tellSet_104 rfl ?_
        refine gw_iload C 0 d_P_tellSet_106 rfl ?_
        refine gw_iand C d_P_tellSet_108 ?_
        refine gw_if_eq (tgt := 127) C d_P_tellSet_109 (by decide) (fun c => ?_) (fun c => ?_)
        · have hf := (if_pos c).symm.trans hf
          refine gw_iinc (v := x7 + (1 : Int32)) (lv' := [(7, .int (x7 + (1 : Int32))), (8, .int ((1 : Int32) <<< (x7 &&& 31))), (0, .ref (ad 23)), (4, .int x4), (5, .int x5), (6, .int x6)]) C 5 d_P_tellSet_127 rfl rfl (by decide) rfl ?_
          refine gw_goto (tgt := 62) C d_P_tellSet_130 (by decide) ?_
          exact gw_sub [2, 3, 4, 5, 0] rfl (ih _ _ _ _ _ hf)
        · have hf := (if_neg c).symm.trans hf
          refine gw_aload_n C 1 d_P_tellSet_112 rfl rfl ?_
          refine gw_bipush (v := (45 : Int32)) C d_P_tellSet_113 (by decide) ?_
          obtain ⟨M115, hc115, hf⟩ := om_some hf
          refine gw_callVv (rest := []) C 23 wcg_23 clg_2 (c_P_putC C.2.2.2.2.2.2.2.2.2.2 hc115) (cwV 1 C.2.2.2.2.1 (gTB_V tw_501 mv_P_putC) rfl rfl rfl pd_P_putC ⟨Nat.le_of_ble_eq_true rfl, Nat.le_of_ble_eq_true rfl⟩) rfl rfl (Nat.le_of_ble_eq_true rfl) d_P_tellSet_115 ⟨Nat.le_of_ble_eq_true rfl, Nat.le_of_ble_eq_true rfl⟩ ?_
          refine gw_aload_n C 1 d_P_tellSet_118 rfl rfl ?_
          refine gw_iload C 5 d_P_tellSet_119 rfl ?_
          obtain ⟨r121, M121, hc121, hf⟩ := ob_some hf
          refine gw_callSr (rest := [.ref (ad 23)]) C (c_P_digit C.2.2.2.2.2.2.2.2.2.2 hc121) (cwS 1 C.2.2.2.2.1 (gTB_S tw_533 mv_P_digit) rfl rfl rfl pd_P_digit ⟨Nat.le_of_ble_eq_true rfl, Nat.le_of_ble_eq_true rfl⟩) rfl rfl (Nat.le_of_ble_eq_true rfl) d_P_tellSet_121 ⟨Nat.le_of_ble_eq_true rfl, Nat.le_of_ble_eq_true rfl⟩ ?_
          obtain ⟨M124, hc124, hf⟩ := om_some hf
          refine gw_callVv (rest := []) C 23 wcg_23 clg_2 (c_P_putC C.2.2.2.2.2.2.2.2.2.2 hc124) (cwV 1 C.2.2.2.2.1 (gTB_V tw_501 mv_P_putC) rfl rfl rfl pd_P_putC ⟨Nat.le_of_ble_eq_true rfl, Nat.le_of_ble_eq_true rfl⟩) rfl rfl (Nat.le_of_ble_eq_true rfl) d_P_tellSet_124 ⟨Nat.le_of_ble_eq_true rfl, Nat.le_of_ble_eq_true rfl⟩ ?_
          refine gw_iinc (v := x7 + (1 : Int32)) (lv' := [(7, .int (x7 + (1 : Int32))), (8, .int ((1 : Int32) <<< (x7 &&& 31))), (0, .ref (ad 23)), (4, .int x4), (5, .int x5), (6, .int x6)]) C 5 d_P_tellSet_127 rfl rfl (by decide) rfl ?_
          refine gw_goto (tgt := 62) C d_P_tellSet_130 (by decide) ?_
          exact gw_sub [2, 3, 4, 5, 0] rfl (ih _ _ _ _ _ hf)
      · have hf := (if_neg c).symm.trans hf
        refine gw_aload_n C 1 d_P_tellSet_82 rfl rfl ?_
        refine gw_iload C 4 d_P_tellSet_83 rfl ?_
        obtain ⟨M85, hc85, hf⟩ := om_some hf
        refine gw_callVv (rest := []) C 23 wcg_23 clg_2 (c_P_putC C.2.2.2.2.2.2.2.2.2.2 hc85) (cwV 1 C.2.2.2.2.1 (gTB_V tw_501 mv_P_putC) rfl rfl rfl pd_P_putC ⟨Nat.le_of_ble_eq_true rfl, Nat.le_of_ble_eq_true rfl⟩) rfl rfl (Nat.le_of_ble_eq_true rfl) d_P_tellSet_85 ⟨Nat.le_of_ble_eq_true rfl, Nat.le_of_ble_eq_true rfl⟩ ?_
        refine gw_aload_n C 1 d_P_tellSet_88 rfl rfl ?_
        refine gw_iload C 5 d_P_tellSet_89 rfl ?_
        obtain ⟨r91, M91, hc91, hf⟩ := ob_some hf
        refine gw_callSr (rest := [.ref (ad 23)]) C (c_P_digit C.2.2.2.2.2.2.2.2.2.2 hc91) (cwS 1 C.2.2.2.2.1 (gTB_S tw_533 mv_P_digit) rfl rfl rfl pd_P_digit ⟨Nat.le_of_ble_eq_true rfl, Nat.le_of_ble_eq_true rfl⟩) rfl rfl (Nat.le_of_ble_eq_true rfl) d_P_tellSet_91 ⟨Nat.le_of_ble_eq_true rfl, Nat.le_of_ble_eq_true rfl⟩ ?_
        obtain ⟨M94, hc94, hf⟩ := om_some hf
        refine gw_callVv (rest := []) C 23 wcg_23 clg_2 (c_P_putC C.2.2.2.2.2.2.2.2.2.2 hc94) (cwV 1 C.2.2.2.2.1 (gTB_V tw_501 mv_P_putC) rfl rfl rfl pd_P_putC ⟨Nat.le_of_ble_eq_true rfl, Nat.le_of_ble_eq_true rfl⟩) rfl rfl (Nat.le_of_ble_eq_true rfl) d_P_tellSet_94 ⟨Nat.le_of_ble_eq_true rfl, Nat.le_of_ble_eq_true rfl⟩ ?_
        refine gw_bipush (v := (44 : Int32)) C d_P_tellSet_97 (by decide) ?_
        refine gw_istore (lv' := [(6, .int (44 : Int32)), (8, .int ((1 : Int32) <<< (x7 &&& 31))), (0, .ref (ad 23)), (4, .int x4), (5, .int x5), (7, .int x7)]) C d_P_tellSet_99 (by decide) rfl ?_
        refine gw_goto (tgt := 127) C d_P_tellSet_101 (by decide) ?_
        refine gw_iinc (v := x7 + (1 : Int32)) (lv' := [(7, .int (x7 + (1 : Int32))), (6, .int (44 : Int32)), (8, .int ((1 : Int32) <<< (x7 &&& 31))), (0, .ref (ad 23)), (4, .int x4), (5, .int x5)]) C 5 d_P_tellSet_127 rfl rfl (by decide) rfl ?_
        refine gw_goto (tgt := 62) C d_P_tellSet_130 (by decide) ?_
        exact gw_sub [3, 4, 5, 1, 0] rfl (ih _ _ _ _ _ hf)
def f_P_tellSet_36 (y0 : Int32) (M : Mem) : Option Mem :=
  f_P_tellSet_62 100000 (y0 &&& ((y0 <<< ((1 : Int32) &&& 31)) ^^^ (-1 : Int32))) (y0 &&& ((y0 >>> ((1 : Int32) &&& 31)) ^^^ (-1 : Int32))) (32 : Int32) (0 : Int32) M
set_option maxRecDepth 100000 in
theorem g_P_tellSet_36 {M' : Mem} (C : GC p s m args meth c b_P_tellSet 9 (none) "NoneWords$Speech" TB D vwCl (tysW cI cZ cC) A (ZS sk sv)) {y0 : Int32} {M : Mem} (hf : f_P_tellSet_36 y0 M = some M') : GW p l e rm_P_tellSet s m args below meth c (MQ below (QW D vwCl (tysW cI cZ cC) A none (wc ad cI cZ cC M')) args s 0 0 A) D vwCl A 9 0 0 (wc ad cI cZ cC M) 36 [(0, .ref (ad 23))] [.int y0] := by
  unfold f_P_tellSet_36 at hf
  refine gw_istore_n (lv' := [(3, .int y0), (0, .ref (ad 23))]) C d_P_tellSet_36 rfl (by decide) rfl ?_
  refine gw_iload_n C 0 d_P_tellSet_37 rfl rfl ?_
  refine gw_iload_n C 0 d_P_tellSet_38 rfl rfl ?_
  refine gw_iconst (v := (1 : Int32)) C d_P_tellSet_39 (by decide) ?_
  refine gw_ishl C d_P_tellSet_40 ?_
  refine gw_iconst (v := (-1 : Int32)) C d_P_tellSet_41 (by decide) ?_
  refine gw_ixor C d_P_tellSet_42 ?_
  refine gw_iand C d_P_tellSet_43 ?_
  refine gw_istore (lv' := [(4, .int (y0 &&& ((y0 <<< ((1 : Int32) &&& 31)) ^^^ (-1 : Int32)))), (3, .int y0), (0, .ref (ad 23))]) C d_P_tellSet_44 (by decide) rfl ?_
  refine gw_iload_n C 1 d_P_tellSet_46 rfl rfl ?_
  refine gw_iload_n C 1 d_P_tellSet_47 rfl rfl ?_
  refine gw_iconst (v := (1 : Int32)) C d_P_tellSet_48 (by decide) ?_
  refine gw_ishr C d_P_tellSet_49 ?_
  refine gw_iconst (v := (-1 : Int32)) C d_P_tellSet_50 (by decide) ?_
  refine gw_ixor C d_P_tellSet_51 ?_
  refine gw_iand C d_P_tellSet_52 ?_
  refine gw_istore (lv' := [(5, .int (y0 &&& ((y0 >>> ((1 : Int32) &&& 31)) ^^^ (-1 : Int32)))), (4, .int (y0 &&& ((y0 <<< ((1 : Int32) &&& 31)) ^^^ (-1 : Int32)))), (3, .int y0), (0, .ref (ad 23))]) C d_P_tellSet_53 (by decide) rfl ?_
  refine gw_bipush (v := (32 : Int32)) C d_P_tellSet_55 (by decide) ?_
  refine gw_istore (lv' := [(6, .int (32 : Int32)), (5, .int (y0 &&& ((y0 >>> ((1 : Int32) &&& 31)) ^^^ (-1 : Int32)))), (4, .int (y0 &&& ((y0 <<< ((1 : Int32) &&& 31)) ^^^ (-1 : Int32)))), (3, .int y0), (0, .ref (ad 23))]) C d_P_tellSet_57 (by decide) rfl ?_
  refine gw_iconst (v := (0 : Int32)) C d_P_tellSet_59 (by decide) ?_
  refine gw_istore (lv' := [(7, .int (0 : Int32)), (6, .int (32 : Int32)), (5, .int (y0 &&& ((y0 >>> ((1 : Int32) &&& 31)) ^^^ (-1 : Int32)))), (4, .int (y0 &&& ((y0 <<< ((1 : Int32) &&& 31)) ^^^ (-1 : Int32)))), (3, .int y0), (0, .ref (ad 23))]) C d_P_tellSet_60 (by decide) rfl ?_
  exact gw_sub [5, 3, 2, 1, 0] rfl (g_P_tellSet_62 C _ _ _ _ _ _ hf)
def f_P_tellSet_10 (x1 : Int32) (x2 : Int32) (M : Mem) : Option Mem :=
  om (f_P_putC ((((97 : Int32) + x1).toUInt32 % 65536).toInt32) M) fun M16 => ob (f_F_allVersions x1 M16) fun r25 M25 => if x2 = r25 then f_P_tellSet_36 (0 : Int32) M25 else f_P_tellSet_36 x2 M25
set_option maxRecDepth 100000 in
theorem g_P_tellSet_10 {M' : Mem} (C : GC p s m args meth c b_P_tellSet 9 (none) "NoneWords$Speech" TB D vwCl (tysW cI cZ cC) A (ZS sk sv)) {x1 : Int32} {x2 : Int32} {M : Mem} (hf : f_P_tellSet_10 x1 x2 M = some M') : GW p l e rm_P_tellSet s m args below meth c (MQ below (QW D vwCl (tysW cI cZ cC) A none (wc ad cI cZ cC M')) args s 0 0 A) D vwCl A 9 0 0 (wc ad cI cZ cC M) 10 [(0, .ref (ad 23)), (1, .int x1), (2, .int x2)] [] := by
  unfold f_P_tellSet_10 at hf
  refine gw_aload_n C 0 d_P_tellSet_10 rfl rfl ?_
  refine gw_bipush (v := (97 : Int32)) C d_P_tellSet_11 (by decide) ?_
  refine gw_iload_n C 1 d_P_tellSet_13 rfl rfl ?_
  refine gw_iadd C d_P_tellSet_14 ?_
  refine gw_i2c C d_P_tellSet_15 ?_
  obtain ⟨M16, hc16, hf⟩ := om_some hf
  refine gw_callVv (rest := []) C 23 wcg_23 clg_2 (c_P_putC C.2.2.2.2.2.2.2.2.2.2 hc16) (cwV 1 C.2.2.2.2.1 (gTB_V tw_501 mv_P_putC) rfl rfl rfl pd_P_putC ⟨Nat.le_of_ble_eq_true rfl, Nat.le_of_ble_eq_true rfl⟩) rfl rfl (Nat.le_of_ble_eq_true rfl) d_P_tellSet_16 ⟨Nat.le_of_ble_eq_true rfl, Nat.le_of_ble_eq_true rfl⟩ ?_
  refine gw_iload_n C 2 d_P_tellSet_19 rfl rfl ?_
  refine gw_aload_n C 0 d_P_tellSet_20 rfl rfl ?_
  refine gw_get C in_P 23 wcg_23 clg_2 0 (by decide) tw_186 rfl rfl d_P_tellSet_21 ?_
  refine gw_iload_n C 1 d_P_tellSet_24 rfl rfl ?_
  obtain ⟨r25, M25, hc25, hf⟩ := ob_some hf
  refine gw_callVr (rest := [.int x2]) C 1 wcg_1 clg_0 (c_F_allVersions C.2.2.2.2.2.2.2.2.2.2 hc25) (cwV 1 C.2.2.2.2.1 (gTB_V tw_532 mv_F_allVersions) rfl rfl rfl pd_F_allVersions ⟨Nat.le_of_ble_eq_true rfl, Nat.le_of_ble_eq_true rfl⟩) rfl rfl (Nat.le_of_ble_eq_true rfl) d_P_tellSet_25 ⟨Nat.le_of_ble_eq_true rfl, Nat.le_of_ble_eq_true rfl⟩ ?_
  refine gw_icmp_ne (tgt := 35) C d_P_tellSet_28 (by decide) (fun c => ?_) (fun c => ?_)
  · have hf := (if_neg c).symm.trans hf
    refine gw_iload_n C 2 d_P_tellSet_35 rfl rfl ?_
    exact gw_sub [0] rfl (g_P_tellSet_36 C hf)
  · have hf := (if_pos c).symm.trans hf
    refine gw_iconst (v := (0 : Int32)) C d_P_tellSet_31 (by decide) ?_
    refine gw_goto (tgt := 36) C d_P_tellSet_32 (by decide) ?_
    exact gw_sub [0] rfl (g_P_tellSet_36 C hf)
def f_P_tellSet (x1 : Int32) (x2 : Int32) (M : Mem) : Option Mem :=
  if x2 = 0 then om (f_P_putS 6 M) fun M7 => f_P_tellSet_10 x1 x2 M7 else f_P_tellSet_10 x1 x2 M
set_option maxRecDepth 100000 in
theorem g_P_tellSet {M' : Mem} (C : GC p s m args meth c b_P_tellSet 9 (none) "NoneWords$Speech" TB D vwCl (tysW cI cZ cC) A (ZS sk sv)) {x1 : Int32} {x2 : Int32} {M : Mem} (hf : f_P_tellSet x1 x2 M = some M') : GW p l e rm_P_tellSet s m args below meth c (MQ below (QW D vwCl (tysW cI cZ cC) A none (wc ad cI cZ cC M')) args s 0 0 A) D vwCl A 9 0 0 (wc ad cI cZ cC M) 0 [(0, .ref (ad 23)), (1, .int x1), (2, .int x2)] [] := by
  unfold f_P_tellSet at hf
  refine gw_iload_n C 2 d_P_tellSet_0 rfl rfl ?_
  refine gw_if_ne (tgt := 10) C d_P_tellSet_1 (by decide) (fun c => ?_) (fun c => ?_)
  · have hf := (if_neg c).symm.trans hf
    exact gw_sub [0, 1, 2] rfl (g_P_tellSet_10 C hf)
  · have hf := (if_pos c).symm.trans hf
    refine gw_aload_n C 0 d_P_tellSet_4 rfl rfl ?_
    refine gw_ldcS C (C.2.2.2.2.2.2.2.2.2.1.2.1 _ (List.mem_of_getElem? (i := 6) rfl)) d_P_tellSet_5 ?_
    obtain ⟨M7, hc7, hf⟩ := om_some hf
    refine gw_callVv (rest := []) C 23 wcg_23 clg_2 (c_P_putS C.2.2.2.2.2.2.2.2.2.2 hc7) (cwV 1 C.2.2.2.2.1 (gTB_V tw_449 mv_P_putS) rfl rfl rfl pd_P_putS ⟨Nat.le_of_ble_eq_true rfl, Nat.le_of_ble_eq_true rfl⟩) rfl rfl (Nat.le_of_ble_eq_true rfl) d_P_tellSet_7 ⟨Nat.le_of_ble_eq_true rfl, Nat.le_of_ble_eq_true rfl⟩ ?_
    exact gw_sub [0, 1, 2] rfl (g_P_tellSet_10 C hf)
theorem c_P_tellSet (hZ : gw_ZOK (ZS sk sv)) {x1 : Int32} {x2 : Int32} {M : Mem} {M' : Mem} (hf : f_P_tellSet x1 x2 M = some M') : CW l y_P_tellSet ws_P_tellSet rm_P_tellSet D vwCl (tysW cI cZ cC) (ZS sk sv) [.ref (ad 23), .int x1, .int x2] (wc ad cI cZ cC M) none (wc ad cI cZ cC M') 0 0 :=
  CW.ofG hZ (by decide) rfl (Nat.le_of_ble_eq_true rfl) (fun _ _ _ _ _ _ _ _ C _ => g_P_tellSet C hf)
abbrev b_P_tellLeaf : ByteArray := prog_4_method_9_code
def y_P_tellLeaf : MethodName := ⟨"NoneWords$Speech", "tellLeaf", "(I)V"⟩
abbrev ws_P_tellLeaf : List Cond := Cond.code y_P_tellLeaf b_P_tellLeaf 2 (none) :: TB
set_option maxRecDepth 100000 in
theorem tc_P_tellLeaf : Cond.code y_P_tellLeaf b_P_tellLeaf 2 (none) ∈ TB := inTB 546 rfl rfl
theorem mv_P_tellLeaf : Cond.instanceMethod y_P_tellLeaf ∈ TB ∧ Cond.selects "NoneWords$Speech" y_P_tellLeaf y_P_tellLeaf ∈ TB ∧ Cond.initialized "NoneWords$Speech" ∈ TB ∧ Cond.code y_P_tellLeaf b_P_tellLeaf 2 (none) ∈ TB := ⟨inTB 545 (by decide +kernel) (by decide +kernel), inTB 19 (by decide +kernel) (by decide +kernel), inTB 69 (by decide +kernel) (by decide +kernel), tc_P_tellLeaf⟩
theorem pd_P_tellLeaf : y_P_tellLeaf.cls = "NoneWords$Speech" ∧ y_P_tellLeaf.cls ≠ "java/lang/invoke/MethodHandle" ∧ y_P_tellLeaf.cls ≠ "java/lang/invoke/VarHandle" ∧ (parseMethodDescriptor y_P_tellLeaf.desc).map (fun d => d.parameters.length) = some 1 := by decide +kernel
theorem d_P_tellLeaf_0 : decode b_P_tellLeaf 0 = .ok (.aload_n 0, 1) := by decide +kernel
theorem d_P_tellLeaf_1 : decode b_P_tellLeaf 1 = .ok (.aload_n 0, 1) := by decide +kernel
theorem d_P_tellLeaf_2 : decode b_P_tellLeaf 2 = .ok (.getfield 22, 3) := by decide +kernel
theorem d_P_tellLeaf_5 : decode b_P_tellLeaf 5 = .ok (.iload_n 1, 1) := by decide +kernel
theorem d_P_tellLeaf_6 : decode b_P_tellLeaf 6 = .ok (.invokevirtual 99, 3) := by decide +kernel
theorem d_P_tellLeaf_9 : decode b_P_tellLeaf 9 = .ok (.aload_n 0, 1) := by decide +kernel
theorem d_P_tellLeaf_10 : decode b_P_tellLeaf 10 = .ok (.getfield 22, 3) := by decide +kernel
theorem d_P_tellLeaf_13 : decode b_P_tellLeaf 13 = .ok (.iload_n 1, 1) := by decide +kernel
theorem d_P_tellLeaf_14 : decode b_P_tellLeaf 14 = .ok (.invokevirtual 102, 3) := by decide +kernel
theorem d_P_tellLeaf_17 : decode b_P_tellLeaf 17 = .ok (.invokevirtual 105, 3) := by decide +kernel
theorem d_P_tellLeaf_20 : decode b_P_tellLeaf 20 = .ok (.aload_n 0, 1) := by decide +kernel
theorem d_P_tellLeaf_21 : decode b_P_tellLeaf 21 = .ok (.getfield 22, 3) := by decide +kernel
theorem d_P_tellLeaf_24 : decode b_P_tellLeaf 24 = .ok (.iload_n 1, 1) := by decide +kernel
theorem d_P_tellLeaf_25 : decode b_P_tellLeaf 25 = .ok (.invokevirtual 109, 3) := by decide +kernel
theorem d_P_tellLeaf_28 : decode b_P_tellLeaf 28 = .ok (.tableswitch 75 0 2 #[28, 37, 66], 28) := by decide +kernel
theorem d_P_tellLeaf_56 : decode b_P_tellLeaf 56 = .ok (.aload_n 0, 1) := by decide +kernel
theorem d_P_tellLeaf_57 : decode b_P_tellLeaf 57 = .ok (.ldc 112, 2) := by decide +kernel
theorem d_P_tellLeaf_59 : decode b_P_tellLeaf 59 = .ok (.invokevirtual 50, 3) := by decide +kernel
theorem d_P_tellLeaf_62 : decode b_P_tellLeaf 62 = .ok (.goto 67, 3) := by decide +kernel
theorem d_P_tellLeaf_65 : decode b_P_tellLeaf 65 = .ok (.aload_n 0, 1) := by decide +kernel
theorem d_P_tellLeaf_66 : decode b_P_tellLeaf 66 = .ok (.ldc 114, 2) := by decide +kernel
theorem d_P_tellLeaf_68 : decode b_P_tellLeaf 68 = .ok (.invokevirtual 50, 3) := by decide +kernel
theorem d_P_tellLeaf_71 : decode b_P_tellLeaf 71 = .ok (.aload_n 0, 1) := by decide +kernel
theorem d_P_tellLeaf_72 : decode b_P_tellLeaf 72 = .ok (.aload_n 0, 1) := by decide +kernel
theorem d_P_tellLeaf_73 : decode b_P_tellLeaf 73 = .ok (.getfield 22, 3) := by decide +kernel
theorem d_P_tellLeaf_76 : decode b_P_tellLeaf 76 = .ok (.iload_n 1, 1) := by decide +kernel
theorem d_P_tellLeaf_77 : decode b_P_tellLeaf 77 = .ok (.invokevirtual 116, 3) := by decide +kernel
theorem d_P_tellLeaf_80 : decode b_P_tellLeaf 80 = .ok (.aload_n 0, 1) := by decide +kernel
theorem d_P_tellLeaf_81 : decode b_P_tellLeaf 81 = .ok (.getfield 22, 3) := by decide +kernel
theorem d_P_tellLeaf_84 : decode b_P_tellLeaf 84 = .ok (.iload_n 1, 1) := by decide +kernel
theorem d_P_tellLeaf_85 : decode b_P_tellLeaf 85 = .ok (.invokevirtual 119, 3) := by decide +kernel
theorem d_P_tellLeaf_88 : decode b_P_tellLeaf 88 = .ok (.invokevirtual 105, 3) := by decide +kernel
theorem d_P_tellLeaf_91 : decode b_P_tellLeaf 91 = .ok (.goto 38, 3) := by decide +kernel
theorem d_P_tellLeaf_94 : decode b_P_tellLeaf 94 = .ok (.aload_n 0, 1) := by decide +kernel
theorem d_P_tellLeaf_95 : decode b_P_tellLeaf 95 = .ok (.ldc 122, 2) := by decide +kernel
theorem d_P_tellLeaf_97 : decode b_P_tellLeaf 97 = .ok (.invokevirtual 50, 3) := by decide +kernel
theorem d_P_tellLeaf_100 : decode b_P_tellLeaf 100 = .ok (.goto 29, 3) := by decide +kernel
theorem d_P_tellLeaf_103 : decode b_P_tellLeaf 103 = .ok (.aload_n 0, 1) := by decide +kernel
theorem d_P_tellLeaf_104 : decode b_P_tellLeaf 104 = .ok (.ldc 124, 2) := by decide +kernel
theorem d_P_tellLeaf_106 : decode b_P_tellLeaf 106 = .ok (.invokevirtual 50, 3) := by decide +kernel
theorem d_P_tellLeaf_109 : decode b_P_tellLeaf 109 = .ok (.aload_n 0, 1) := by decide +kernel
theorem d_P_tellLeaf_110 : decode b_P_tellLeaf 110 = .ok (.aload_n 0, 1) := by decide +kernel
theorem d_P_tellLeaf_111 : decode b_P_tellLeaf 111 = .ok (.getfield 22, 3) := by decide +kernel
theorem d_P_tellLeaf_114 : decode b_P_tellLeaf 114 = .ok (.iload_n 1, 1) := by decide +kernel
theorem d_P_tellLeaf_115 : decode b_P_tellLeaf 115 = .ok (.invokevirtual 116, 3) := by decide +kernel
theorem d_P_tellLeaf_118 : decode b_P_tellLeaf 118 = .ok (.aload_n 0, 1) := by decide +kernel
theorem d_P_tellLeaf_119 : decode b_P_tellLeaf 119 = .ok (.getfield 22, 3) := by decide +kernel
theorem d_P_tellLeaf_122 : decode b_P_tellLeaf 122 = .ok (.iload_n 1, 1) := by decide +kernel
theorem d_P_tellLeaf_123 : decode b_P_tellLeaf 123 = .ok (.invokevirtual 119, 3) := by decide +kernel
theorem d_P_tellLeaf_126 : decode b_P_tellLeaf 126 = .ok (.invokevirtual 105, 3) := by decide +kernel
theorem d_P_tellLeaf_129 : decode b_P_tellLeaf 129 = .ok (.return_, 1) := by decide +kernel
abbrev rm_P_tellLeaf : Room := { frames := 6, cells := 0, slots := 0, locals := 135 }
def f_P_tellLeaf (x1 : Int32) (M : Mem) : Option Mem :=
  ob (f_F_toldName x1 M) fun r6 M6 => ob (f_F_toldSet x1 M6) fun r14 M14 => om (f_P_tellSet r6 r14 M14) fun M17 => ob (f_F_kindOf x1 M17) fun r25 M25 => if r25 = (0 : Int32) then om (f_P_putS 14 M25) fun M59 => some M59 else if r25 = (1 : Int32) then om (f_P_putS 15 M25) fun M68 => ob (f_F_toldOther x1 M68) fun r77 M77 => ob (f_F_toldOtherSet x1 M77) fun r85 M85 => om (f_P_tellSet r77 r85 M85) fun M88 => some M88 else if r25 = (2 : Int32) then om (f_P_putS 16 M25) fun M97 => some M97 else om (f_P_putS 17 M25) fun M106 => ob (f_F_toldOther x1 M106) fun r115 M115 => ob (f_F_toldOtherSet x1 M115) fun r123 M123 => om (f_P_tellSet r115 r123 M123) fun M126 => some M126
set_option maxRecDepth 100000 in
theorem g_P_tellLeaf {M' : Mem} (C : GC p s m args meth c b_P_tellLeaf 2 (none) "NoneWords$Speech" TB D vwCl (tysW cI cZ cC) A (ZS sk sv)) {x1 : Int32} {M : Mem} (hf : f_P_tellLeaf x1 M = some M') : GW p l e rm_P_tellLeaf s m args below meth c (MQ below (QW D vwCl (tysW cI cZ cC) A none (wc ad cI cZ cC M')) args s 0 0 A) D vwCl A 2 0 0 (wc ad cI cZ cC M) 0 [(0, .ref (ad 23)), (1, .int x1)] [] := by
  unfold f_P_tellLeaf at hf
  refine gw_aload_n C 0 d_P_tellLeaf_0 rfl rfl ?_
  refine gw_aload_n C 0 d_P_tellLeaf_1 rfl rfl ?_
  refine gw_get C in_P 23 wcg_23 clg_2 0 (by decide) tw_186 rfl rfl d_P_tellLeaf_2 ?_
  refine gw_iload_n C 1 d_P_tellLeaf_5 rfl rfl ?_
  obtain ⟨r6, M6, hc6, hf⟩ := ob_some hf
  refine gw_callVr (rest := [.ref (ad 23)]) C 1 wcg_1 clg_0 (c_F_toldName C.2.2.2.2.2.2.2.2.2.2 hc6) (cwV 1 C.2.2.2.2.1 (gTB_V tw_547 mv_F_toldName) rfl rfl rfl pd_F_toldName ⟨Nat.le_of_ble_eq_true rfl, Nat.le_of_ble_eq_true rfl⟩) rfl rfl (Nat.le_of_ble_eq_true rfl) d_P_tellLeaf_6 ⟨Nat.le_of_ble_eq_true rfl, Nat.le_of_ble_eq_true rfl⟩ ?_
  refine gw_aload_n C 0 d_P_tellLeaf_9 rfl rfl ?_
  refine gw_get C in_P 23 wcg_23 clg_2 0 (by decide) tw_186 rfl rfl d_P_tellLeaf_10 ?_
  refine gw_iload_n C 1 d_P_tellLeaf_13 rfl rfl ?_
  obtain ⟨r14, M14, hc14, hf⟩ := ob_some hf
  refine gw_callVr (rest := [.int r6, .ref (ad 23)]) C 1 wcg_1 clg_0 (c_F_toldSet C.2.2.2.2.2.2.2.2.2.2 hc14) (cwV 1 C.2.2.2.2.1 (gTB_V tw_551 mv_F_toldSet) rfl rfl rfl pd_F_toldSet ⟨Nat.le_of_ble_eq_true rfl, Nat.le_of_ble_eq_true rfl⟩) rfl rfl (Nat.le_of_ble_eq_true rfl) d_P_tellLeaf_14 ⟨Nat.le_of_ble_eq_true rfl, Nat.le_of_ble_eq_true rfl⟩ ?_
  obtain ⟨M17, hc17, hf⟩ := om_some hf
  refine gw_callVv (rest := []) C 23 wcg_23 clg_2 (c_P_tellSet C.2.2.2.2.2.2.2.2.2.2 hc17) (cwV 2 C.2.2.2.2.1 (gTB_V tw_527 mv_P_tellSet) rfl rfl rfl pd_P_tellSet ⟨Nat.le_of_ble_eq_true rfl, Nat.le_of_ble_eq_true rfl⟩) rfl rfl (Nat.le_of_ble_eq_true rfl) d_P_tellLeaf_17 ⟨Nat.le_of_ble_eq_true rfl, Nat.le_of_ble_eq_true rfl⟩ ?_
  refine gw_aload_n C 0 d_P_tellLeaf_20 rfl rfl ?_
  refine gw_get C in_P 23 wcg_23 clg_2 0 (by decide) tw_186 rfl rfl d_P_tellLeaf_21 ?_
  refine gw_iload_n C 1 d_P_tellLeaf_24 rfl rfl ?_
  obtain ⟨r25, M25, hc25, hf⟩ := ob_some hf
  refine gw_callVr (rest := []) C 1 wcg_1 clg_0 (c_F_kindOf C.2.2.2.2.2.2.2.2.2.2 hc25) (cwV 1 C.2.2.2.2.1 (gTB_V tw_555 mv_F_kindOf) rfl rfl rfl pd_F_kindOf ⟨Nat.le_of_ble_eq_true rfl, Nat.le_of_ble_eq_true rfl⟩) rfl rfl (Nat.le_of_ble_eq_true rfl) d_P_tellLeaf_25 ⟨Nat.le_of_ble_eq_true rfl, Nat.le_of_ble_eq_true rfl⟩ ?_
  by_cases c0 : r25 = (0 : Int32)
  · have hf := (if_pos c0).symm.trans hf
    refine gw_tableIn (tgt := 56) C (0 : Int32) c0 d_P_tellLeaf_28 (by decide) (by decide) rfl (by decide) ?_
    refine gw_aload_n C 0 d_P_tellLeaf_56 rfl rfl ?_
    refine gw_ldcS C (C.2.2.2.2.2.2.2.2.2.1.2.1 _ (List.mem_of_getElem? (i := 14) rfl)) d_P_tellLeaf_57 ?_
    obtain ⟨M59, hc59, hf⟩ := om_some hf
    refine gw_callVv (rest := []) C 23 wcg_23 clg_2 (c_P_putS C.2.2.2.2.2.2.2.2.2.2 hc59) (cwV 1 C.2.2.2.2.1 (gTB_V tw_449 mv_P_putS) rfl rfl rfl pd_P_putS ⟨Nat.le_of_ble_eq_true rfl, Nat.le_of_ble_eq_true rfl⟩) rfl rfl (Nat.le_of_ble_eq_true rfl) d_P_tellLeaf_59 ⟨Nat.le_of_ble_eq_true rfl, Nat.le_of_ble_eq_true rfl⟩ ?_
    refine gw_goto (tgt := 129) C d_P_tellLeaf_62 (by decide) ?_
    exact gw_vreti C d_P_tellLeaf_129 (wc ad cI cZ cC) hf
  · have hf := (if_neg c0).symm.trans hf
    by_cases c1 : r25 = (1 : Int32)
    · have hf := (if_pos c1).symm.trans hf
      refine gw_tableIn (tgt := 65) C (1 : Int32) c1 d_P_tellLeaf_28 (by decide) (by decide) rfl (by decide) ?_
      refine gw_aload_n C 0 d_P_tellLeaf_65 rfl rfl ?_
      refine gw_ldcS C (C.2.2.2.2.2.2.2.2.2.1.2.1 _ (List.mem_of_getElem? (i := 15) rfl)) d_P_tellLeaf_66 ?_
      obtain ⟨M68, hc68, hf⟩ := om_some hf
      refine gw_callVv (rest := []) C 23 wcg_23 clg_2 (c_P_putS C.2.2.2.2.2.2.2.2.2.2 hc68) (cwV 1 C.2.2.2.2.1 (gTB_V tw_449 mv_P_putS) rfl rfl rfl pd_P_putS ⟨Nat.le_of_ble_eq_true rfl, Nat.le_of_ble_eq_true rfl⟩) rfl rfl (Nat.le_of_ble_eq_true rfl) d_P_tellLeaf_68 ⟨Nat.le_of_ble_eq_true rfl, Nat.le_of_ble_eq_true rfl⟩ ?_
      refine gw_aload_n C 0 d_P_tellLeaf_71 rfl rfl ?_
      refine gw_aload_n C 0 d_P_tellLeaf_72 rfl rfl ?_
      refine gw_get C in_P 23 wcg_23 clg_2 0 (by decide) tw_186 rfl rfl d_P_tellLeaf_73 ?_
      refine gw_iload_n C 1 d_P_tellLeaf_76 rfl rfl ?_
      obtain ⟨r77, M77, hc77, hf⟩ := ob_some hf
      refine gw_callVr (rest := [.ref (ad 23)]) C 1 wcg_1 clg_0 (c_F_toldOther C.2.2.2.2.2.2.2.2.2.2 hc77) (cwV 1 C.2.2.2.2.1 (gTB_V tw_561 mv_F_toldOther) rfl rfl rfl pd_F_toldOther ⟨Nat.le_of_ble_eq_true rfl, Nat.le_of_ble_eq_true rfl⟩) rfl rfl (Nat.le_of_ble_eq_true rfl) d_P_tellLeaf_77 ⟨Nat.le_of_ble_eq_true rfl, Nat.le_of_ble_eq_true rfl⟩ ?_
      refine gw_aload_n C 0 d_P_tellLeaf_80 rfl rfl ?_
      refine gw_get C in_P 23 wcg_23 clg_2 0 (by decide) tw_186 rfl rfl d_P_tellLeaf_81 ?_
      refine gw_iload_n C 1 d_P_tellLeaf_84 rfl rfl ?_
      obtain ⟨r85, M85, hc85, hf⟩ := ob_some hf
      refine gw_callVr (rest := [.int r77, .ref (ad 23)]) C 1 wcg_1 clg_0 (c_F_toldOtherSet C.2.2.2.2.2.2.2.2.2.2 hc85) (cwV 1 C.2.2.2.2.1 (gTB_V tw_565 mv_F_toldOtherSet) rfl rfl rfl pd_F_toldOtherSet ⟨Nat.le_of_ble_eq_true rfl, Nat.le_of_ble_eq_true rfl⟩) rfl rfl (Nat.le_of_ble_eq_true rfl) d_P_tellLeaf_85 ⟨Nat.le_of_ble_eq_true rfl, Nat.le_of_ble_eq_true rfl⟩ ?_
      obtain ⟨M88, hc88, hf⟩ := om_some hf
      refine gw_callVv (rest := []) C 23 wcg_23 clg_2 (c_P_tellSet C.2.2.2.2.2.2.2.2.2.2 hc88) (cwV 2 C.2.2.2.2.1 (gTB_V tw_527 mv_P_tellSet) rfl rfl rfl pd_P_tellSet ⟨Nat.le_of_ble_eq_true rfl, Nat.le_of_ble_eq_true rfl⟩) rfl rfl (Nat.le_of_ble_eq_true rfl) d_P_tellLeaf_88 ⟨Nat.le_of_ble_eq_true rfl, Nat.le_of_ble_eq_true rfl⟩ ?_
      refine gw_goto (tgt := 129) C d_P_tellLeaf_91 (by decide) ?_
      exact gw_vreti C d_P_tellLeaf_129 (wc ad cI cZ cC) hf
    · have hf := (if_neg c1).symm.trans hf
      by_cases c2 : r25 = (2 : Int32)
      · have hf := (if_pos c2).symm.trans hf
        refine gw_tableIn (tgt := 94) C (2 : Int32) c2 d_P_tellLeaf_28 (by decide) (by decide) rfl (by decide) ?_
        refine gw_aload_n C 0 d_P_tellLeaf_94 rfl rfl ?_
        refine gw_ldcS C (C.2.2.2.2.2.2.2.2.2.1.2.1 _ (List.mem_of_getElem? (i := 16) rfl)) d_P_tellLeaf_95 ?_
        obtain ⟨M97, hc97, hf⟩ := om_some hf
        refine gw_callVv (rest := []) C 23 wcg_23 clg_2 (c_P_putS C.2.2.2.2.2.2.2.2.2.2 hc97) (cwV 1 C.2.2.2.2.1 (gTB_V tw_449 mv_P_putS) rfl rfl rfl pd_P_putS ⟨Nat.le_of_ble_eq_true rfl, Nat.le_of_ble_eq_true rfl⟩) rfl rfl (Nat.le_of_ble_eq_true rfl) d_P_tellLeaf_97 ⟨Nat.le_of_ble_eq_true rfl, Nat.le_of_ble_eq_true rfl⟩ ?_
        refine gw_goto (tgt := 129) C d_P_tellLeaf_100 (by decide) ?_
        exact gw_vreti C d_P_tellLeaf_129 (wc ad cI cZ cC) hf
      · have hf := (if_neg c2).symm.trans hf
        refine gw_tableOut (tgt := 103) C d_P_tellLeaf_28 (by have zc0 := lv_neT c0 (a := 0) (by decide); have zc1 := lv_neT c1 (a := 1) (by decide); have zc2 := lv_neT c2 (a := 2) (by decide); omega) (by decide) ?_
        refine gw_aload_n C 0 d_P_tellLeaf_103 rfl rfl ?_
        refine gw_ldcS C (C.2.2.2.2.2.2.2.2.2.1.2.1 _ (List.mem_of_getElem? (i := 17) rfl)) d_P_tellLeaf_104 ?_
        obtain ⟨M106, hc106, hf⟩ := om_some hf
        refine gw_callVv (rest := []) C 23 wcg_23 clg_2 (c_P_putS C.2.2.2.2.2.2.2.2.2.2 hc106) (cwV 1 C.2.2.2.2.1 (gTB_V tw_449 mv_P_putS) rfl rfl rfl pd_P_putS ⟨Nat.le_of_ble_eq_true rfl, Nat.le_of_ble_eq_true rfl⟩) rfl rfl (Nat.le_of_ble_eq_true rfl) d_P_tellLeaf_106 ⟨Nat.le_of_ble_eq_true rfl, Nat.le_of_ble_eq_true rfl⟩ ?_
        refine gw_aload_n C 0 d_P_tellLeaf_109 rfl rfl ?_
        refine gw_aload_n C 0 d_P_tellLeaf_110 rfl rfl ?_
        refine gw_get C in_P 23 wcg_23 clg_2 0 (by decide) tw_186 rfl rfl d_P_tellLeaf_111 ?_
        refine gw_iload_n C 1 d_P_tellLeaf_114 rfl rfl ?_
        obtain ⟨r115, M115, hc115, hf⟩ := ob_some hf
        refine gw_callVr (rest := [.ref (ad 23)]) C 1 wcg_1 clg_0 (c_F_toldOther C.2.2.2.2.2.2.2.2.2.2 hc115) (cwV 1 C.2.2.2.2.1 (gTB_V tw_561 mv_F_toldOther) rfl rfl rfl pd_F_toldOther ⟨Nat.le_of_ble_eq_true rfl, Nat.le_of_ble_eq_true rfl⟩) rfl rfl (Nat.le_of_ble_eq_true rfl) d_P_tellLeaf_115 ⟨Nat.le_of_ble_eq_true rfl, Nat.le_of_ble_eq_true rfl⟩ ?_
        refine gw_aload_n C 0 d_P_tellLeaf_118 rfl rfl ?_
        refine gw_get C in_P 23 wcg_23 clg_2 0 (by decide) tw_186 rfl rfl d_P_tellLeaf_119 ?_
        refine gw_iload_n C 1 d_P_tellLeaf_122 rfl rfl ?_
        obtain ⟨r123, M123, hc123, hf⟩ := ob_some hf
        refine gw_callVr (rest := [.int r115, .ref (ad 23)]) C 1 wcg_1 clg_0 (c_F_toldOtherSet C.2.2.2.2.2.2.2.2.2.2 hc123) (cwV 1 C.2.2.2.2.1 (gTB_V tw_565 mv_F_toldOtherSet) rfl rfl rfl pd_F_toldOtherSet ⟨Nat.le_of_ble_eq_true rfl, Nat.le_of_ble_eq_true rfl⟩) rfl rfl (Nat.le_of_ble_eq_true rfl) d_P_tellLeaf_123 ⟨Nat.le_of_ble_eq_true rfl, Nat.le_of_ble_eq_true rfl⟩ ?_
        obtain ⟨M126, hc126, hf⟩ := om_some hf
        refine gw_callVv (rest := []) C 23 wcg_23 clg_2 (c_P_tellSet C.2.2.2.2.2.2.2.2.2.2 hc126) (cwV 2 C.2.2.2.2.1 (gTB_V tw_527 mv_P_tellSet) rfl rfl rfl pd_P_tellSet ⟨Nat.le_of_ble_eq_true rfl, Nat.le_of_ble_eq_true rfl⟩) rfl rfl (Nat.le_of_ble_eq_true rfl) d_P_tellLeaf_126 ⟨Nat.le_of_ble_eq_true rfl, Nat.le_of_ble_eq_true rfl⟩ ?_
        exact gw_vreti C d_P_tellLeaf_129 (wc ad cI cZ cC) hf
theorem c_P_tellLeaf (hZ : gw_ZOK (ZS sk sv)) {x1 : Int32} {M : Mem} {M' : Mem} (hf : f_P_tellLeaf x1 M = some M') : CW l y_P_tellLeaf ws_P_tellLeaf rm_P_tellLeaf D vwCl (tysW cI cZ cC) (ZS sk sv) [.ref (ad 23), .int x1] (wc ad cI cZ cC M) none (wc ad cI cZ cC M') 0 0 :=
  CW.ofG hZ (by decide) rfl (Nat.le_of_ble_eq_true rfl) (fun _ _ _ _ _ _ _ _ C _ => g_P_tellLeaf C hf)
abbrev b_P_tellTerms : ByteArray := prog_4_method_11_code
def y_P_tellTerms : MethodName := ⟨"NoneWords$Speech", "tellTerms", "(IZLjava/lang/String;)V"⟩
abbrev ws_P_tellTerms : List Cond := Cond.code y_P_tellTerms b_P_tellTerms 6 (none) :: TB
set_option maxRecDepth 100000 in
theorem tc_P_tellTerms : Cond.code y_P_tellTerms b_P_tellTerms 6 (none) ∈ TB := inTB 520 rfl rfl
theorem mv_P_tellTerms : Cond.instanceMethod y_P_tellTerms ∈ TB ∧ Cond.selects "NoneWords$Speech" y_P_tellTerms y_P_tellTerms ∈ TB ∧ Cond.initialized "NoneWords$Speech" ∈ TB ∧ Cond.code y_P_tellTerms b_P_tellTerms 6 (none) ∈ TB := ⟨inTB 519 (by decide +kernel) (by decide +kernel), inTB 17 (by decide +kernel) (by decide +kernel), inTB 69 (by decide +kernel) (by decide +kernel), tc_P_tellTerms⟩
theorem pd_P_tellTerms : y_P_tellTerms.cls = "NoneWords$Speech" ∧ y_P_tellTerms.cls ≠ "java/lang/invoke/MethodHandle" ∧ y_P_tellTerms.cls ≠ "java/lang/invoke/VarHandle" ∧ (parseMethodDescriptor y_P_tellTerms.desc).map (fun d => d.parameters.length) = some 3 := by decide +kernel
theorem d_P_tellTerms_0 : decode b_P_tellTerms 0 = .ok (.iconst 0, 1) := by decide +kernel
theorem d_P_tellTerms_1 : decode b_P_tellTerms 1 = .ok (.istore 4, 2) := by decide +kernel
theorem d_P_tellTerms_3 : decode b_P_tellTerms 3 = .ok (.iconst 0, 1) := by decide +kernel
theorem d_P_tellTerms_4 : decode b_P_tellTerms 4 = .ok (.istore 5, 2) := by decide +kernel
theorem d_P_tellTerms_6 : decode b_P_tellTerms 6 = .ok (.iload 5, 2) := by decide +kernel
theorem d_P_tellTerms_8 : decode b_P_tellTerms 8 = .ok (.aload_n 0, 1) := by decide +kernel
theorem d_P_tellTerms_9 : decode b_P_tellTerms 9 = .ok (.getfield 22, 3) := by decide +kernel
theorem d_P_tellTerms_12 : decode b_P_tellTerms 12 = .ok (.invokevirtual 150, 3) := by decide +kernel
theorem d_P_tellTerms_15 : decode b_P_tellTerms 15 = .ok (.if_icmp .ge 52, 3) := by decide +kernel
theorem d_P_tellTerms_18 : decode b_P_tellTerms 18 = .ok (.aload_n 0, 1) := by decide +kernel
theorem d_P_tellTerms_19 : decode b_P_tellTerms 19 = .ok (.getfield 22, 3) := by decide +kernel
theorem d_P_tellTerms_22 : decode b_P_tellTerms 22 = .ok (.iload_n 1, 1) := by decide +kernel
theorem d_P_tellTerms_23 : decode b_P_tellTerms 23 = .ok (.iload 5, 2) := by decide +kernel
theorem d_P_tellTerms_25 : decode b_P_tellTerms 25 = .ok (.iload_n 2, 1) := by decide +kernel
theorem d_P_tellTerms_26 : decode b_P_tellTerms 26 = .ok (.invokevirtual 154, 3) := by decide +kernel
theorem d_P_tellTerms_29 : decode b_P_tellTerms 29 = .ok (.ifCond .eq 32, 3) := by decide +kernel
theorem d_P_tellTerms_32 : decode b_P_tellTerms 32 = .ok (.iload 4, 2) := by decide +kernel
theorem d_P_tellTerms_34 : decode b_P_tellTerms 34 = .ok (.ifCond .eq 8, 3) := by decide +kernel
theorem d_P_tellTerms_37 : decode b_P_tellTerms 37 = .ok (.aload_n 0, 1) := by decide +kernel
theorem d_P_tellTerms_38 : decode b_P_tellTerms 38 = .ok (.aload_n 3, 1) := by decide +kernel
theorem d_P_tellTerms_39 : decode b_P_tellTerms 39 = .ok (.invokevirtual 50, 3) := by decide +kernel
theorem d_P_tellTerms_42 : decode b_P_tellTerms 42 = .ok (.aload_n 0, 1) := by decide +kernel
theorem d_P_tellTerms_43 : decode b_P_tellTerms 43 = .ok (.iload 5, 2) := by decide +kernel
theorem d_P_tellTerms_45 : decode b_P_tellTerms 45 = .ok (.aload_n 0, 1) := by decide +kernel
theorem d_P_tellTerms_46 : decode b_P_tellTerms 46 = .ok (.getfield 22, 3) := by decide +kernel
theorem d_P_tellTerms_49 : decode b_P_tellTerms 49 = .ok (.iload_n 1, 1) := by decide +kernel
theorem d_P_tellTerms_50 : decode b_P_tellTerms 50 = .ok (.iload 5, 2) := by decide +kernel
theorem d_P_tellTerms_52 : decode b_P_tellTerms 52 = .ok (.invokevirtual 158, 3) := by decide +kernel
theorem d_P_tellTerms_55 : decode b_P_tellTerms 55 = .ok (.invokevirtual 105, 3) := by decide +kernel
theorem d_P_tellTerms_58 : decode b_P_tellTerms 58 = .ok (.iconst 1, 1) := by decide +kernel
theorem d_P_tellTerms_59 : decode b_P_tellTerms 59 = .ok (.istore 4, 2) := by decide +kernel
theorem d_P_tellTerms_61 : decode b_P_tellTerms 61 = .ok (.iinc 5 1, 3) := by decide +kernel
theorem d_P_tellTerms_64 : decode b_P_tellTerms 64 = .ok (.goto (-58), 3) := by decide +kernel
theorem d_P_tellTerms_67 : decode b_P_tellTerms 67 = .ok (.return_, 1) := by decide +kernel
abbrev rm_P_tellTerms : Room := { frames := 6, cells := 0, slots := 0, locals := 135 }
def f_P_tellTerms_42 (k6 : Int32 → Int32 → Nat → Int32 → Int32 → Mem → Option Mem) (x1 : Int32) (x2 : Int32) (x3 : Nat) (x5 : Int32) (M : Mem) : Option Mem :=
  ob (f_F_setOfTerm x1 x5 M) fun r52 M52 => om (f_P_tellSet x5 r52 M52) fun M55 => k6 x1 x2 x3 (1 : Int32) (x5 + (1 : Int32)) M55
set_option maxRecDepth 100000 in
theorem g_P_tellTerms_42 {M' : Mem} (C : GC p s m args meth c b_P_tellTerms 6 (none) "NoneWords$Speech" TB D vwCl (tysW cI cZ cC) A (ZS sk sv)) {k6 : Int32 → Int32 → Nat → Int32 → Int32 → Mem → Option Mem} (hk6 : ∀ (x1 : Int32) (x2 : Int32) (x3 : Nat) (x4 : Int32) (x5 : Int32) (M : Mem), k6 x1 x2 x3 x4 x5 M = some M' → GW p l e rm_P_tellTerms s m args below meth c (MQ below (QW D vwCl (tysW cI cZ cC) A none (wc ad cI cZ cC M')) args s 0 0 A) D vwCl A 6 0 0 (wc ad cI cZ cC M) 6 [(0, .ref (ad 23)), (1, .int x1), (2, .int x2), (3, .ref (sk x3)), (4, .int x4), (5, .int x5)] []) {x1 : Int32} {x2 : Int32} {x3 : Nat} {x5 : Int32} {M : Mem} (hf : f_P_tellTerms_42 k6 x1 x2 x3 x5 M = some M') : GW p l e rm_P_tellTerms s m args below meth c (MQ below (QW D vwCl (tysW cI cZ cC) A none (wc ad cI cZ cC M')) args s 0 0 A) D vwCl A 6 0 0 (wc ad cI cZ cC M) 42 [(0, .ref (ad 23)), (1, .int x1), (2, .int x2), (3, .ref (sk x3)), (5, .int x5)] [] := by
  unfold f_P_tellTerms_42 at hf
  refine gw_aload_n C 0 d_P_tellTerms_42 rfl rfl ?_
  refine gw_iload C 4 d_P_tellTerms_43 rfl ?_
  refine gw_aload_n C 0 d_P_tellTerms_45 rfl rfl ?_
  refine gw_get C in_P 23 wcg_23 clg_2 0 (by decide) tw_186 rfl rfl d_P_tellTerms_46 ?_
  refine gw_iload_n C 1 d_P_tellTerms_49 rfl rfl ?_
  refine gw_iload C 4 d_P_tellTerms_50 rfl ?_
  obtain ⟨r52, M52, hc52, hf⟩ := ob_some hf
  refine gw_callVr (rest := [.int x5, .ref (ad 23)]) C 1 wcg_1 clg_0 (c_F_setOfTerm C.2.2.2.2.2.2.2.2.2.2 hc52) (cwV 2 C.2.2.2.2.1 (gTB_V tw_526 mv_F_setOfTerm) rfl rfl rfl pd_F_setOfTerm ⟨Nat.le_of_ble_eq_true rfl, Nat.le_of_ble_eq_true rfl⟩) rfl rfl (Nat.le_of_ble_eq_true rfl) d_P_tellTerms_52 ⟨Nat.le_of_ble_eq_true rfl, Nat.le_of_ble_eq_true rfl⟩ ?_
  obtain ⟨M55, hc55, hf⟩ := om_some hf
  refine gw_callVv (rest := []) C 23 wcg_23 clg_2 (c_P_tellSet C.2.2.2.2.2.2.2.2.2.2 hc55) (cwV 2 C.2.2.2.2.1 (gTB_V tw_527 mv_P_tellSet) rfl rfl rfl pd_P_tellSet ⟨Nat.le_of_ble_eq_true rfl, Nat.le_of_ble_eq_true rfl⟩) rfl rfl (Nat.le_of_ble_eq_true rfl) d_P_tellTerms_55 ⟨Nat.le_of_ble_eq_true rfl, Nat.le_of_ble_eq_true rfl⟩ ?_
  refine gw_iconst (v := (1 : Int32)) C d_P_tellTerms_58 (by decide) ?_
  refine gw_istore (lv' := [(4, .int (1 : Int32)), (0, .ref (ad 23)), (1, .int x1), (2, .int x2), (3, .ref (sk x3)), (5, .int x5)]) C d_P_tellTerms_59 (by decide) rfl ?_
  refine gw_iinc (v := x5 + (1 : Int32)) (lv' := [(5, .int (x5 + (1 : Int32))), (4, .int (1 : Int32)), (0, .ref (ad 23)), (1, .int x1), (2, .int x2), (3, .ref (sk x3))]) C 5 d_P_tellTerms_61 rfl rfl (by decide) rfl ?_
  refine gw_goto (tgt := 6) C d_P_tellTerms_64 (by decide) ?_
  exact gw_sub [2, 3, 4, 5, 1, 0] rfl (hk6 _ _ _ _ _ _ hf)
def f_P_tellTerms_6 : Nat → Int32 → Int32 → Nat → Int32 → Int32 → Mem → Option Mem
  | 0, _, _, _, _, _, _ => none
  | n + 1, x1, x2, x3, x4, x5, M => ob (f_F_countNames M) fun r12 M12 => if r12 ≤ x5 then some M12 else ob (f_F_hasTermOf x1 x5 x2 M12) fun r26 M26 => if r26 = 0 then (f_P_tellTerms_6 n) x1 x2 x3 x4 (x5 + (1 : Int32)) M26 else if x4 = 0 then f_P_tellTerms_42 (f_P_tellTerms_6 n) x1 x2 x3 x5 M26 else om (f_P_putS x3 M26) fun M39 => f_P_tellTerms_42 (f_P_tellTerms_6 n) x1 x2 x3 x5 M39
set_option maxRecDepth 100000 in
theorem g_P_tellTerms_6 {M' : Mem} (C : GC p s m args meth c b_P_tellTerms 6 (none) "NoneWords$Speech" TB D vwCl (tysW cI cZ cC) A (ZS sk sv)) : ∀ (n : Nat) (x1 : Int32) (x2 : Int32) (x3 : Nat) (x4 : Int32) (x5 : Int32) (M : Mem), f_P_tellTerms_6 n x1 x2 x3 x4 x5 M = some M' → GW p l e rm_P_tellTerms s m args below meth c (MQ below (QW D vwCl (tysW cI cZ cC) A none (wc ad cI cZ cC M')) args s 0 0 A) D vwCl A 6 0 0 (wc ad cI cZ cC M) 6 [(0, .ref (ad 23)), (1, .int x1), (2, .int x2), (3, .ref (sk x3)), (4, .int x4), (5, .int x5)] [] := by
  intro n
  induction n with
  | zero => intro _ _ _ _ _ _ hf; cases hf
  | succ n ih =>
    intro x1 x2 x3 x4 x5 M hf
    rw [f_P_tellTerms_6] at hf
    refine gw_iload C 5 d_P_tellTerms_6 rfl ?_
    refine gw_aload_n C 0 d_P_tellTerms_8 rfl rfl ?_
    refine gw_get C in_P 23 wcg_23 clg_2 0 (by decide) tw_186 rfl rfl d_P_tellTerms_9 ?_
    obtain ⟨r12, M12, hc12, hf⟩ := ob_some hf
    refine gw_callVr (rest := [.int x5]) C 1 wcg_1 clg_0 (c_F_countNames C.2.2.2.2.2.2.2.2.2.2 hc12) (cwV 0 C.2.2.2.2.1 (gTB_V tw_521 mv_F_countNames) rfl rfl rfl pd_F_countNames ⟨Nat.le_of_ble_eq_true rfl, Nat.le_of_ble_eq_true rfl⟩) rfl rfl (Nat.le_of_ble_eq_true rfl) d_P_tellTerms_12 ⟨Nat.le_of_ble_eq_true rfl, Nat.le_of_ble_eq_true rfl⟩ ?_
    refine gw_icmp_ge (tgt := 67) C d_P_tellTerms_15 (by decide) (fun c => ?_) (fun c => ?_)
    · have hf := (if_pos c).symm.trans hf
      exact gw_vreti C d_P_tellTerms_67 (wc ad cI cZ cC) hf
    · have hf := (if_neg c).symm.trans hf
      refine gw_aload_n C 0 d_P_tellTerms_18 rfl rfl ?_
      refine gw_get C in_P 23 wcg_23 clg_2 0 (by decide) tw_186 rfl rfl d_P_tellTerms_19 ?_
      refine gw_iload_n C 1 d_P_tellTerms_22 rfl rfl ?_
      refine gw_iload C 5 d_P_tellTerms_23 rfl ?_
      refine gw_iload_n C 2 d_P_tellTerms_25 rfl rfl ?_
      obtain ⟨r26, M26, hc26, hf⟩ := ob_some hf
      refine gw_callVr (rest := []) C 1 wcg_1 clg_0 (c_F_hasTermOf C.2.2.2.2.2.2.2.2.2.2 hc26) (cwV 3 C.2.2.2.2.1 (gTB_V tw_525 mv_F_hasTermOf) rfl rfl rfl pd_F_hasTermOf ⟨Nat.le_of_ble_eq_true rfl, Nat.le_of_ble_eq_true rfl⟩) rfl rfl (Nat.le_of_ble_eq_true rfl) d_P_tellTerms_26 ⟨Nat.le_of_ble_eq_true rfl, Nat.le_of_ble_eq_true rfl⟩ ?_
      refine gw_if_eq (tgt := 61) C d_P_tellTerms_29 (by decide) (fun c => ?_) (fun c => ?_)
      · have hf := (if_pos c).symm.trans hf
        refine gw_iinc (v := x5 + (1 : Int32)) (lv' := [(5, .int (x5 + (1 : Int32))), (0, .ref (ad 23)), (1, .int x1), (2, .int x2), (3, .ref (sk x3)), (4, .int x4)]) C 5 d_P_tellTerms_61 rfl rfl (by decide) rfl ?_
        refine gw_goto (tgt := 6) C d_P_tellTerms_64 (by decide) ?_
        exact gw_sub [1, 2, 3, 4, 5, 0] rfl (ih _ _ _ _ _ _ hf)
      · have hf := (if_neg c).symm.trans hf
        refine gw_iload C 4 d_P_tellTerms_32 rfl ?_
        refine gw_if_eq (tgt := 42) C d_P_tellTerms_34 (by decide) (fun c => ?_) (fun c => ?_)
        · have hf := (if_pos c).symm.trans hf
          exact gw_sub [0, 1, 2, 3, 5] rfl (g_P_tellTerms_42 C ih hf)
        · have hf := (if_neg c).symm.trans hf
          refine gw_aload_n C 0 d_P_tellTerms_37 rfl rfl ?_
          refine gw_aload_n C 3 d_P_tellTerms_38 rfl rfl ?_
          obtain ⟨M39, hc39, hf⟩ := om_some hf
          refine gw_callVv (rest := []) C 23 wcg_23 clg_2 (c_P_putS C.2.2.2.2.2.2.2.2.2.2 hc39) (cwV 1 C.2.2.2.2.1 (gTB_V tw_449 mv_P_putS) rfl rfl rfl pd_P_putS ⟨Nat.le_of_ble_eq_true rfl, Nat.le_of_ble_eq_true rfl⟩) rfl rfl (Nat.le_of_ble_eq_true rfl) d_P_tellTerms_39 ⟨Nat.le_of_ble_eq_true rfl, Nat.le_of_ble_eq_true rfl⟩ ?_
          exact gw_sub [0, 1, 2, 3, 5] rfl (g_P_tellTerms_42 C ih hf)
def f_P_tellTerms (x1 : Int32) (x2 : Int32) (x3 : Nat) (M : Mem) : Option Mem :=
  f_P_tellTerms_6 100000 x1 x2 x3 (0 : Int32) (0 : Int32) M
set_option maxRecDepth 100000 in
theorem g_P_tellTerms {M' : Mem} (C : GC p s m args meth c b_P_tellTerms 6 (none) "NoneWords$Speech" TB D vwCl (tysW cI cZ cC) A (ZS sk sv)) {x1 : Int32} {x2 : Int32} {x3 : Nat} {M : Mem} (hf : f_P_tellTerms x1 x2 x3 M = some M') : GW p l e rm_P_tellTerms s m args below meth c (MQ below (QW D vwCl (tysW cI cZ cC) A none (wc ad cI cZ cC M')) args s 0 0 A) D vwCl A 6 0 0 (wc ad cI cZ cC M) 0 [(0, .ref (ad 23)), (1, .int x1), (2, .int x2), (3, .ref (sk x3))] [] := by
  unfold f_P_tellTerms at hf
  refine gw_iconst (v := (0 : Int32)) C d_P_tellTerms_0 (by decide) ?_
  refine gw_istore (lv' := [(4, .int (0 : Int32)), (0, .ref (ad 23)), (1, .int x1), (2, .int x2), (3, .ref (sk x3))]) C d_P_tellTerms_1 (by decide) rfl ?_
  refine gw_iconst (v := (0 : Int32)) C d_P_tellTerms_3 (by decide) ?_
  refine gw_istore (lv' := [(5, .int (0 : Int32)), (4, .int (0 : Int32)), (0, .ref (ad 23)), (1, .int x1), (2, .int x2), (3, .ref (sk x3))]) C d_P_tellTerms_4 (by decide) rfl ?_
  exact gw_sub [2, 3, 4, 5, 1, 0] rfl (g_P_tellTerms_6 C _ _ _ _ _ _ _ hf)
theorem c_P_tellTerms (hZ : gw_ZOK (ZS sk sv)) {x1 : Int32} {x2 : Int32} {x3 : Nat} {M : Mem} {M' : Mem} (hf : f_P_tellTerms x1 x2 x3 M = some M') : CW l y_P_tellTerms ws_P_tellTerms rm_P_tellTerms D vwCl (tysW cI cZ cC) (ZS sk sv) [.ref (ad 23), .int x1, .int x2, .ref (sk x3)] (wc ad cI cZ cC M) none (wc ad cI cZ cC M') 0 0 :=
  CW.ofG hZ (by decide) rfl (Nat.le_of_ble_eq_true rfl) (fun _ _ _ _ _ _ _ _ C _ => g_P_tellTerms C hf)
abbrev b_P_tellJoin : ByteArray := prog_4_method_10_code
def y_P_tellJoin : MethodName := ⟨"NoneWords$Speech", "tellJoin", "(I)V"⟩
abbrev ws_P_tellJoin : List Cond := Cond.code y_P_tellJoin b_P_tellJoin 4 (none) :: TB
set_option maxRecDepth 100000 in
theorem tc_P_tellJoin : Cond.code y_P_tellJoin b_P_tellJoin 4 (none) ∈ TB := inTB 513 rfl rfl
theorem mv_P_tellJoin : Cond.instanceMethod y_P_tellJoin ∈ TB ∧ Cond.selects "NoneWords$Speech" y_P_tellJoin y_P_tellJoin ∈ TB ∧ Cond.initialized "NoneWords$Speech" ∈ TB ∧ Cond.code y_P_tellJoin b_P_tellJoin 4 (none) ∈ TB := ⟨inTB 512 (by decide +kernel) (by decide +kernel), inTB 16 (by decide +kernel) (by decide +kernel), inTB 69 (by decide +kernel) (by decide +kernel), tc_P_tellJoin⟩
theorem pd_P_tellJoin : y_P_tellJoin.cls = "NoneWords$Speech" ∧ y_P_tellJoin.cls ≠ "java/lang/invoke/MethodHandle" ∧ y_P_tellJoin.cls ≠ "java/lang/invoke/VarHandle" ∧ (parseMethodDescriptor y_P_tellJoin.desc).map (fun d => d.parameters.length) = some 1 := by decide +kernel
theorem d_P_tellJoin_0 : decode b_P_tellJoin 0 = .ok (.aload_n 0, 1) := by decide +kernel
theorem d_P_tellJoin_1 : decode b_P_tellJoin 1 = .ok (.getfield 22, 3) := by decide +kernel
theorem d_P_tellJoin_4 : decode b_P_tellJoin 4 = .ok (.iload_n 1, 1) := by decide +kernel
theorem d_P_tellJoin_5 : decode b_P_tellJoin 5 = .ok (.iconst 1, 1) := by decide +kernel
theorem d_P_tellJoin_6 : decode b_P_tellJoin 6 = .ok (.invokevirtual 126, 3) := by decide +kernel
theorem d_P_tellJoin_9 : decode b_P_tellJoin 9 = .ok (.istore_n 2, 1) := by decide +kernel
theorem d_P_tellJoin_10 : decode b_P_tellJoin 10 = .ok (.aload_n 0, 1) := by decide +kernel
theorem d_P_tellJoin_11 : decode b_P_tellJoin 11 = .ok (.getfield 22, 3) := by decide +kernel
theorem d_P_tellJoin_14 : decode b_P_tellJoin 14 = .ok (.iload_n 1, 1) := by decide +kernel
theorem d_P_tellJoin_15 : decode b_P_tellJoin 15 = .ok (.iconst 0, 1) := by decide +kernel
theorem d_P_tellJoin_16 : decode b_P_tellJoin 16 = .ok (.invokevirtual 126, 3) := by decide +kernel
theorem d_P_tellJoin_19 : decode b_P_tellJoin 19 = .ok (.istore_n 3, 1) := by decide +kernel
theorem d_P_tellJoin_20 : decode b_P_tellJoin 20 = .ok (.iload_n 2, 1) := by decide +kernel
theorem d_P_tellJoin_21 : decode b_P_tellJoin 21 = .ok (.ifCond .ne 16, 3) := by decide +kernel
theorem d_P_tellJoin_24 : decode b_P_tellJoin 24 = .ok (.iload_n 3, 1) := by decide +kernel
theorem d_P_tellJoin_25 : decode b_P_tellJoin 25 = .ok (.ifCond .ne 12, 3) := by decide +kernel
theorem d_P_tellJoin_28 : decode b_P_tellJoin 28 = .ok (.aload_n 0, 1) := by decide +kernel
theorem d_P_tellJoin_29 : decode b_P_tellJoin 29 = .ok (.ldc 130, 2) := by decide +kernel
theorem d_P_tellJoin_31 : decode b_P_tellJoin 31 = .ok (.invokevirtual 50, 3) := by decide +kernel
theorem d_P_tellJoin_34 : decode b_P_tellJoin 34 = .ok (.goto 97, 3) := by decide +kernel
theorem d_P_tellJoin_37 : decode b_P_tellJoin 37 = .ok (.iload_n 3, 1) := by decide +kernel
theorem d_P_tellJoin_38 : decode b_P_tellJoin 38 = .ok (.ifCond .ne 40, 3) := by decide +kernel
theorem d_P_tellJoin_41 : decode b_P_tellJoin 41 = .ok (.aload_n 0, 1) := by decide +kernel
theorem d_P_tellJoin_42 : decode b_P_tellJoin 42 = .ok (.iload_n 1, 1) := by decide +kernel
theorem d_P_tellJoin_43 : decode b_P_tellJoin 43 = .ok (.iconst 1, 1) := by decide +kernel
theorem d_P_tellJoin_44 : decode b_P_tellJoin 44 = .ok (.ldc 61, 2) := by decide +kernel
theorem d_P_tellJoin_46 : decode b_P_tellJoin 46 = .ok (.invokevirtual 132, 3) := by decide +kernel
theorem d_P_tellJoin_49 : decode b_P_tellJoin 49 = .ok (.aload_n 0, 1) := by decide +kernel
theorem d_P_tellJoin_50 : decode b_P_tellJoin 50 = .ok (.iload_n 2, 1) := by decide +kernel
theorem d_P_tellJoin_51 : decode b_P_tellJoin 51 = .ok (.iconst 1, 1) := by decide +kernel
theorem d_P_tellJoin_52 : decode b_P_tellJoin 52 = .ok (.if_icmp .ne 8, 3) := by decide +kernel
theorem d_P_tellJoin_55 : decode b_P_tellJoin 55 = .ok (.ldc 136, 2) := by decide +kernel
theorem d_P_tellJoin_57 : decode b_P_tellJoin 57 = .ok (.goto 15, 3) := by decide +kernel
theorem d_P_tellJoin_60 : decode b_P_tellJoin 60 = .ok (.iload_n 2, 1) := by decide +kernel
theorem d_P_tellJoin_61 : decode b_P_tellJoin 61 = .ok (.iconst 2, 1) := by decide +kernel
theorem d_P_tellJoin_62 : decode b_P_tellJoin 62 = .ok (.if_icmp .ne 8, 3) := by decide +kernel
theorem d_P_tellJoin_65 : decode b_P_tellJoin 65 = .ok (.ldc 138, 2) := by decide +kernel
theorem d_P_tellJoin_67 : decode b_P_tellJoin 67 = .ok (.goto 5, 3) := by decide +kernel
theorem d_P_tellJoin_70 : decode b_P_tellJoin 70 = .ok (.ldc 140, 2) := by decide +kernel
theorem d_P_tellJoin_72 : decode b_P_tellJoin 72 = .ok (.invokevirtual 50, 3) := by decide +kernel
theorem d_P_tellJoin_75 : decode b_P_tellJoin 75 = .ok (.goto 56, 3) := by decide +kernel
theorem d_P_tellJoin_78 : decode b_P_tellJoin 78 = .ok (.iload_n 2, 1) := by decide +kernel
theorem d_P_tellJoin_79 : decode b_P_tellJoin 79 = .ok (.ifCond .ne 20, 3) := by decide +kernel
theorem d_P_tellJoin_82 : decode b_P_tellJoin 82 = .ok (.aload_n 0, 1) := by decide +kernel
theorem d_P_tellJoin_83 : decode b_P_tellJoin 83 = .ok (.iload_n 1, 1) := by decide +kernel
theorem d_P_tellJoin_84 : decode b_P_tellJoin 84 = .ok (.iconst 0, 1) := by decide +kernel
theorem d_P_tellJoin_85 : decode b_P_tellJoin 85 = .ok (.ldc 142, 2) := by decide +kernel
theorem d_P_tellJoin_87 : decode b_P_tellJoin 87 = .ok (.invokevirtual 132, 3) := by decide +kernel
theorem d_P_tellJoin_90 : decode b_P_tellJoin 90 = .ok (.aload_n 0, 1) := by decide +kernel
theorem d_P_tellJoin_91 : decode b_P_tellJoin 91 = .ok (.ldc 144, 2) := by decide +kernel
theorem d_P_tellJoin_93 : decode b_P_tellJoin 93 = .ok (.invokevirtual 50, 3) := by decide +kernel
theorem d_P_tellJoin_96 : decode b_P_tellJoin 96 = .ok (.goto 35, 3) := by decide +kernel
theorem d_P_tellJoin_99 : decode b_P_tellJoin 99 = .ok (.aload_n 0, 1) := by decide +kernel
theorem d_P_tellJoin_100 : decode b_P_tellJoin 100 = .ok (.iload_n 1, 1) := by decide +kernel
theorem d_P_tellJoin_101 : decode b_P_tellJoin 101 = .ok (.iconst 1, 1) := by decide +kernel
theorem d_P_tellJoin_102 : decode b_P_tellJoin 102 = .ok (.ldc 61, 2) := by decide +kernel
theorem d_P_tellJoin_104 : decode b_P_tellJoin 104 = .ok (.invokevirtual 132, 3) := by decide +kernel
theorem d_P_tellJoin_107 : decode b_P_tellJoin 107 = .ok (.aload_n 0, 1) := by decide +kernel
theorem d_P_tellJoin_108 : decode b_P_tellJoin 108 = .ok (.iload_n 2, 1) := by decide +kernel
theorem d_P_tellJoin_109 : decode b_P_tellJoin 109 = .ok (.iconst 1, 1) := by decide +kernel
theorem d_P_tellJoin_110 : decode b_P_tellJoin 110 = .ok (.if_icmp .ne 8, 3) := by decide +kernel
theorem d_P_tellJoin_113 : decode b_P_tellJoin 113 = .ok (.ldc 146, 2) := by decide +kernel
theorem d_P_tellJoin_115 : decode b_P_tellJoin 115 = .ok (.goto 5, 3) := by decide +kernel
theorem d_P_tellJoin_118 : decode b_P_tellJoin 118 = .ok (.ldc 148, 2) := by decide +kernel
theorem d_P_tellJoin_120 : decode b_P_tellJoin 120 = .ok (.invokevirtual 50, 3) := by decide +kernel
theorem d_P_tellJoin_123 : decode b_P_tellJoin 123 = .ok (.aload_n 0, 1) := by decide +kernel
theorem d_P_tellJoin_124 : decode b_P_tellJoin 124 = .ok (.iload_n 1, 1) := by decide +kernel
theorem d_P_tellJoin_125 : decode b_P_tellJoin 125 = .ok (.iconst 0, 1) := by decide +kernel
theorem d_P_tellJoin_126 : decode b_P_tellJoin 126 = .ok (.ldc 142, 2) := by decide +kernel
theorem d_P_tellJoin_128 : decode b_P_tellJoin 128 = .ok (.invokevirtual 132, 3) := by decide +kernel
theorem d_P_tellJoin_131 : decode b_P_tellJoin 131 = .ok (.return_, 1) := by decide +kernel
abbrev rm_P_tellJoin : Room := { frames := 7, cells := 0, slots := 0, locals := 160 }
def f_P_tellJoin_120 (x1 : Int32) (y0 : Nat) (M : Mem) : Option Mem :=
  om (f_P_putS y0 M) fun M120 => om (f_P_tellTerms x1 (0 : Int32) 10 M120) fun M128 => some M128
set_option maxRecDepth 100000 in
theorem g_P_tellJoin_120 {M' : Mem} (C : GC p s m args meth c b_P_tellJoin 4 (none) "NoneWords$Speech" TB D vwCl (tysW cI cZ cC) A (ZS sk sv)) {x1 : Int32} {y0 : Nat} {M : Mem} (hf : f_P_tellJoin_120 x1 y0 M = some M') : GW p l e rm_P_tellJoin s m args below meth c (MQ below (QW D vwCl (tysW cI cZ cC) A none (wc ad cI cZ cC M')) args s 0 0 A) D vwCl A 4 0 0 (wc ad cI cZ cC M) 120 [(0, .ref (ad 23)), (1, .int x1)] [.ref (sk y0), .ref (ad 23)] := by
  unfold f_P_tellJoin_120 at hf
  obtain ⟨M120, hc120, hf⟩ := om_some hf
  refine gw_callVv (rest := []) C 23 wcg_23 clg_2 (c_P_putS C.2.2.2.2.2.2.2.2.2.2 hc120) (cwV 1 C.2.2.2.2.1 (gTB_V tw_449 mv_P_putS) rfl rfl rfl pd_P_putS ⟨Nat.le_of_ble_eq_true rfl, Nat.le_of_ble_eq_true rfl⟩) rfl rfl (Nat.le_of_ble_eq_true rfl) d_P_tellJoin_120 ⟨Nat.le_of_ble_eq_true rfl, Nat.le_of_ble_eq_true rfl⟩ ?_
  refine gw_aload_n C 0 d_P_tellJoin_123 rfl rfl ?_
  refine gw_iload_n C 1 d_P_tellJoin_124 rfl rfl ?_
  refine gw_iconst (v := (0 : Int32)) C d_P_tellJoin_125 (by decide) ?_
  refine gw_ldcS C (C.2.2.2.2.2.2.2.2.2.1.2.1 _ (List.mem_of_getElem? (i := 10) rfl)) d_P_tellJoin_126 ?_
  obtain ⟨M128, hc128, hf⟩ := om_some hf
  refine gw_callVv (rest := []) C 23 wcg_23 clg_2 (c_P_tellTerms C.2.2.2.2.2.2.2.2.2.2 hc128) (cwV 3 C.2.2.2.2.1 (gTB_V tw_517 mv_P_tellTerms) rfl rfl rfl pd_P_tellTerms ⟨Nat.le_of_ble_eq_true rfl, Nat.le_of_ble_eq_true rfl⟩) rfl rfl (Nat.le_of_ble_eq_true rfl) d_P_tellJoin_128 ⟨Nat.le_of_ble_eq_true rfl, Nat.le_of_ble_eq_true rfl⟩ ?_
  exact gw_vreti C d_P_tellJoin_131 (wc ad cI cZ cC) hf
def f_P_tellJoin_72 (y0 : Nat) (M : Mem) : Option Mem :=
  om (f_P_putS y0 M) fun M72 => some M72
set_option maxRecDepth 100000 in
theorem g_P_tellJoin_72 {M' : Mem} (C : GC p s m args meth c b_P_tellJoin 4 (none) "NoneWords$Speech" TB D vwCl (tysW cI cZ cC) A (ZS sk sv)) {y0 : Nat} {M : Mem} (hf : f_P_tellJoin_72 y0 M = some M') : GW p l e rm_P_tellJoin s m args below meth c (MQ below (QW D vwCl (tysW cI cZ cC) A none (wc ad cI cZ cC M')) args s 0 0 A) D vwCl A 4 0 0 (wc ad cI cZ cC M) 72 [] [.ref (sk y0), .ref (ad 23)] := by
  unfold f_P_tellJoin_72 at hf
  obtain ⟨M72, hc72, hf⟩ := om_some hf
  refine gw_callVv (rest := []) C 23 wcg_23 clg_2 (c_P_putS C.2.2.2.2.2.2.2.2.2.2 hc72) (cwV 1 C.2.2.2.2.1 (gTB_V tw_449 mv_P_putS) rfl rfl rfl pd_P_putS ⟨Nat.le_of_ble_eq_true rfl, Nat.le_of_ble_eq_true rfl⟩) rfl rfl (Nat.le_of_ble_eq_true rfl) d_P_tellJoin_72 ⟨Nat.le_of_ble_eq_true rfl, Nat.le_of_ble_eq_true rfl⟩ ?_
  refine gw_goto (tgt := 131) C d_P_tellJoin_75 (by decide) ?_
  exact gw_vreti C d_P_tellJoin_131 (wc ad cI cZ cC) hf
def f_P_tellJoin_37 (x1 : Int32) (x2 : Int32) (x3 : Int32) (M : Mem) : Option Mem :=
  if x3 = 0 then om (f_P_tellTerms x1 (1 : Int32) 5 M) fun M46 => if x2 = (1 : Int32) then f_P_tellJoin_72 7 M46 else if x2 = (2 : Int32) then f_P_tellJoin_72 8 M46 else f_P_tellJoin_72 9 M46 else if x2 = 0 then om (f_P_tellTerms x1 (0 : Int32) 10 M) fun M87 => om (f_P_putS 11 M87) fun M93 => some M93 else om (f_P_tellTerms x1 (1 : Int32) 5 M) fun M104 => if x2 = (1 : Int32) then f_P_tellJoin_120 x1 12 M104 else f_P_tellJoin_120 x1 13 M104
set_option maxRecDepth 100000 in
theorem g_P_tellJoin_37 {M' : Mem} (C : GC p s m args meth c b_P_tellJoin 4 (none) "NoneWords$Speech" TB D vwCl (tysW cI cZ cC) A (ZS sk sv)) {x1 : Int32} {x2 : Int32} {x3 : Int32} {M : Mem} (hf : f_P_tellJoin_37 x1 x2 x3 M = some M') : GW p l e rm_P_tellJoin s m args below meth c (MQ below (QW D vwCl (tysW cI cZ cC) A none (wc ad cI cZ cC M')) args s 0 0 A) D vwCl A 4 0 0 (wc ad cI cZ cC M) 37 [(0, .ref (ad 23)), (1, .int x1), (2, .int x2), (3, .int x3)] [] := by
  unfold f_P_tellJoin_37 at hf
  refine gw_iload_n C 3 d_P_tellJoin_37 rfl rfl ?_
  refine gw_if_ne (tgt := 78) C d_P_tellJoin_38 (by decide) (fun c => ?_) (fun c => ?_)
  · have hf := (if_neg c).symm.trans hf
    refine gw_iload_n C 2 d_P_tellJoin_78 rfl rfl ?_
    refine gw_if_ne (tgt := 99) C d_P_tellJoin_79 (by decide) (fun c => ?_) (fun c => ?_)
    · have hf := (if_neg c).symm.trans hf
      refine gw_aload_n C 0 d_P_tellJoin_99 rfl rfl ?_
      refine gw_iload_n C 1 d_P_tellJoin_100 rfl rfl ?_
      refine gw_iconst (v := (1 : Int32)) C d_P_tellJoin_101 (by decide) ?_
      refine gw_ldcS C (C.2.2.2.2.2.2.2.2.2.1.2.1 _ (List.mem_of_getElem? (i := 5) rfl)) d_P_tellJoin_102 ?_
      obtain ⟨M104, hc104, hf⟩ := om_some hf
      refine gw_callVv (rest := []) C 23 wcg_23 clg_2 (c_P_tellTerms C.2.2.2.2.2.2.2.2.2.2 hc104) (cwV 3 C.2.2.2.2.1 (gTB_V tw_517 mv_P_tellTerms) rfl rfl rfl pd_P_tellTerms ⟨Nat.le_of_ble_eq_true rfl, Nat.le_of_ble_eq_true rfl⟩) rfl rfl (Nat.le_of_ble_eq_true rfl) d_P_tellJoin_104 ⟨Nat.le_of_ble_eq_true rfl, Nat.le_of_ble_eq_true rfl⟩ ?_
      refine gw_aload_n C 0 d_P_tellJoin_107 rfl rfl ?_
      refine gw_iload_n C 2 d_P_tellJoin_108 rfl rfl ?_
      refine gw_iconst (v := (1 : Int32)) C d_P_tellJoin_109 (by decide) ?_
      refine gw_icmp_ne (tgt := 118) C d_P_tellJoin_110 (by decide) (fun c => ?_) (fun c => ?_)
      · have hf := (if_neg c).symm.trans hf
        refine gw_ldcS C (C.2.2.2.2.2.2.2.2.2.1.2.1 _ (List.mem_of_getElem? (i := 13) rfl)) d_P_tellJoin_118 ?_
        exact gw_sub [0, 1] rfl (g_P_tellJoin_120 C hf)
      · have hf := (if_pos c).symm.trans hf
        refine gw_ldcS C (C.2.2.2.2.2.2.2.2.2.1.2.1 _ (List.mem_of_getElem? (i := 12) rfl)) d_P_tellJoin_113 ?_
        refine gw_goto (tgt := 120) C d_P_tellJoin_115 (by decide) ?_
        exact gw_sub [0, 1] rfl (g_P_tellJoin_120 C hf)
    · have hf := (if_pos c).symm.trans hf
      refine gw_aload_n C 0 d_P_tellJoin_82 rfl rfl ?_
      refine gw_iload_n C 1 d_P_tellJoin_83 rfl rfl ?_
      refine gw_iconst (v := (0 : Int32)) C d_P_tellJoin_84 (by decide) ?_
      refine gw_ldcS C (C.2.2.2.2.2.2.2.2.2.1.2.1 _ (List.mem_of_getElem? (i := 10) rfl)) d_P_tellJoin_85 ?_
      obtain ⟨M87, hc87, hf⟩ := om_some hf
      refine gw_callVv (rest := []) C 23 wcg_23 clg_2 (c_P_tellTerms C.2.2.2.2.2.2.2.2.2.2 hc87) (cwV 3 C.2.2.2.2.1 (gTB_V tw_517 mv_P_tellTerms) rfl rfl rfl pd_P_tellTerms ⟨Nat.le_of_ble_eq_true rfl, Nat.le_of_ble_eq_true rfl⟩) rfl rfl (Nat.le_of_ble_eq_true rfl) d_P_tellJoin_87 ⟨Nat.le_of_ble_eq_true rfl, Nat.le_of_ble_eq_true rfl⟩ ?_
      refine gw_aload_n C 0 d_P_tellJoin_90 rfl rfl ?_
      refine gw_ldcS C (C.2.2.2.2.2.2.2.2.2.1.2.1 _ (List.mem_of_getElem? (i := 11) rfl)) d_P_tellJoin_91 ?_
      obtain ⟨M93, hc93, hf⟩ := om_some hf
      refine gw_callVv (rest := []) C 23 wcg_23 clg_2 (c_P_putS C.2.2.2.2.2.2.2.2.2.2 hc93) (cwV 1 C.2.2.2.2.1 (gTB_V tw_449 mv_P_putS) rfl rfl rfl pd_P_putS ⟨Nat.le_of_ble_eq_true rfl, Nat.le_of_ble_eq_true rfl⟩) rfl rfl (Nat.le_of_ble_eq_true rfl) d_P_tellJoin_93 ⟨Nat.le_of_ble_eq_true rfl, Nat.le_of_ble_eq_true rfl⟩ ?_
      refine gw_goto (tgt := 131) C d_P_tellJoin_96 (by decide) ?_
      exact gw_vreti C d_P_tellJoin_131 (wc ad cI cZ cC) hf
  · have hf := (if_pos c).symm.trans hf
    refine gw_aload_n C 0 d_P_tellJoin_41 rfl rfl ?_
    refine gw_iload_n C 1 d_P_tellJoin_42 rfl rfl ?_
    refine gw_iconst (v := (1 : Int32)) C d_P_tellJoin_43 (by decide) ?_
    refine gw_ldcS C (C.2.2.2.2.2.2.2.2.2.1.2.1 _ (List.mem_of_getElem? (i := 5) rfl)) d_P_tellJoin_44 ?_
    obtain ⟨M46, hc46, hf⟩ := om_some hf
    refine gw_callVv (rest := []) C 23 wcg_23 clg_2 (c_P_tellTerms C.2.2.2.2.2.2.2.2.2.2 hc46) (cwV 3 C.2.2.2.2.1 (gTB_V tw_517 mv_P_tellTerms) rfl rfl rfl pd_P_tellTerms ⟨Nat.le_of_ble_eq_true rfl, Nat.le_of_ble_eq_true rfl⟩) rfl rfl (Nat.le_of_ble_eq_true rfl) d_P_tellJoin_46 ⟨Nat.le_of_ble_eq_true rfl, Nat.le_of_ble_eq_true rfl⟩ ?_
    refine gw_aload_n C 0 d_P_tellJoin_49 rfl rfl ?_
    refine gw_iload_n C 2 d_P_tellJoin_50 rfl rfl ?_
    refine gw_iconst (v := (1 : Int32)) C d_P_tellJoin_51 (by decide) ?_
    refine gw_icmp_ne (tgt := 60) C d_P_tellJoin_52 (by decide) (fun c => ?_) (fun c => ?_)
    · have hf := (if_neg c).symm.trans hf
      refine gw_iload_n C 2 d_P_tellJoin_60 rfl rfl ?_
      refine gw_iconst (v := (2 : Int32)) C d_P_tellJoin_61 (by decide) ?_
      refine gw_icmp_ne (tgt := 70) C d_P_tellJoin_62 (by decide) (fun c => ?_) (fun c => ?_)
      · have hf := (if_neg c).symm.trans hf
        refine gw_ldcS C (C.2.2.2.2.2.2.2.2.2.1.2.1 _ (List.mem_of_getElem? (i := 9) rfl)) d_P_tellJoin_70 ?_
        exact gw_sub [] rfl (g_P_tellJoin_72 C hf)
      · have hf := (if_pos c).symm.trans hf
        refine gw_ldcS C (C.2.2.2.2.2.2.2.2.2.1.2.1 _ (List.mem_of_getElem? (i := 8) rfl)) d_P_tellJoin_65 ?_
        refine gw_goto (tgt := 72) C d_P_tellJoin_67 (by decide) ?_
        exact gw_sub [] rfl (g_P_tellJoin_72 C hf)
    · have hf := (if_pos c).symm.trans hf
      refine gw_ldcS C (C.2.2.2.2.2.2.2.2.2.1.2.1 _ (List.mem_of_getElem? (i := 7) rfl)) d_P_tellJoin_55 ?_
      refine gw_goto (tgt := 72) C d_P_tellJoin_57 (by decide) ?_
      exact gw_sub [] rfl (g_P_tellJoin_72 C hf)
def f_P_tellJoin (x1 : Int32) (M : Mem) : Option Mem :=
  ob (f_F_countTerms x1 (1 : Int32) M) fun r6 M6 => ob (f_F_countTerms x1 (0 : Int32) M6) fun r16 M16 => if r6 = 0 then if r16 = 0 then om (f_P_putS 4 M16) fun M31 => some M31 else f_P_tellJoin_37 x1 r6 r16 M16 else f_P_tellJoin_37 x1 r6 r16 M16
set_option maxRecDepth 100000 in
theorem g_P_tellJoin {M' : Mem} (C : GC p s m args meth c b_P_tellJoin 4 (none) "NoneWords$Speech" TB D vwCl (tysW cI cZ cC) A (ZS sk sv)) {x1 : Int32} {M : Mem} (hf : f_P_tellJoin x1 M = some M') : GW p l e rm_P_tellJoin s m args below meth c (MQ below (QW D vwCl (tysW cI cZ cC) A none (wc ad cI cZ cC M')) args s 0 0 A) D vwCl A 4 0 0 (wc ad cI cZ cC M) 0 [(0, .ref (ad 23)), (1, .int x1)] [] := by
  unfold f_P_tellJoin at hf
  refine gw_aload_n C 0 d_P_tellJoin_0 rfl rfl ?_
  refine gw_get C in_P 23 wcg_23 clg_2 0 (by decide) tw_186 rfl rfl d_P_tellJoin_1 ?_
  refine gw_iload_n C 1 d_P_tellJoin_4 rfl rfl ?_
  refine gw_iconst (v := (1 : Int32)) C d_P_tellJoin_5 (by decide) ?_
  obtain ⟨r6, M6, hc6, hf⟩ := ob_some hf
  refine gw_callVr (rest := []) C 1 wcg_1 clg_0 (c_F_countTerms C.2.2.2.2.2.2.2.2.2.2 hc6) (cwV 2 C.2.2.2.2.1 (gTB_V tw_514 mv_F_countTerms) rfl rfl rfl pd_F_countTerms ⟨Nat.le_of_ble_eq_true rfl, Nat.le_of_ble_eq_true rfl⟩) rfl rfl (Nat.le_of_ble_eq_true rfl) d_P_tellJoin_6 ⟨Nat.le_of_ble_eq_true rfl, Nat.le_of_ble_eq_true rfl⟩ ?_
  refine gw_istore_n (lv' := [(2, .int r6), (0, .ref (ad 23)), (1, .int x1)]) C d_P_tellJoin_9 rfl (by decide) rfl ?_
  refine gw_aload_n C 1 d_P_tellJoin_10 rfl rfl ?_
  refine gw_get C in_P 23 wcg_23 clg_2 0 (by decide) tw_186 rfl rfl d_P_tellJoin_11 ?_
  refine gw_iload_n C 2 d_P_tellJoin_14 rfl rfl ?_
  refine gw_iconst (v := (0 : Int32)) C d_P_tellJoin_15 (by decide) ?_
  obtain ⟨r16, M16, hc16, hf⟩ := ob_some hf
  refine gw_callVr (rest := []) C 1 wcg_1 clg_0 (c_F_countTerms C.2.2.2.2.2.2.2.2.2.2 hc16) (cwV 2 C.2.2.2.2.1 (gTB_V tw_514 mv_F_countTerms) rfl rfl rfl pd_F_countTerms ⟨Nat.le_of_ble_eq_true rfl, Nat.le_of_ble_eq_true rfl⟩) rfl rfl (Nat.le_of_ble_eq_true rfl) d_P_tellJoin_16 ⟨Nat.le_of_ble_eq_true rfl, Nat.le_of_ble_eq_true rfl⟩ ?_
  refine gw_istore_n (lv' := [(3, .int r16), (2, .int r6), (0, .ref (ad 23)), (1, .int x1)]) C d_P_tellJoin_19 rfl (by decide) rfl ?_
  refine gw_iload_n C 1 d_P_tellJoin_20 rfl rfl ?_
  refine gw_if_ne (tgt := 37) C d_P_tellJoin_21 (by decide) (fun c => ?_) (fun c => ?_)
  · have hf := (if_neg c).symm.trans hf
    exact gw_sub [2, 3, 1, 0] rfl (g_P_tellJoin_37 C hf)
  · have hf := (if_pos c).symm.trans hf
    refine gw_iload_n C 0 d_P_tellJoin_24 rfl rfl ?_
    refine gw_if_ne (tgt := 37) C d_P_tellJoin_25 (by decide) (fun c => ?_) (fun c => ?_)
    · have hf := (if_neg c).symm.trans hf
      exact gw_sub [2, 3, 1, 0] rfl (g_P_tellJoin_37 C hf)
    · have hf := (if_pos c).symm.trans hf
      refine gw_aload_n C 2 d_P_tellJoin_28 rfl rfl ?_
      refine gw_ldcS C (C.2.2.2.2.2.2.2.2.2.1.2.1 _ (List.mem_of_getElem? (i := 4) rfl)) d_P_tellJoin_29 ?_
      obtain ⟨M31, hc31, hf⟩ := om_some hf
      refine gw_callVv (rest := []) C 23 wcg_23 clg_2 (c_P_putS C.2.2.2.2.2.2.2.2.2.2 hc31) (cwV 1 C.2.2.2.2.1 (gTB_V tw_449 mv_P_putS) rfl rfl rfl pd_P_putS ⟨Nat.le_of_ble_eq_true rfl, Nat.le_of_ble_eq_true rfl⟩) rfl rfl (Nat.le_of_ble_eq_true rfl) d_P_tellJoin_31 ⟨Nat.le_of_ble_eq_true rfl, Nat.le_of_ble_eq_true rfl⟩ ?_
      refine gw_goto (tgt := 131) C d_P_tellJoin_34 (by decide) ?_
      exact gw_vreti C d_P_tellJoin_131 (wc ad cI cZ cC) hf
theorem c_P_tellJoin (hZ : gw_ZOK (ZS sk sv)) {x1 : Int32} {M : Mem} {M' : Mem} (hf : f_P_tellJoin x1 M = some M') : CW l y_P_tellJoin ws_P_tellJoin rm_P_tellJoin D vwCl (tysW cI cZ cC) (ZS sk sv) [.ref (ad 23), .int x1] (wc ad cI cZ cC M) none (wc ad cI cZ cC M') 0 0 :=
  CW.ofG hZ (by decide) rfl (Nat.le_of_ble_eq_true rfl) (fun _ _ _ _ _ _ _ _ C _ => g_P_tellJoin C hf)
abbrev b_P_tellNode : ByteArray := prog_4_method_8_code
def y_P_tellNode : MethodName := ⟨"NoneWords$Speech", "tellNode", "(I)V"⟩
abbrev ws_P_tellNode : List Cond := Cond.code y_P_tellNode b_P_tellNode 2 (none) :: TB
set_option maxRecDepth 100000 in
theorem tc_P_tellNode : Cond.code y_P_tellNode b_P_tellNode 2 (none) ∈ TB := inTB 508 rfl rfl
theorem mv_P_tellNode : Cond.instanceMethod y_P_tellNode ∈ TB ∧ Cond.selects "NoneWords$Speech" y_P_tellNode y_P_tellNode ∈ TB ∧ Cond.initialized "NoneWords$Speech" ∈ TB ∧ Cond.code y_P_tellNode b_P_tellNode 2 (none) ∈ TB := ⟨inTB 507 (by decide +kernel) (by decide +kernel), inTB 15 (by decide +kernel) (by decide +kernel), inTB 69 (by decide +kernel) (by decide +kernel), tc_P_tellNode⟩
theorem pd_P_tellNode : y_P_tellNode.cls = "NoneWords$Speech" ∧ y_P_tellNode.cls ≠ "java/lang/invoke/MethodHandle" ∧ y_P_tellNode.cls ≠ "java/lang/invoke/VarHandle" ∧ (parseMethodDescriptor y_P_tellNode.desc).map (fun d => d.parameters.length) = some 1 := by decide +kernel
theorem d_P_tellNode_0 : decode b_P_tellNode 0 = .ok (.aload_n 0, 1) := by decide +kernel
theorem d_P_tellNode_1 : decode b_P_tellNode 1 = .ok (.getfield 22, 3) := by decide +kernel
theorem d_P_tellNode_4 : decode b_P_tellNode 4 = .ok (.iload_n 1, 1) := by decide +kernel
theorem d_P_tellNode_5 : decode b_P_tellNode 5 = .ok (.invokevirtual 88, 3) := by decide +kernel
theorem d_P_tellNode_8 : decode b_P_tellNode 8 = .ok (.ifCond .eq 11, 3) := by decide +kernel
theorem d_P_tellNode_11 : decode b_P_tellNode 11 = .ok (.aload_n 0, 1) := by decide +kernel
theorem d_P_tellNode_12 : decode b_P_tellNode 12 = .ok (.iload_n 1, 1) := by decide +kernel
theorem d_P_tellNode_13 : decode b_P_tellNode 13 = .ok (.invokevirtual 93, 3) := by decide +kernel
theorem d_P_tellNode_16 : decode b_P_tellNode 16 = .ok (.goto 8, 3) := by decide +kernel
theorem d_P_tellNode_19 : decode b_P_tellNode 19 = .ok (.aload_n 0, 1) := by decide +kernel
theorem d_P_tellNode_20 : decode b_P_tellNode 20 = .ok (.iload_n 1, 1) := by decide +kernel
theorem d_P_tellNode_21 : decode b_P_tellNode 21 = .ok (.invokevirtual 96, 3) := by decide +kernel
theorem d_P_tellNode_24 : decode b_P_tellNode 24 = .ok (.return_, 1) := by decide +kernel
abbrev rm_P_tellNode : Room := { frames := 8, cells := 0, slots := 0, locals := 183 }
def f_P_tellNode (x1 : Int32) (M : Mem) : Option Mem :=
  ob (f_F_isJoin x1 M) fun r5 M5 => if r5 = 0 then om (f_P_tellLeaf x1 M5) fun M21 => some M21 else om (f_P_tellJoin x1 M5) fun M13 => some M13
set_option maxRecDepth 100000 in
theorem g_P_tellNode {M' : Mem} (C : GC p s m args meth c b_P_tellNode 2 (none) "NoneWords$Speech" TB D vwCl (tysW cI cZ cC) A (ZS sk sv)) {x1 : Int32} {M : Mem} (hf : f_P_tellNode x1 M = some M') : GW p l e rm_P_tellNode s m args below meth c (MQ below (QW D vwCl (tysW cI cZ cC) A none (wc ad cI cZ cC M')) args s 0 0 A) D vwCl A 2 0 0 (wc ad cI cZ cC M) 0 [(0, .ref (ad 23)), (1, .int x1)] [] := by
  unfold f_P_tellNode at hf
  refine gw_aload_n C 0 d_P_tellNode_0 rfl rfl ?_
  refine gw_get C in_P 23 wcg_23 clg_2 0 (by decide) tw_186 rfl rfl d_P_tellNode_1 ?_
  refine gw_iload_n C 1 d_P_tellNode_4 rfl rfl ?_
  obtain ⟨r5, M5, hc5, hf⟩ := ob_some hf
  refine gw_callVr (rest := []) C 1 wcg_1 clg_0 (c_F_isJoin C.2.2.2.2.2.2.2.2.2.2 hc5) (cwV 1 C.2.2.2.2.1 (gTB_V tw_509 mv_F_isJoin) rfl rfl rfl pd_F_isJoin ⟨Nat.le_of_ble_eq_true rfl, Nat.le_of_ble_eq_true rfl⟩) rfl rfl (Nat.le_of_ble_eq_true rfl) d_P_tellNode_5 ⟨Nat.le_of_ble_eq_true rfl, Nat.le_of_ble_eq_true rfl⟩ ?_
  refine gw_if_eq (tgt := 19) C d_P_tellNode_8 (by decide) (fun c => ?_) (fun c => ?_)
  · have hf := (if_pos c).symm.trans hf
    refine gw_aload_n C 0 d_P_tellNode_19 rfl rfl ?_
    refine gw_iload_n C 1 d_P_tellNode_20 rfl rfl ?_
    obtain ⟨M21, hc21, hf⟩ := om_some hf
    refine gw_callVv (rest := []) C 23 wcg_23 clg_2 (c_P_tellLeaf C.2.2.2.2.2.2.2.2.2.2 hc21) (cwV 1 C.2.2.2.2.1 (gTB_V tw_543 mv_P_tellLeaf) rfl rfl rfl pd_P_tellLeaf ⟨Nat.le_of_ble_eq_true rfl, Nat.le_of_ble_eq_true rfl⟩) rfl rfl (Nat.le_of_ble_eq_true rfl) d_P_tellNode_21 ⟨Nat.le_of_ble_eq_true rfl, Nat.le_of_ble_eq_true rfl⟩ ?_
    exact gw_vreti C d_P_tellNode_24 (wc ad cI cZ cC) hf
  · have hf := (if_neg c).symm.trans hf
    refine gw_aload_n C 0 d_P_tellNode_11 rfl rfl ?_
    refine gw_iload_n C 1 d_P_tellNode_12 rfl rfl ?_
    obtain ⟨M13, hc13, hf⟩ := om_some hf
    refine gw_callVv (rest := []) C 23 wcg_23 clg_2 (c_P_tellJoin C.2.2.2.2.2.2.2.2.2.2 hc13) (cwV 1 C.2.2.2.2.1 (gTB_V tw_510 mv_P_tellJoin) rfl rfl rfl pd_P_tellJoin ⟨Nat.le_of_ble_eq_true rfl, Nat.le_of_ble_eq_true rfl⟩) rfl rfl (Nat.le_of_ble_eq_true rfl) d_P_tellNode_13 ⟨Nat.le_of_ble_eq_true rfl, Nat.le_of_ble_eq_true rfl⟩ ?_
    refine gw_goto (tgt := 24) C d_P_tellNode_16 (by decide) ?_
    exact gw_vreti C d_P_tellNode_24 (wc ad cI cZ cC) hf
theorem c_P_tellNode (hZ : gw_ZOK (ZS sk sv)) {x1 : Int32} {M : Mem} {M' : Mem} (hf : f_P_tellNode x1 M = some M') : CW l y_P_tellNode ws_P_tellNode rm_P_tellNode D vwCl (tysW cI cZ cC) (ZS sk sv) [.ref (ad 23), .int x1] (wc ad cI cZ cC M) none (wc ad cI cZ cC M') 0 0 :=
  CW.ofG hZ (by decide) rfl (Nat.le_of_ble_eq_true rfl) (fun _ _ _ _ _ _ _ _ C _ => g_P_tellNode C hf)
abbrev b_P_show : ByteArray := prog_4_method_5_code
def y_P_show : MethodName := ⟨"NoneWords$Speech", "show", "(I)Z"⟩
abbrev ws_P_show : List Cond := Cond.code y_P_show b_P_show 4 (some (FieldType.boolean)) :: TB
set_option maxRecDepth 100000 in
theorem tc_P_show : Cond.code y_P_show b_P_show 4 (some (FieldType.boolean)) ∈ TB := inTB 424 rfl rfl
theorem mv_P_show : Cond.instanceMethod y_P_show ∈ TB ∧ Cond.selects "NoneWords$Speech" y_P_show y_P_show ∈ TB ∧ Cond.initialized "NoneWords$Speech" ∈ TB ∧ Cond.code y_P_show b_P_show 4 (some (FieldType.boolean)) ∈ TB := ⟨inTB 422 (by decide +kernel) (by decide +kernel), inTB 423 (by decide +kernel) (by decide +kernel), inTB 69 (by decide +kernel) (by decide +kernel), tc_P_show⟩
theorem pd_P_show : y_P_show.cls = "NoneWords$Speech" ∧ y_P_show.cls ≠ "java/lang/invoke/MethodHandle" ∧ y_P_show.cls ≠ "java/lang/invoke/VarHandle" ∧ (parseMethodDescriptor y_P_show.desc).map (fun d => d.parameters.length) = some 1 := by decide +kernel
theorem d_P_show_0 : decode b_P_show 0 = .ok (.aload_n 0, 1) := by decide +kernel
theorem d_P_show_1 : decode b_P_show 1 = .ok (.getfield 26, 3) := by decide +kernel
theorem d_P_show_4 : decode b_P_show 4 = .ok (.iload_n 1, 1) := by decide +kernel
theorem d_P_show_5 : decode b_P_show 5 = .ok (.invokevirtual 30, 3) := by decide +kernel
theorem d_P_show_8 : decode b_P_show 8 = .ok (.ifCond .ne 5, 3) := by decide +kernel
theorem d_P_show_11 : decode b_P_show 11 = .ok (.iconst 0, 1) := by decide +kernel
theorem d_P_show_12 : decode b_P_show 12 = .ok (.ireturn, 1) := by decide +kernel
theorem d_P_show_13 : decode b_P_show 13 = .ok (.iload_n 1, 1) := by decide +kernel
theorem d_P_show_14 : decode b_P_show 14 = .ok (.aload_n 0, 1) := by decide +kernel
theorem d_P_show_15 : decode b_P_show 15 = .ok (.getfield 19, 3) := by decide +kernel
theorem d_P_show_18 : decode b_P_show 18 = .ok (.if_icmp .ne 5, 3) := by decide +kernel
theorem d_P_show_21 : decode b_P_show 21 = .ok (.iconst 1, 1) := by decide +kernel
theorem d_P_show_22 : decode b_P_show 22 = .ok (.ireturn, 1) := by decide +kernel
theorem d_P_show_23 : decode b_P_show 23 = .ok (.aload_n 0, 1) := by decide +kernel
theorem d_P_show_24 : decode b_P_show 24 = .ok (.iload_n 1, 1) := by decide +kernel
theorem d_P_show_25 : decode b_P_show 25 = .ok (.putfield 19, 3) := by decide +kernel
theorem d_P_show_28 : decode b_P_show 28 = .ok (.aload_n 0, 1) := by decide +kernel
theorem d_P_show_29 : decode b_P_show 29 = .ok (.iconst 0, 1) := by decide +kernel
theorem d_P_show_30 : decode b_P_show 30 = .ok (.putfield 15, 3) := by decide +kernel
theorem d_P_show_33 : decode b_P_show 33 = .ok (.aload_n 0, 1) := by decide +kernel
theorem d_P_show_34 : decode b_P_show 34 = .ok (.getfield 26, 3) := by decide +kernel
theorem d_P_show_37 : decode b_P_show 37 = .ok (.iload_n 1, 1) := by decide +kernel
theorem d_P_show_38 : decode b_P_show 38 = .ok (.invokevirtual 36, 3) := by decide +kernel
theorem d_P_show_41 : decode b_P_show 41 = .ok (.istore_n 2, 1) := by decide +kernel
theorem d_P_show_42 : decode b_P_show 42 = .ok (.aload_n 0, 1) := by decide +kernel
theorem d_P_show_43 : decode b_P_show 43 = .ok (.getfield 26, 3) := by decide +kernel
theorem d_P_show_46 : decode b_P_show 46 = .ok (.iload_n 1, 1) := by decide +kernel
theorem d_P_show_47 : decode b_P_show 47 = .ok (.invokevirtual 40, 3) := by decide +kernel
theorem d_P_show_50 : decode b_P_show 50 = .ok (.istore_n 3, 1) := by decide +kernel
theorem d_P_show_51 : decode b_P_show 51 = .ok (.aload_n 0, 1) := by decide +kernel
theorem d_P_show_52 : decode b_P_show 52 = .ok (.aload_n 0, 1) := by decide +kernel
theorem d_P_show_53 : decode b_P_show 53 = .ok (.getfield 26, 3) := by decide +kernel
theorem d_P_show_56 : decode b_P_show 56 = .ok (.iload_n 1, 1) := by decide +kernel
theorem d_P_show_57 : decode b_P_show 57 = .ok (.invokevirtual 43, 3) := by decide +kernel
theorem d_P_show_60 : decode b_P_show 60 = .ok (.invokestatic 46, 3) := by decide +kernel
theorem d_P_show_63 : decode b_P_show 63 = .ok (.invokevirtual 50, 3) := by decide +kernel
theorem d_P_show_66 : decode b_P_show 66 = .ok (.iload_n 2, 1) := by decide +kernel
theorem d_P_show_67 : decode b_P_show 67 = .ok (.iconst (-1), 1) := by decide +kernel
theorem d_P_show_68 : decode b_P_show 68 = .ok (.if_icmp .eq 13, 3) := by decide +kernel
theorem d_P_show_71 : decode b_P_show 71 = .ok (.aload_n 0, 1) := by decide +kernel
theorem d_P_show_72 : decode b_P_show 72 = .ok (.iload_n 2, 1) := by decide +kernel
theorem d_P_show_73 : decode b_P_show 73 = .ok (.invokevirtual 54, 3) := by decide +kernel
theorem d_P_show_76 : decode b_P_show 76 = .ok (.aload_n 0, 1) := by decide +kernel
theorem d_P_show_77 : decode b_P_show 77 = .ok (.iload_n 2, 1) := by decide +kernel
theorem d_P_show_78 : decode b_P_show 78 = .ok (.invokevirtual 58, 3) := by decide +kernel
theorem d_P_show_81 : decode b_P_show 81 = .ok (.iload_n 3, 1) := by decide +kernel
theorem d_P_show_82 : decode b_P_show 82 = .ok (.iconst (-1), 1) := by decide +kernel
theorem d_P_show_83 : decode b_P_show 83 = .ok (.if_icmp .eq 19, 3) := by decide +kernel
theorem d_P_show_86 : decode b_P_show 86 = .ok (.aload_n 0, 1) := by decide +kernel
theorem d_P_show_87 : decode b_P_show 87 = .ok (.ldc 61, 2) := by decide +kernel
theorem d_P_show_89 : decode b_P_show 89 = .ok (.invokevirtual 50, 3) := by decide +kernel
theorem d_P_show_92 : decode b_P_show 92 = .ok (.aload_n 0, 1) := by decide +kernel
theorem d_P_show_93 : decode b_P_show 93 = .ok (.iload_n 3, 1) := by decide +kernel
theorem d_P_show_94 : decode b_P_show 94 = .ok (.invokevirtual 54, 3) := by decide +kernel
theorem d_P_show_97 : decode b_P_show 97 = .ok (.aload_n 0, 1) := by decide +kernel
theorem d_P_show_98 : decode b_P_show 98 = .ok (.iload_n 3, 1) := by decide +kernel
theorem d_P_show_99 : decode b_P_show 99 = .ok (.invokevirtual 58, 3) := by decide +kernel
theorem d_P_show_102 : decode b_P_show 102 = .ok (.iload_n 2, 1) := by decide +kernel
theorem d_P_show_103 : decode b_P_show 103 = .ok (.iconst (-1), 1) := by decide +kernel
theorem d_P_show_104 : decode b_P_show 104 = .ok (.if_icmp .eq 9, 3) := by decide +kernel
theorem d_P_show_107 : decode b_P_show 107 = .ok (.aload_n 0, 1) := by decide +kernel
theorem d_P_show_108 : decode b_P_show 108 = .ok (.ldc 63, 2) := by decide +kernel
theorem d_P_show_110 : decode b_P_show 110 = .ok (.invokevirtual 50, 3) := by decide +kernel
theorem d_P_show_113 : decode b_P_show 113 = .ok (.aload_n 0, 1) := by decide +kernel
theorem d_P_show_114 : decode b_P_show 114 = .ok (.aload_n 0, 1) := by decide +kernel
theorem d_P_show_115 : decode b_P_show 115 = .ok (.getfield 26, 3) := by decide +kernel
theorem d_P_show_118 : decode b_P_show 118 = .ok (.iload_n 1, 1) := by decide +kernel
theorem d_P_show_119 : decode b_P_show 119 = .ok (.invokevirtual 65, 3) := by decide +kernel
theorem d_P_show_122 : decode b_P_show 122 = .ok (.invokevirtual 54, 3) := by decide +kernel
theorem d_P_show_125 : decode b_P_show 125 = .ok (.aload_n 0, 1) := by decide +kernel
theorem d_P_show_126 : decode b_P_show 126 = .ok (.bipush 46, 2) := by decide +kernel
theorem d_P_show_128 : decode b_P_show 128 = .ok (.invokevirtual 68, 3) := by decide +kernel
theorem d_P_show_131 : decode b_P_show 131 = .ok (.iconst 1, 1) := by decide +kernel
theorem d_P_show_132 : decode b_P_show 132 = .ok (.ireturn, 1) := by decide +kernel
abbrev rm_P_show : Room := { frames := 9, cells := 0, slots := 0, locals := 204 }
def f_P_show_113 (x1 : Int32) (M : Mem) : Option (Int32 × Mem) :=
  ob (f_W_conclusion x1 M) fun r119 M119 => om (f_P_tellNode r119 M119) fun M122 => om (f_P_putC (46 : Int32) M122) fun M128 => some ((1 : Int32), M128)
set_option maxRecDepth 100000 in
theorem g_P_show_113 {r : Int32} {M' : Mem} (C : GC p s m args meth c b_P_show 4 (some (FieldType.boolean)) "NoneWords$Speech" TB D vwCl (tysW cI cZ cC) A (ZS sk sv)) {x1 : Int32} {M : Mem} (hf : f_P_show_113 x1 M = some (r, M')) : GW p l e rm_P_show s m args below meth c (MQ below (QW D vwCl (tysW cI cZ cC) A (some (.int r)) (wc ad cI cZ cC M')) args s 0 0 A) D vwCl A 4 0 0 (wc ad cI cZ cC M) 113 [(0, .ref (ad 23)), (1, .int x1)] [] := by
  unfold f_P_show_113 at hf
  refine gw_aload_n C 0 d_P_show_113 rfl rfl ?_
  refine gw_aload_n C 0 d_P_show_114 rfl rfl ?_
  refine gw_get C in_P 23 wcg_23 clg_2 1 (by decide) tw_187 rfl rfl d_P_show_115 ?_
  refine gw_iload_n C 1 d_P_show_118 rfl rfl ?_
  obtain ⟨r119, M119, hc119, hf⟩ := ob_some hf
  refine gw_callVr (rest := [.ref (ad 23)]) C 11 wcg_11 clg_3 (c_W_conclusion C.2.2.2.2.2.2.2.2.2.2 hc119) (cwV 1 C.2.2.2.2.1 (gTB_V tw_578 mv_W_conclusion) rfl rfl rfl pd_W_conclusion ⟨Nat.le_of_ble_eq_true rfl, Nat.le_of_ble_eq_true rfl⟩) rfl rfl (Nat.le_of_ble_eq_true rfl) d_P_show_119 ⟨Nat.le_of_ble_eq_true rfl, Nat.le_of_ble_eq_true rfl⟩ ?_
  obtain ⟨M122, hc122, hf⟩ := om_some hf
  refine gw_callVv (rest := []) C 23 wcg_23 clg_2 (c_P_tellNode C.2.2.2.2.2.2.2.2.2.2 hc122) (cwV 1 C.2.2.2.2.1 (gTB_V tw_505 mv_P_tellNode) rfl rfl rfl pd_P_tellNode ⟨Nat.le_of_ble_eq_true rfl, Nat.le_of_ble_eq_true rfl⟩) rfl rfl (Nat.le_of_ble_eq_true rfl) d_P_show_122 ⟨Nat.le_of_ble_eq_true rfl, Nat.le_of_ble_eq_true rfl⟩ ?_
  refine gw_aload_n C 0 d_P_show_125 rfl rfl ?_
  refine gw_bipush (v := (46 : Int32)) C d_P_show_126 (by decide) ?_
  obtain ⟨M128, hc128, hf⟩ := om_some hf
  refine gw_callVv (rest := []) C 23 wcg_23 clg_2 (c_P_putC C.2.2.2.2.2.2.2.2.2.2 hc128) (cwV 1 C.2.2.2.2.1 (gTB_V tw_501 mv_P_putC) rfl rfl rfl pd_P_putC ⟨Nat.le_of_ble_eq_true rfl, Nat.le_of_ble_eq_true rfl⟩) rfl rfl (Nat.le_of_ble_eq_true rfl) d_P_show_128 ⟨Nat.le_of_ble_eq_true rfl, Nat.le_of_ble_eq_true rfl⟩ ?_
  refine gw_iconst (v := (1 : Int32)) C d_P_show_131 (by decide) ?_
  exact gw_zreti C d_P_show_132 (wc ad cI cZ cC) (by decide) hf
def f_P_show_102 (x1 : Int32) (x2 : Int32) (M : Mem) : Option (Int32 × Mem) :=
  if x2 = (-1 : Int32) then f_P_show_113 x1 M else om (f_P_putS 19 M) fun M110 => f_P_show_113 x1 M110
set_option maxRecDepth 100000 in
theorem g_P_show_102 {r : Int32} {M' : Mem} (C : GC p s m args meth c b_P_show 4 (some (FieldType.boolean)) "NoneWords$Speech" TB D vwCl (tysW cI cZ cC) A (ZS sk sv)) {x1 : Int32} {x2 : Int32} {M : Mem} (hf : f_P_show_102 x1 x2 M = some (r, M')) : GW p l e rm_P_show s m args below meth c (MQ below (QW D vwCl (tysW cI cZ cC) A (some (.int r)) (wc ad cI cZ cC M')) args s 0 0 A) D vwCl A 4 0 0 (wc ad cI cZ cC M) 102 [(0, .ref (ad 23)), (1, .int x1), (2, .int x2)] [] := by
  unfold f_P_show_102 at hf
  refine gw_iload_n C 2 d_P_show_102 rfl rfl ?_
  refine gw_iconst (v := (-1 : Int32)) C d_P_show_103 (by decide) ?_
  refine gw_icmp_eq (tgt := 113) C d_P_show_104 (by decide) (fun c => ?_) (fun c => ?_)
  · have hf := (if_pos c).symm.trans hf
    exact gw_sub [0, 1] rfl (g_P_show_113 C hf)
  · have hf := (if_neg c).symm.trans hf
    refine gw_aload_n C 0 d_P_show_107 rfl rfl ?_
    refine gw_ldcS C (C.2.2.2.2.2.2.2.2.2.1.2.1 _ (List.mem_of_getElem? (i := 19) rfl)) d_P_show_108 ?_
    obtain ⟨M110, hc110, hf⟩ := om_some hf
    refine gw_callVv (rest := []) C 23 wcg_23 clg_2 (c_P_putS C.2.2.2.2.2.2.2.2.2.2 hc110) (cwV 1 C.2.2.2.2.1 (gTB_V tw_449 mv_P_putS) rfl rfl rfl pd_P_putS ⟨Nat.le_of_ble_eq_true rfl, Nat.le_of_ble_eq_true rfl⟩) rfl rfl (Nat.le_of_ble_eq_true rfl) d_P_show_110 ⟨Nat.le_of_ble_eq_true rfl, Nat.le_of_ble_eq_true rfl⟩ ?_
    exact gw_sub [0, 1] rfl (g_P_show_113 C hf)
def f_P_show_81 (x1 : Int32) (x2 : Int32) (x3 : Int32) (M : Mem) : Option (Int32 × Mem) :=
  if x3 = (-1 : Int32) then f_P_show_102 x1 x2 M else om (f_P_putS 5 M) fun M89 => om (f_P_tellNode x3 M89) fun M94 => om (f_P_tellNumber x3 M94) fun M99 => f_P_show_102 x1 x2 M99
set_option maxRecDepth 100000 in
theorem g_P_show_81 {r : Int32} {M' : Mem} (C : GC p s m args meth c b_P_show 4 (some (FieldType.boolean)) "NoneWords$Speech" TB D vwCl (tysW cI cZ cC) A (ZS sk sv)) {x1 : Int32} {x2 : Int32} {x3 : Int32} {M : Mem} (hf : f_P_show_81 x1 x2 x3 M = some (r, M')) : GW p l e rm_P_show s m args below meth c (MQ below (QW D vwCl (tysW cI cZ cC) A (some (.int r)) (wc ad cI cZ cC M')) args s 0 0 A) D vwCl A 4 0 0 (wc ad cI cZ cC M) 81 [(0, .ref (ad 23)), (1, .int x1), (2, .int x2), (3, .int x3)] [] := by
  unfold f_P_show_81 at hf
  refine gw_iload_n C 3 d_P_show_81 rfl rfl ?_
  refine gw_iconst (v := (-1 : Int32)) C d_P_show_82 (by decide) ?_
  refine gw_icmp_eq (tgt := 102) C d_P_show_83 (by decide) (fun c => ?_) (fun c => ?_)
  · have hf := (if_pos c).symm.trans hf
    exact gw_sub [0, 1, 2] rfl (g_P_show_102 C hf)
  · have hf := (if_neg c).symm.trans hf
    refine gw_aload_n C 0 d_P_show_86 rfl rfl ?_
    refine gw_ldcS C (C.2.2.2.2.2.2.2.2.2.1.2.1 _ (List.mem_of_getElem? (i := 5) rfl)) d_P_show_87 ?_
    obtain ⟨M89, hc89, hf⟩ := om_some hf
    refine gw_callVv (rest := []) C 23 wcg_23 clg_2 (c_P_putS C.2.2.2.2.2.2.2.2.2.2 hc89) (cwV 1 C.2.2.2.2.1 (gTB_V tw_449 mv_P_putS) rfl rfl rfl pd_P_putS ⟨Nat.le_of_ble_eq_true rfl, Nat.le_of_ble_eq_true rfl⟩) rfl rfl (Nat.le_of_ble_eq_true rfl) d_P_show_89 ⟨Nat.le_of_ble_eq_true rfl, Nat.le_of_ble_eq_true rfl⟩ ?_
    refine gw_aload_n C 0 d_P_show_92 rfl rfl ?_
    refine gw_iload_n C 3 d_P_show_93 rfl rfl ?_
    obtain ⟨M94, hc94, hf⟩ := om_some hf
    refine gw_callVv (rest := []) C 23 wcg_23 clg_2 (c_P_tellNode C.2.2.2.2.2.2.2.2.2.2 hc94) (cwV 1 C.2.2.2.2.1 (gTB_V tw_505 mv_P_tellNode) rfl rfl rfl pd_P_tellNode ⟨Nat.le_of_ble_eq_true rfl, Nat.le_of_ble_eq_true rfl⟩) rfl rfl (Nat.le_of_ble_eq_true rfl) d_P_show_94 ⟨Nat.le_of_ble_eq_true rfl, Nat.le_of_ble_eq_true rfl⟩ ?_
    refine gw_aload_n C 0 d_P_show_97 rfl rfl ?_
    refine gw_iload_n C 3 d_P_show_98 rfl rfl ?_
    obtain ⟨M99, hc99, hf⟩ := om_some hf
    refine gw_callVv (rest := []) C 23 wcg_23 clg_2 (c_P_tellNumber C.2.2.2.2.2.2.2.2.2.2 hc99) (cwV 1 C.2.2.2.2.1 (gTB_V tw_571 mv_P_tellNumber) rfl rfl rfl pd_P_tellNumber ⟨Nat.le_of_ble_eq_true rfl, Nat.le_of_ble_eq_true rfl⟩) rfl rfl (Nat.le_of_ble_eq_true rfl) d_P_show_99 ⟨Nat.le_of_ble_eq_true rfl, Nat.le_of_ble_eq_true rfl⟩ ?_
    exact gw_sub [0, 1, 2] rfl (g_P_show_102 C hf)
def f_P_show (x1 : Int32) (M : Mem) : Option (Int32 × Mem) :=
  ob (f_W_hasSentence x1 M) fun r5 M5 => if r5 = 0 then some ((0 : Int32), M5) else if x1 = (M5 23 4) then some ((1 : Int32), M5) else ob (f_W_firstCause x1 (ms (ms M5 23 4 x1) 23 3 (0 : Int32))) fun r38 M38 => ob (f_W_secondCause x1 M38) fun r47 M47 => ob (f_W_opening x1 M47) fun r57 M57 => ob (f_P_openingWords r57 M57) fun r60 M60 => om (f_P_putS r60 M60) fun M63 => if r38 = (-1 : Int32) then f_P_show_81 x1 r38 r47 M63 else om (f_P_tellNode r38 M63) fun M73 => om (f_P_tellNumber r38 M73) fun M78 => f_P_show_81 x1 r38 r47 M78
set_option maxRecDepth 100000 in
theorem g_P_show {r : Int32} {M' : Mem} (C : GC p s m args meth c b_P_show 4 (some (FieldType.boolean)) "NoneWords$Speech" TB D vwCl (tysW cI cZ cC) A (ZS sk sv)) {x1 : Int32} {M : Mem} (hf : f_P_show x1 M = some (r, M')) : GW p l e rm_P_show s m args below meth c (MQ below (QW D vwCl (tysW cI cZ cC) A (some (.int r)) (wc ad cI cZ cC M')) args s 0 0 A) D vwCl A 4 0 0 (wc ad cI cZ cC M) 0 [(0, .ref (ad 23)), (1, .int x1)] [] := by
  unfold f_P_show at hf
  refine gw_aload_n C 0 d_P_show_0 rfl rfl ?_
  refine gw_get C in_P 23 wcg_23 clg_2 1 (by decide) tw_187 rfl rfl d_P_show_1 ?_
  refine gw_iload_n C 1 d_P_show_4 rfl rfl ?_
  obtain ⟨r5, M5, hc5, hf⟩ := ob_some hf
  refine gw_callVr (rest := []) C 11 wcg_11 clg_3 (c_W_hasSentence C.2.2.2.2.2.2.2.2.2.2 hc5) (cwV 1 C.2.2.2.2.1 (gTB_V tw_425 mv_W_hasSentence) rfl rfl rfl pd_W_hasSentence ⟨Nat.le_of_ble_eq_true rfl, Nat.le_of_ble_eq_true rfl⟩) rfl rfl (Nat.le_of_ble_eq_true rfl) d_P_show_5 ⟨Nat.le_of_ble_eq_true rfl, Nat.le_of_ble_eq_true rfl⟩ ?_
  refine gw_if_ne (tgt := 13) C d_P_show_8 (by decide) (fun c => ?_) (fun c => ?_)
  · have hf := (if_neg c).symm.trans hf
    refine gw_iload_n C 1 d_P_show_13 rfl rfl ?_
    refine gw_aload_n C 0 d_P_show_14 rfl rfl ?_
    refine gw_get C in_P 23 wcg_23 clg_2 4 (by decide) tw_190 rfl rfl d_P_show_15 ?_
    refine gw_icmp_ne (tgt := 23) C d_P_show_18 (by decide) (fun c => ?_) (fun c => ?_)
    · have hf := (if_neg c).symm.trans hf
      refine gw_aload_n C 0 d_P_show_23 rfl rfl ?_
      refine gw_iload_n C 1 d_P_show_24 rfl rfl ?_
      refine gw_put C in_P ty_P tk_P nm_P 23 wcg_23 clg_2 4 (by decide) tw_190 rfl rfl rfl rfl (Nat.le_of_ble_eq_true rfl) d_P_show_25 wcf_23_4 ?_
      refine gw_aload_n C 0 d_P_show_28 rfl rfl ?_
      refine gw_iconst (v := (0 : Int32)) C d_P_show_29 (by decide) ?_
      refine gw_put C in_P ty_P tk_P nm_P 23 wcg_23 clg_2 3 (by decide) tw_189 rfl rfl rfl rfl (Nat.le_of_ble_eq_true rfl) d_P_show_30 wcf_23_3 ?_
      refine gw_aload_n C 0 d_P_show_33 rfl rfl ?_
      refine gw_get C in_P 23 wcg_23 clg_2 1 (by decide) tw_187 rfl rfl d_P_show_34 ?_
      refine gw_iload_n C 1 d_P_show_37 rfl rfl ?_
      obtain ⟨r38, M38, hc38, hf⟩ := ob_some hf
      refine gw_callVr (rest := []) C 11 wcg_11 clg_3 (c_W_firstCause C.2.2.2.2.2.2.2.2.2.2 hc38) (cwV 1 C.2.2.2.2.1 (gTB_V tw_429 mv_W_firstCause) rfl rfl rfl pd_W_firstCause ⟨Nat.le_of_ble_eq_true rfl, Nat.le_of_ble_eq_true rfl⟩) rfl rfl (Nat.le_of_ble_eq_true rfl) d_P_show_38 ⟨Nat.le_of_ble_eq_true rfl, Nat.le_of_ble_eq_true rfl⟩ ?_
      refine gw_istore_n (lv' := [(2, .int r38), (0, .ref (ad 23)), (1, .int x1)]) C d_P_show_41 rfl (by decide) rfl ?_
      refine gw_aload_n C 1 d_P_show_42 rfl rfl ?_
      refine gw_get C in_P 23 wcg_23 clg_2 1 (by decide) tw_187 rfl rfl d_P_show_43 ?_
      refine gw_iload_n C 2 d_P_show_46 rfl rfl ?_
      obtain ⟨r47, M47, hc47, hf⟩ := ob_some hf
      refine gw_callVr (rest := []) C 11 wcg_11 clg_3 (c_W_secondCause C.2.2.2.2.2.2.2.2.2.2 hc47) (cwV 1 C.2.2.2.2.1 (gTB_V tw_434 mv_W_secondCause) rfl rfl rfl pd_W_secondCause ⟨Nat.le_of_ble_eq_true rfl, Nat.le_of_ble_eq_true rfl⟩) rfl rfl (Nat.le_of_ble_eq_true rfl) d_P_show_47 ⟨Nat.le_of_ble_eq_true rfl, Nat.le_of_ble_eq_true rfl⟩ ?_
      refine gw_istore_n (lv' := [(3, .int r47), (2, .int r38), (0, .ref (ad 23)), (1, .int x1)]) C d_P_show_50 rfl (by decide) rfl ?_
      refine gw_aload_n C 2 d_P_show_51 rfl rfl ?_
      refine gw_aload_n C 2 d_P_show_52 rfl rfl ?_
      refine gw_get C in_P 23 wcg_23 clg_2 1 (by decide) tw_187 rfl rfl d_P_show_53 ?_
      refine gw_iload_n C 3 d_P_show_56 rfl rfl ?_
      obtain ⟨r57, M57, hc57, hf⟩ := ob_some hf
      refine gw_callVr (rest := [.ref (ad 23)]) C 11 wcg_11 clg_3 (c_W_opening C.2.2.2.2.2.2.2.2.2.2 hc57) (cwV 1 C.2.2.2.2.1 (gTB_V tw_438 mv_W_opening) rfl rfl rfl pd_W_opening ⟨Nat.le_of_ble_eq_true rfl, Nat.le_of_ble_eq_true rfl⟩) rfl rfl (Nat.le_of_ble_eq_true rfl) d_P_show_57 ⟨Nat.le_of_ble_eq_true rfl, Nat.le_of_ble_eq_true rfl⟩ ?_
      obtain ⟨r60, M60, hc60, hf⟩ := ob_some hf
      refine gw_callSr (rest := [.ref (ad 23)]) C (c_P_openingWords C.2.2.2.2.2.2.2.2.2.2 hc60) (cwS 1 C.2.2.2.2.1 (gTB_S tw_442 mv_P_openingWords) rfl rfl rfl pd_P_openingWords ⟨Nat.le_of_ble_eq_true rfl, Nat.le_of_ble_eq_true rfl⟩) rfl rfl (Nat.le_of_ble_eq_true rfl) d_P_show_60 ⟨Nat.le_of_ble_eq_true rfl, Nat.le_of_ble_eq_true rfl⟩ ?_
      obtain ⟨M63, hc63, hf⟩ := om_some hf
      refine gw_callVv (rest := []) C 23 wcg_23 clg_2 (c_P_putS C.2.2.2.2.2.2.2.2.2.2 hc63) (cwV 1 C.2.2.2.2.1 (gTB_V tw_449 mv_P_putS) rfl rfl rfl pd_P_putS ⟨Nat.le_of_ble_eq_true rfl, Nat.le_of_ble_eq_true rfl⟩) rfl rfl (Nat.le_of_ble_eq_true rfl) d_P_show_63 ⟨Nat.le_of_ble_eq_true rfl, Nat.le_of_ble_eq_true rfl⟩ ?_
      refine gw_iload_n C 1 d_P_show_66 rfl rfl ?_
      refine gw_iconst (v := (-1 : Int32)) C d_P_show_67 (by decide) ?_
      refine gw_icmp_eq (tgt := 81) C d_P_show_68 (by decide) (fun c => ?_) (fun c => ?_)
      · have hf := (if_pos c).symm.trans hf
        exact gw_sub [2, 3, 1, 0] rfl (g_P_show_81 C hf)
      · have hf := (if_neg c).symm.trans hf
        refine gw_aload_n C 2 d_P_show_71 rfl rfl ?_
        refine gw_iload_n C 1 d_P_show_72 rfl rfl ?_
        obtain ⟨M73, hc73, hf⟩ := om_some hf
        refine gw_callVv (rest := []) C 23 wcg_23 clg_2 (c_P_tellNode C.2.2.2.2.2.2.2.2.2.2 hc73) (cwV 1 C.2.2.2.2.1 (gTB_V tw_505 mv_P_tellNode) rfl rfl rfl pd_P_tellNode ⟨Nat.le_of_ble_eq_true rfl, Nat.le_of_ble_eq_true rfl⟩) rfl rfl (Nat.le_of_ble_eq_true rfl) d_P_show_73 ⟨Nat.le_of_ble_eq_true rfl, Nat.le_of_ble_eq_true rfl⟩ ?_
        refine gw_aload_n C 2 d_P_show_76 rfl rfl ?_
        refine gw_iload_n C 1 d_P_show_77 rfl rfl ?_
        obtain ⟨M78, hc78, hf⟩ := om_some hf
        refine gw_callVv (rest := []) C 23 wcg_23 clg_2 (c_P_tellNumber C.2.2.2.2.2.2.2.2.2.2 hc78) (cwV 1 C.2.2.2.2.1 (gTB_V tw_571 mv_P_tellNumber) rfl rfl rfl pd_P_tellNumber ⟨Nat.le_of_ble_eq_true rfl, Nat.le_of_ble_eq_true rfl⟩) rfl rfl (Nat.le_of_ble_eq_true rfl) d_P_show_78 ⟨Nat.le_of_ble_eq_true rfl, Nat.le_of_ble_eq_true rfl⟩ ?_
        exact gw_sub [2, 3, 1, 0] rfl (g_P_show_81 C hf)
    · have hf := (if_pos c).symm.trans hf
      refine gw_iconst (v := (1 : Int32)) C d_P_show_21 (by decide) ?_
      exact gw_zreti C d_P_show_22 (wc ad cI cZ cC) (by decide) hf
  · have hf := (if_pos c).symm.trans hf
    refine gw_iconst (v := (0 : Int32)) C d_P_show_11 (by decide) ?_
    exact gw_zreti C d_P_show_12 (wc ad cI cZ cC) (by decide) hf
theorem c_P_show (hZ : gw_ZOK (ZS sk sv)) {x1 : Int32} {M : Mem} {r : Int32} {M' : Mem} (hf : f_P_show x1 M = some (r, M')) : CW l y_P_show ws_P_show rm_P_show D vwCl (tysW cI cZ cC) (ZS sk sv) [.ref (ad 23), .int x1] (wc ad cI cZ cC M) (some (.int r)) (wc ad cI cZ cC M') 0 0 :=
  CW.ofG hZ (by decide) rfl (Nat.le_of_ble_eq_true rfl) (fun _ _ _ _ _ _ _ _ C _ => g_P_show C hf)
end SPEECH
