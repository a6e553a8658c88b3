theorem tw_226 : Cond.fieldLink "NoneWords" 10 "NoneWords" "facts" "LNoneWords$Facts;" ∈ TB := inTB 226 (by decide +kernel) (by decide +kernel)
theorem tw_243 : Cond.methodLink "NoneWords" 41 ⟨"NoneWords$Facts", "addName", "(I)I"⟩ ∈ TB := inTB 243 (by decide +kernel) (by decide +kernel)
theorem tw_274 : Cond.methodLink "NoneWords" 49 ⟨"NoneWords$Facts", "addPairLeaf", "(IIIII)I"⟩ ∈ TB := inTB 274 (by decide +kernel) (by decide +kernel)
theorem tw_251 : Cond.methodLink "NoneWords" 45 ⟨"NoneWords$Facts", "addLeaf", "(III)I"⟩ ∈ TB := inTB 251 (by decide +kernel) (by decide +kernel)
theorem tw_282 : Cond.methodLink "NoneWords" 53 ⟨"NoneWords$Facts", "addJoin", "(III)I"⟩ ∈ TB := inTB 282 (by decide +kernel) (by decide +kernel)
theorem tw_298 : Cond.methodLink "NoneWords" 56 ⟨"NoneWords$Facts", "hasNode", "(I)Z"⟩ ∈ TB := inTB 298 (by decide +kernel) (by decide +kernel)
theorem tw_299 : Cond.methodLink "NoneWords" 60 ⟨"NoneWords$Facts", "countTerms", "(IZ)I"⟩ ∈ TB := inTB 299 (by decide +kernel) (by decide +kernel)
theorem tw_311 : Cond.methodLink "NoneWords" 64 ⟨"NoneWords$Facts", "nameOfTerm", "(II)I"⟩ ∈ TB := inTB 311 (by decide +kernel) (by decide +kernel)
theorem tw_315 : Cond.methodLink "NoneWords" 68 ⟨"NoneWords$Facts", "setOfTerm", "(II)I"⟩ ∈ TB := inTB 315 (by decide +kernel) (by decide +kernel)
theorem tw_319 : Cond.methodLink "NoneWords" 71 ⟨"NoneWords$Facts", "hasTermOf", "(IIZ)Z"⟩ ∈ TB := inTB 319 (by decide +kernel) (by decide +kernel)
theorem tw_228 : Cond.fieldLink "NoneWords" 30 "NoneWords" "speech" "LNoneWords$Speech;" ∈ TB := inTB 228 (by decide +kernel) (by decide +kernel)
theorem tw_324 : Cond.methodLink "NoneWords" 75 ⟨"NoneWords$Speech", "forget", "()V"⟩ ∈ TB := inTB 324 (by decide +kernel) (by decide +kernel)
theorem tw_227 : Cond.fieldLink "NoneWords" 21 "NoneWords" "writer" "LNoneWords$Writer;" ∈ TB := inTB 227 (by decide +kernel) (by decide +kernel)
theorem tw_328 : Cond.methodLink "NoneWords" 78 ⟨"NoneWords$Writer", "writeAll", "(I)I"⟩ ∈ TB := inTB 328 (by decide +kernel) (by decide +kernel)
theorem tw_421 : Cond.methodLink "NoneWords" 81 ⟨"NoneWords$Speech", "show", "(I)Z"⟩ ∈ TB := inTB 421 (by decide +kernel) (by decide +kernel)
theorem tw_582 : Cond.methodLink "NoneWords" 84 ⟨"NoneWords$Speech", "countSigns", "()I"⟩ ∈ TB := inTB 582 (by decide +kernel) (by decide +kernel)
theorem tw_591 : Cond.methodLink "NoneWords" 88 ⟨"NoneWords$Speech", "signAt", "(I)I"⟩ ∈ TB := inTB 591 (by decide +kernel) (by decide +kernel)
theorem tw_599 : Cond.methodLink "NoneWords" 91 ⟨"NoneWords$Writer", "numberOfSentence", "(I)I"⟩ ∈ TB := inTB 599 (by decide +kernel) (by decide +kernel)
theorem tw_607 : Cond.methodLink "NoneWords" 94 ⟨"NoneWords$Writer", "numberOfNode", "(I)I"⟩ ∈ TB := inTB 607 (by decide +kernel) (by decide +kernel)
theorem tw_229 : Cond.fieldLink "NoneWords" 37 "NoneWords" "search" "LNoneWords$Search;" ∈ TB := inTB 229 (by decide +kernel) (by decide +kernel)
theorem tw_612 : Cond.methodLink "NoneWords" 97 ⟨"NoneWords$Search", "findsWorld", "()Z"⟩ ∈ TB := inTB 612 (by decide +kernel) (by decide +kernel)
theorem tw_645 : Cond.methodLink "NoneWords" 101 ⟨"NoneWords$Search", "keepBlamed", "()I"⟩ ∈ TB := inTB 645 (by decide +kernel) (by decide +kernel)
theorem tw_663 : Cond.methodLink "NoneWords" 104 ⟨"NoneWords$Search", "blamed", "(I)I"⟩ ∈ TB := inTB 663 (by decide +kernel) (by decide +kernel)
theorem tw_671 : Cond.methodLink "NoneWords" 107 ⟨"NoneWords$Search", "release", "(I)I"⟩ ∈ TB := inTB 671 (by decide +kernel) (by decide +kernel)
section WORDS
variable {p : Program} {l : Launch} {e : Env} {s : State} {m : MethodId} {args : Array Value} {below : List Frame} {meth : Method} {c : Code} {D : va_G} {A : Nat → Prop} {ad : Nat → Nat} {cI cZ cC : ClassId} {sk sv : Nat → Nat}
abbrev b_N_name : ByteArray := prog_1_method_2_code
def y_N_name : MethodName := ⟨"NoneWords", "name", "(I)I"⟩
abbrev ws_N_name : List Cond := Cond.code y_N_name b_N_name 2 (some (FieldType.int)) :: TB
set_option maxRecDepth 100000 in
theorem tc_N_name : Cond.code y_N_name b_N_name 2 (some (FieldType.int)) ∈ TB := inTB 242 rfl rfl
theorem mv_N_name : Cond.instanceMethod y_N_name ∈ TB ∧ Cond.selects "NoneWords" y_N_name y_N_name ∈ TB ∧ Cond.initialized "NoneWords" ∈ TB ∧ Cond.code y_N_name b_N_name 2 (some (FieldType.int)) ∈ TB := ⟨inTB 240 (by decide +kernel) (by decide +kernel), inTB 241 (by decide +kernel) (by decide +kernel), inTB 65 (by decide +kernel) (by decide +kernel), tc_N_name⟩
theorem pd_N_name : y_N_name.cls = "NoneWords" ∧ y_N_name.cls ≠ "java/lang/invoke/MethodHandle" ∧ y_N_name.cls ≠ "java/lang/invoke/VarHandle" ∧ (parseMethodDescriptor y_N_name.desc).map (fun d => d.parameters.length) = some 1 := by decide +kernel
theorem d_N_name_0 : decode b_N_name 0 = .ok (.aload_n 0, 1) := by decide +kernel
theorem d_N_name_1 : decode b_N_name 1 = .ok (.getfield 10, 3) := by decide +kernel
theorem d_N_name_4 : decode b_N_name 4 = .ok (.iload_n 1, 1) := by decide +kernel
theorem d_N_name_5 : decode b_N_name 5 = .ok (.invokevirtual 41, 3) := by decide +kernel
theorem d_N_name_8 : decode b_N_name 8 = .ok (.ireturn, 1) := by decide +kernel
abbrev rm_N_name : Room := { frames := 1, cells := 0, slots := 0, locals := 21 }
def f_N_name (x1 : Int32) (M : Mem) : Option (Int32 × Mem) :=
  ob (f_F_addName x1 M) fun r5 M5 => some (r5, M5)
set_option maxRecDepth 100000 in
theorem g_N_name {r : Int32} {M' : Mem} (C : GC p s m args meth c b_N_name 2 (some (FieldType.int)) "NoneWords" TB D vwCl (tysW cI cZ cC) A (ZS sk sv)) {x1 : Int32} {M : Mem} (hf : f_N_name x1 M = some (r, M')) : GW p l e rm_N_name s m args below meth c (MQ below (QW D vwCl (tysW cI cZ cC) A (some (.int r)) (wc ad cI cZ cC M')) args s 0 0 A) D vwCl A 2 0 0 (wc ad cI cZ cC M) 0 [(0, .ref (ad 0)), (1, .int x1)] [] := by
  unfold f_N_name at hf
  refine gw_aload_n C 0 d_N_name_0 rfl rfl ?_
  refine gw_get C in_N 0 wcg_0 clg_4 0 (by decide) tw_226 rfl rfl d_N_name_1 ?_
  refine gw_iload_n C 1 d_N_name_4 rfl rfl ?_
  obtain ⟨r5, M5, hc5, hf⟩ := ob_some hf
  refine gw_callVr (rest := []) C 1 wcg_1 clg_0 (c_F_addName C.2.2.2.2.2.2.2.2.2.2 hc5) (cwV 1 C.2.2.2.2.1 (gTB_V tw_243 mv_F_addName) rfl rfl rfl pd_F_addName ⟨Nat.le_of_ble_eq_true rfl, Nat.le_of_ble_eq_true rfl⟩) rfl rfl (Nat.le_of_ble_eq_true rfl) d_N_name_5 ⟨Nat.le_of_ble_eq_true rfl, Nat.le_of_ble_eq_true rfl⟩ ?_
  exact gw_ireti C d_N_name_8 (wc ad cI cZ cC) hf
theorem c_N_name (hZ : gw_ZOK (ZS sk sv)) {x1 : Int32} {M : Mem} {r : Int32} {M' : Mem} (hf : f_N_name x1 M = some (r, M')) : CW l y_N_name ws_N_name rm_N_name D vwCl (tysW cI cZ cC) (ZS sk sv) [.ref (ad 0), .int x1] (wc ad cI cZ cC M) (some (.int r)) (wc ad cI cZ cC M') 0 0 :=
  CW.ofG hZ (by decide) rfl (Nat.le_of_ble_eq_true rfl) (fun _ _ _ _ _ _ _ _ C _ => g_N_name C hf)
abbrev b_N_leaf : ByteArray := prog_1_method_3_code
def y_N_leaf : MethodName := ⟨"NoneWords", "leaf", "(IIIII)I"⟩
abbrev ws_N_leaf : List Cond := Cond.code y_N_leaf b_N_leaf 6 (some (FieldType.int)) :: TB
set_option maxRecDepth 100000 in
theorem tc_N_leaf : Cond.code y_N_leaf b_N_leaf 6 (some (FieldType.int)) ∈ TB := inTB 250 rfl rfl
theorem mv_N_leaf : Cond.instanceMethod y_N_leaf ∈ TB ∧ Cond.selects "NoneWords" y_N_leaf y_N_leaf ∈ TB ∧ Cond.initialized "NoneWords" ∈ TB ∧ Cond.code y_N_leaf b_N_leaf 6 (some (FieldType.int)) ∈ TB := ⟨inTB 248 (by decide +kernel) (by decide +kernel), inTB 249 (by decide +kernel) (by decide +kernel), inTB 65 (by decide +kernel) (by decide +kernel), tc_N_leaf⟩
theorem pd_N_leaf : y_N_leaf.cls = "NoneWords" ∧ y_N_leaf.cls ≠ "java/lang/invoke/MethodHandle" ∧ y_N_leaf.cls ≠ "java/lang/invoke/VarHandle" ∧ (parseMethodDescriptor y_N_leaf.desc).map (fun d => d.parameters.length) = some 5 := by decide +kernel
theorem d_N_leaf_0 : decode b_N_leaf 0 = .ok (.iload_n 1, 1) := by decide +kernel
theorem d_N_leaf_1 : decode b_N_leaf 1 = .ok (.tableswitch 57 0 3 #[31, 42, 31, 42], 31) := by decide +kernel
theorem d_N_leaf_32 : decode b_N_leaf 32 = .ok (.aload_n 0, 1) := by decide +kernel
theorem d_N_leaf_33 : decode b_N_leaf 33 = .ok (.getfield 10, 3) := by decide +kernel
theorem d_N_leaf_36 : decode b_N_leaf 36 = .ok (.iload_n 1, 1) := by decide +kernel
theorem d_N_leaf_37 : decode b_N_leaf 37 = .ok (.iload_n 2, 1) := by decide +kernel
theorem d_N_leaf_38 : decode b_N_leaf 38 = .ok (.iload_n 3, 1) := by decide +kernel
theorem d_N_leaf_39 : decode b_N_leaf 39 = .ok (.invokevirtual 45, 3) := by decide +kernel
theorem d_N_leaf_42 : decode b_N_leaf 42 = .ok (.ireturn, 1) := by decide +kernel
theorem d_N_leaf_43 : decode b_N_leaf 43 = .ok (.aload_n 0, 1) := by decide +kernel
theorem d_N_leaf_44 : decode b_N_leaf 44 = .ok (.getfield 10, 3) := by decide +kernel
theorem d_N_leaf_47 : decode b_N_leaf 47 = .ok (.iload_n 1, 1) := by decide +kernel
theorem d_N_leaf_48 : decode b_N_leaf 48 = .ok (.iload_n 2, 1) := by decide +kernel
theorem d_N_leaf_49 : decode b_N_leaf 49 = .ok (.iload_n 3, 1) := by decide +kernel
theorem d_N_leaf_50 : decode b_N_leaf 50 = .ok (.iload 4, 2) := by decide +kernel
theorem d_N_leaf_52 : decode b_N_leaf 52 = .ok (.iload 5, 2) := by decide +kernel
theorem d_N_leaf_54 : decode b_N_leaf 54 = .ok (.invokevirtual 49, 3) := by decide +kernel
theorem d_N_leaf_57 : decode b_N_leaf 57 = .ok (.ireturn, 1) := by decide +kernel
theorem d_N_leaf_58 : decode b_N_leaf 58 = .ok (.iconst (-1), 1) := by decide +kernel
theorem d_N_leaf_59 : decode b_N_leaf 59 = .ok (.ireturn, 1) := by decide +kernel
abbrev rm_N_leaf : Room := { frames := 3, cells := 0, slots := 0, locals := 70 }
def f_N_leaf_43 (x1 : Int32) (x2 : Int32) (x3 : Int32) (x4 : Int32) (x5 : Int32) (M : Mem) : Option (Int32 × Mem) :=
  ob (f_F_addPairLeaf x1 x2 x3 x4 x5 M) fun r54 M54 => some (r54, M54)
set_option maxRecDepth 100000 in
theorem g_N_leaf_43 {r : Int32} {M' : Mem} (C : GC p s m args meth c b_N_leaf 6 (some (FieldType.int)) "NoneWords" TB D vwCl (tysW cI cZ cC) A (ZS sk sv)) {x1 : Int32} {x2 : Int32} {x3 : Int32} {x4 : Int32} {x5 : Int32} {M : Mem} (hf : f_N_leaf_43 x1 x2 x3 x4 x5 M = some (r, M')) : GW p l e rm_N_leaf s m args below meth c (MQ below (QW D vwCl (tysW cI cZ cC) A (some (.int r)) (wc ad cI cZ cC M')) args s 0 0 A) D vwCl A 6 0 0 (wc ad cI cZ cC M) 43 [(0, .ref (ad 0)), (1, .int x1), (2, .int x2), (3, .int x3), (4, .int x4), (5, .int x5)] [] := by
  unfold f_N_leaf_43 at hf
  refine gw_aload_n C 0 d_N_leaf_43 rfl rfl ?_
  refine gw_get C in_N 0 wcg_0 clg_4 0 (by decide) tw_226 rfl rfl d_N_leaf_44 ?_
  refine gw_iload_n C 1 d_N_leaf_47 rfl rfl ?_
  refine gw_iload_n C 2 d_N_leaf_48 rfl rfl ?_
  refine gw_iload_n C 3 d_N_leaf_49 rfl rfl ?_
  refine gw_iload C 4 d_N_leaf_50 rfl ?_
  refine gw_iload C 5 d_N_leaf_52 rfl ?_
  obtain ⟨r54, M54, hc54, hf⟩ := ob_some hf
  refine gw_callVr (rest := []) C 1 wcg_1 clg_0 (c_F_addPairLeaf C.2.2.2.2.2.2.2.2.2.2 hc54) (cwV 5 C.2.2.2.2.1 (gTB_V tw_274 mv_F_addPairLeaf) rfl rfl rfl pd_F_addPairLeaf ⟨Nat.le_of_ble_eq_true rfl, Nat.le_of_ble_eq_true rfl⟩) rfl rfl (Nat.le_of_ble_eq_true rfl) d_N_leaf_54 ⟨Nat.le_of_ble_eq_true rfl, Nat.le_of_ble_eq_true rfl⟩ ?_
  exact gw_ireti C d_N_leaf_57 (wc ad cI cZ cC) hf
def f_N_leaf_32 (x1 : Int32) (x2 : Int32) (x3 : Int32) (M : Mem) : Option (Int32 × Mem) :=
  ob (f_F_addLeaf x1 x2 x3 M) fun r39 M39 => some (r39, M39)
set_option maxRecDepth 100000 in
theorem g_N_leaf_32 {r : Int32} {M' : Mem} (C : GC p s m args meth c b_N_leaf 6 (some (FieldType.int)) "NoneWords" TB D vwCl (tysW cI cZ cC) A (ZS sk sv)) {x1 : Int32} {x2 : Int32} {x3 : Int32} {M : Mem} (hf : f_N_leaf_32 x1 x2 x3 M = some (r, M')) : GW p l e rm_N_leaf s m args below meth c (MQ below (QW D vwCl (tysW cI cZ cC) A (some (.int r)) (wc ad cI cZ cC M')) args s 0 0 A) D vwCl A 6 0 0 (wc ad cI cZ cC M) 32 [(0, .ref (ad 0)), (1, .int x1), (2, .int x2), (3, .int x3)] [] := by
  unfold f_N_leaf_32 at hf
  refine gw_aload_n C 0 d_N_leaf_32 rfl rfl ?_
  refine gw_get C in_N 0 wcg_0 clg_4 0 (by decide) tw_226 rfl rfl d_N_leaf_33 ?_
  refine gw_iload_n C 1 d_N_leaf_36 rfl rfl ?_
  refine gw_iload_n C 2 d_N_leaf_37 rfl rfl ?_
  refine gw_iload_n C 3 d_N_leaf_38 rfl rfl ?_
  obtain ⟨r39, M39, hc39, hf⟩ := ob_some hf
  refine gw_callVr (rest := []) C 1 wcg_1 clg_0 (c_F_addLeaf C.2.2.2.2.2.2.2.2.2.2 hc39) (cwV 3 C.2.2.2.2.1 (gTB_V tw_251 mv_F_addLeaf) rfl rfl rfl pd_F_addLeaf ⟨Nat.le_of_ble_eq_true rfl, Nat.le_of_ble_eq_true rfl⟩) rfl rfl (Nat.le_of_ble_eq_true rfl) d_N_leaf_39 ⟨Nat.le_of_ble_eq_true rfl, Nat.le_of_ble_eq_true rfl⟩ ?_
  exact gw_ireti C d_N_leaf_42 (wc ad cI cZ cC) hf
def f_N_leaf (x1 : Int32) (x2 : Int32) (x3 : Int32) (x4 : Int32) (x5 : Int32) (M : Mem) : Option (Int32 × Mem) :=
  if x1 = (0 : Int32) then f_N_leaf_32 x1 x2 x3 M else if x1 = (1 : Int32) then f_N_leaf_43 x1 x2 x3 x4 x5 M else if x1 = (2 : Int32) then f_N_leaf_32 x1 x2 x3 M else if x1 = (3 : Int32) then f_N_leaf_43 x1 x2 x3 x4 x5 M else some ((-1 : Int32), M)
set_option maxRecDepth 100000 in
theorem g_N_leaf {r : Int32} {M' : Mem} (C : GC p s m args meth c b_N_leaf 6 (some (FieldType.int)) "NoneWords" TB D vwCl (tysW cI cZ cC) A (ZS sk sv)) {x1 : Int32} {x2 : Int32} {x3 : Int32} {x4 : Int32} {x5 : Int32} {M : Mem} (hf : f_N_leaf x1 x2 x3 x4 x5 M = some (r, M')) : GW p l e rm_N_leaf s m args below meth c (MQ below (QW D vwCl (tysW cI cZ cC) A (some (.int r)) (wc ad cI cZ cC M')) args s 0 0 A) D vwCl A 6 0 0 (wc ad cI cZ cC M) 0 [(0, .ref (ad 0)), (1, .int x1), (2, .int x2), (3, .int x3), (4, .int x4), (5, .int x5)] [] := by
  unfold f_N_leaf at hf
  refine gw_iload_n C 1 d_N_leaf_0 rfl rfl ?_
  by_cases c0 : x1 = (0 : Int32)
  · have hf := (if_pos c0).symm.trans hf
    refine gw_tableIn (tgt := 32) C (0 : Int32) c0 d_N_leaf_1 (by decide) (by decide) rfl (by decide) ?_
    exact gw_sub [0, 1, 2, 3] rfl (g_N_leaf_32 C hf)
  · have hf := (if_neg c0).symm.trans hf
    by_cases c1 : x1 = (1 : Int32)
    · have hf := (if_pos c1).symm.trans hf
      refine gw_tableIn (tgt := 43) C (1 : Int32) c1 d_N_leaf_1 (by decide) (by decide) rfl (by decide) ?_
      exact gw_sub [0, 1, 2, 3, 4, 5] rfl (g_N_leaf_43 C hf)
    · have hf := (if_neg c1).symm.trans hf
      by_cases c2 : x1 = (2 : Int32)
      · have hf := (if_pos c2).symm.trans hf
        refine gw_tableIn (tgt := 32) C (2 : Int32) c2 d_N_leaf_1 (by decide) (by decide) rfl (by decide) ?_
        exact gw_sub [0, 1, 2, 3] rfl (g_N_leaf_32 C hf)
      · have hf := (if_neg c2).symm.trans hf
        by_cases c3 : x1 = (3 : Int32)
        · have hf := (if_pos c3).symm.trans hf
          refine gw_tableIn (tgt := 43) C (3 : Int32) c3 d_N_leaf_1 (by decide) (by decide) rfl (by decide) ?_
          exact gw_sub [0, 1, 2, 3, 4, 5] rfl (g_N_leaf_43 C hf)
        · have hf := (if_neg c3).symm.trans hf
          refine gw_tableOut (tgt := 58) C d_N_leaf_1 (by have zc0 := lv_neT c0 (a := 0) (by decide); have zc1 := lv_neT c1 (a := 1) (by decide); have zc2 := lv_neT c2 (a := 2) (by decide); have zc3 := lv_neT c3 (a := 3) (by decide); omega) (by decide) ?_
          refine gw_iconst (v := (-1 : Int32)) C d_N_leaf_58 (by decide) ?_
          exact gw_ireti C d_N_leaf_59 (wc ad cI cZ cC) hf
theorem c_N_leaf (hZ : gw_ZOK (ZS sk sv)) {x1 : Int32} {x2 : Int32} {x3 : Int32} {x4 : Int32} {x5 : Int32} {M : Mem} {r : Int32} {M' : Mem} (hf : f_N_leaf x1 x2 x3 x4 x5 M = some (r, M')) : CW l y_N_leaf ws_N_leaf rm_N_leaf D vwCl (tysW cI cZ cC) (ZS sk sv) [.ref (ad 0), .int x1, .int x2, .int x3, .int x4, .int x5] (wc ad cI cZ cC M) (some (.int r)) (wc ad cI cZ cC M') 0 0 :=
  CW.ofG hZ (by decide) rfl (Nat.le_of_ble_eq_true rfl) (fun _ _ _ _ _ _ _ _ C _ => g_N_leaf C hf)
abbrev b_N_join : ByteArray := prog_1_method_4_code
def y_N_join : MethodName := ⟨"NoneWords", "join", "(III)I"⟩
abbrev ws_N_join : List Cond := Cond.code y_N_join b_N_join 4 (some (FieldType.int)) :: TB
set_option maxRecDepth 100000 in
theorem tc_N_join : Cond.code y_N_join b_N_join 4 (some (FieldType.int)) ∈ TB := inTB 281 rfl rfl
theorem mv_N_join : Cond.instanceMethod y_N_join ∈ TB ∧ Cond.selects "NoneWords" y_N_join y_N_join ∈ TB ∧ Cond.initialized "NoneWords" ∈ TB ∧ Cond.code y_N_join b_N_join 4 (some (FieldType.int)) ∈ TB := ⟨inTB 279 (by decide +kernel) (by decide +kernel), inTB 280 (by decide +kernel) (by decide +kernel), inTB 65 (by decide +kernel) (by decide +kernel), tc_N_join⟩
theorem pd_N_join : y_N_join.cls = "NoneWords" ∧ y_N_join.cls ≠ "java/lang/invoke/MethodHandle" ∧ y_N_join.cls ≠ "java/lang/invoke/VarHandle" ∧ (parseMethodDescriptor y_N_join.desc).map (fun d => d.parameters.length) = some 3 := by decide +kernel
theorem d_N_join_0 : decode b_N_join 0 = .ok (.aload_n 0, 1) := by decide +kernel
theorem d_N_join_1 : decode b_N_join 1 = .ok (.getfield 10, 3) := by decide +kernel
theorem d_N_join_4 : decode b_N_join 4 = .ok (.iload_n 1, 1) := by decide +kernel
theorem d_N_join_5 : decode b_N_join 5 = .ok (.iload_n 2, 1) := by decide +kernel
theorem d_N_join_6 : decode b_N_join 6 = .ok (.iload_n 3, 1) := by decide +kernel
theorem d_N_join_7 : decode b_N_join 7 = .ok (.invokevirtual 53, 3) := by decide +kernel
theorem d_N_join_10 : decode b_N_join 10 = .ok (.ireturn, 1) := by decide +kernel
abbrev rm_N_join : Room := { frames := 2, cells := 0, slots := 0, locals := 48 }
def f_N_join (x1 : Int32) (x2 : Int32) (x3 : Int32) (M : Mem) : Option (Int32 × Mem) :=
  ob (f_F_addJoin x1 x2 x3 M) fun r7 M7 => some (r7, M7)
set_option maxRecDepth 100000 in
theorem g_N_join {r : Int32} {M' : Mem} (C : GC p s m args meth c b_N_join 4 (some (FieldType.int)) "NoneWords" TB D vwCl (tysW cI cZ cC) A (ZS sk sv)) {x1 : Int32} {x2 : Int32} {x3 : Int32} {M : Mem} (hf : f_N_join x1 x2 x3 M = some (r, M')) : GW p l e rm_N_join s m args below meth c (MQ below (QW D vwCl (tysW cI cZ cC) A (some (.int r)) (wc ad cI cZ cC M')) args s 0 0 A) D vwCl A 4 0 0 (wc ad cI cZ cC M) 0 [(0, .ref (ad 0)), (1, .int x1), (2, .int x2), (3, .int x3)] [] := by
  unfold f_N_join at hf
  refine gw_aload_n C 0 d_N_join_0 rfl rfl ?_
  refine gw_get C in_N 0 wcg_0 clg_4 0 (by decide) tw_226 rfl rfl d_N_join_1 ?_
  refine gw_iload_n C 1 d_N_join_4 rfl rfl ?_
  refine gw_iload_n C 2 d_N_join_5 rfl rfl ?_
  refine gw_iload_n C 3 d_N_join_6 rfl rfl ?_
  obtain ⟨r7, M7, hc7, hf⟩ := ob_some hf
  refine gw_callVr (rest := []) C 1 wcg_1 clg_0 (c_F_addJoin C.2.2.2.2.2.2.2.2.2.2 hc7) (cwV 3 C.2.2.2.2.1 (gTB_V tw_282 mv_F_addJoin) rfl rfl rfl pd_F_addJoin ⟨Nat.le_of_ble_eq_true rfl, Nat.le_of_ble_eq_true rfl⟩) rfl rfl (Nat.le_of_ble_eq_true rfl) d_N_join_7 ⟨Nat.le_of_ble_eq_true rfl, Nat.le_of_ble_eq_true rfl⟩ ?_
  exact gw_ireti C d_N_join_10 (wc ad cI cZ cC) hf
theorem c_N_join (hZ : gw_ZOK (ZS sk sv)) {x1 : Int32} {x2 : Int32} {x3 : Int32} {M : Mem} {r : Int32} {M' : Mem} (hf : f_N_join x1 x2 x3 M = some (r, M')) : CW l y_N_join ws_N_join rm_N_join D vwCl (tysW cI cZ cC) (ZS sk sv) [.ref (ad 0), .int x1, .int x2, .int x3] (wc ad cI cZ cC M) (some (.int r)) (wc ad cI cZ cC M') 0 0 :=
  CW.ofG hZ (by decide) rfl (Nat.le_of_ble_eq_true rfl) (fun _ _ _ _ _ _ _ _ C _ => g_N_join C hf)
abbrev b_N_terms : ByteArray := prog_1_method_5_code
def y_N_terms : MethodName := ⟨"NoneWords", "terms", "(I)I"⟩
abbrev ws_N_terms : List Cond := Cond.code y_N_terms b_N_terms 2 (some (FieldType.int)) :: TB
set_option maxRecDepth 100000 in
theorem tc_N_terms : Cond.code y_N_terms b_N_terms 2 (some (FieldType.int)) ∈ TB := inTB 297 rfl rfl
theorem mv_N_terms : Cond.instanceMethod y_N_terms ∈ TB ∧ Cond.selects "NoneWords" y_N_terms y_N_terms ∈ TB ∧ Cond.initialized "NoneWords" ∈ TB ∧ Cond.code y_N_terms b_N_terms 2 (some (FieldType.int)) ∈ TB := ⟨inTB 295 (by decide +kernel) (by decide +kernel), inTB 296 (by decide +kernel) (by decide +kernel), inTB 65 (by decide +kernel) (by decide +kernel), tc_N_terms⟩
theorem pd_N_terms : y_N_terms.cls = "NoneWords" ∧ y_N_terms.cls ≠ "java/lang/invoke/MethodHandle" ∧ y_N_terms.cls ≠ "java/lang/invoke/VarHandle" ∧ (parseMethodDescriptor y_N_terms.desc).map (fun d => d.parameters.length) = some 1 := by decide +kernel
theorem d_N_terms_0 : decode b_N_terms 0 = .ok (.aload_n 0, 1) := by decide +kernel
theorem d_N_terms_1 : decode b_N_terms 1 = .ok (.getfield 10, 3) := by decide +kernel
theorem d_N_terms_4 : decode b_N_terms 4 = .ok (.iload_n 1, 1) := by decide +kernel
theorem d_N_terms_5 : decode b_N_terms 5 = .ok (.invokevirtual 56, 3) := by decide +kernel
theorem d_N_terms_8 : decode b_N_terms 8 = .ok (.ifCond .ne 5, 3) := by decide +kernel
theorem d_N_terms_11 : decode b_N_terms 11 = .ok (.iconst (-1), 1) := by decide +kernel
theorem d_N_terms_12 : decode b_N_terms 12 = .ok (.ireturn, 1) := by decide +kernel
theorem d_N_terms_13 : decode b_N_terms 13 = .ok (.aload_n 0, 1) := by decide +kernel
theorem d_N_terms_14 : decode b_N_terms 14 = .ok (.getfield 10, 3) := by decide +kernel
theorem d_N_terms_17 : decode b_N_terms 17 = .ok (.iload_n 1, 1) := by decide +kernel
theorem d_N_terms_18 : decode b_N_terms 18 = .ok (.iconst 1, 1) := by decide +kernel
theorem d_N_terms_19 : decode b_N_terms 19 = .ok (.invokevirtual 60, 3) := by decide +kernel
theorem d_N_terms_22 : decode b_N_terms 22 = .ok (.aload_n 0, 1) := by decide +kernel
theorem d_N_terms_23 : decode b_N_terms 23 = .ok (.getfield 10, 3) := by decide +kernel
theorem d_N_terms_26 : decode b_N_terms 26 = .ok (.iload_n 1, 1) := by decide +kernel
theorem d_N_terms_27 : decode b_N_terms 27 = .ok (.iconst 0, 1) := by decide +kernel
theorem d_N_terms_28 : decode b_N_terms 28 = .ok (.invokevirtual 60, 3) := by decide +kernel
theorem d_N_terms_31 : decode b_N_terms 31 = .ok (.iadd, 1) := by decide +kernel
theorem d_N_terms_32 : decode b_N_terms 32 = .ok (.ireturn, 1) := by decide +kernel
abbrev rm_N_terms : Room := { frames := 3, cells := 0, slots := 0, locals := 71 }
def f_N_terms (x1 : Int32) (M : Mem) : Option (Int32 × Mem) :=
  ob (f_F_hasNode x1 M) fun r5 M5 => if r5 = 0 then some ((-1 : Int32), M5) else ob (f_F_countTerms x1 (1 : Int32) M5) fun r19 M19 => ob (f_F_countTerms x1 (0 : Int32) M19) fun r28 M28 => some (r19 + r28, M28)
set_option maxRecDepth 100000 in
theorem g_N_terms {r : Int32} {M' : Mem} (C : GC p s m args meth c b_N_terms 2 (some (FieldType.int)) "NoneWords" TB D vwCl (tysW cI cZ cC) A (ZS sk sv)) {x1 : Int32} {M : Mem} (hf : f_N_terms x1 M = some (r, M')) : GW p l e rm_N_terms s m args below meth c (MQ below (QW D vwCl (tysW cI cZ cC) A (some (.int r)) (wc ad cI cZ cC M')) args s 0 0 A) D vwCl A 2 0 0 (wc ad cI cZ cC M) 0 [(0, .ref (ad 0)), (1, .int x1)] [] := by
  unfold f_N_terms at hf
  refine gw_aload_n C 0 d_N_terms_0 rfl rfl ?_
  refine gw_get C in_N 0 wcg_0 clg_4 0 (by decide) tw_226 rfl rfl d_N_terms_1 ?_
  refine gw_iload_n C 1 d_N_terms_4 rfl rfl ?_
  obtain ⟨r5, M5, hc5, hf⟩ := ob_some hf
  refine gw_callVr (rest := []) C 1 wcg_1 clg_0 (c_F_hasNode C.2.2.2.2.2.2.2.2.2.2 hc5) (cwV 1 C.2.2.2.2.1 (gTB_V tw_298 mv_F_hasNode) rfl rfl rfl pd_F_hasNode ⟨Nat.le_of_ble_eq_true rfl, Nat.le_of_ble_eq_true rfl⟩) rfl rfl (Nat.le_of_ble_eq_true rfl) d_N_terms_5 ⟨Nat.le_of_ble_eq_true rfl, Nat.le_of_ble_eq_true rfl⟩ ?_
  refine gw_if_ne (tgt := 13) C d_N_terms_8 (by decide) (fun c => ?_) (fun c => ?_)
  · have hf := (if_neg c).symm.trans hf
    refine gw_aload_n C 0 d_N_terms_13 rfl rfl ?_
    refine gw_get C in_N 0 wcg_0 clg_4 0 (by decide) tw_226 rfl rfl d_N_terms_14 ?_
    refine gw_iload_n C 1 d_N_terms_17 rfl rfl ?_
    refine gw_iconst (v := (1 : Int32)) C d_N_terms_18 (by decide) ?_
    obtain ⟨r19, M19, hc19, hf⟩ := ob_some hf
    refine gw_callVr (rest := []) C 1 wcg_1 clg_0 (c_F_countTerms C.2.2.2.2.2.2.2.2.2.2 hc19) (cwV 2 C.2.2.2.2.1 (gTB_V tw_299 mv_F_countTerms) rfl rfl rfl pd_F_countTerms ⟨Nat.le_of_ble_eq_true rfl, Nat.le_of_ble_eq_true rfl⟩) rfl rfl (Nat.le_of_ble_eq_true rfl) d_N_terms_19 ⟨Nat.le_of_ble_eq_true rfl, Nat.le_of_ble_eq_true rfl⟩ ?_
    refine gw_aload_n C 0 d_N_terms_22 rfl rfl ?_
    refine gw_get C in_N 0 wcg_0 clg_4 0 (by decide) tw_226 rfl rfl d_N_terms_23 ?_
    refine gw_iload_n C 1 d_N_terms_26 rfl rfl ?_
    refine gw_iconst (v := (0 : Int32)) C d_N_terms_27 (by decide) ?_
    obtain ⟨r28, M28, hc28, hf⟩ := ob_some hf
    refine gw_callVr (rest := [.int r19]) C 1 wcg_1 clg_0 (c_F_countTerms C.2.2.2.2.2.2.2.2.2.2 hc28) (cwV 2 C.2.2.2.2.1 (gTB_V tw_299 mv_F_countTerms) rfl rfl rfl pd_F_countTerms ⟨Nat.le_of_ble_eq_true rfl, Nat.le_of_ble_eq_true rfl⟩) rfl rfl (Nat.le_of_ble_eq_true rfl) d_N_terms_28 ⟨Nat.le_of_ble_eq_true rfl, Nat.le_of_ble_eq_true rfl⟩ ?_
    refine gw_iadd C d_N_terms_31 ?_
    exact gw_ireti C d_N_terms_32 (wc ad cI cZ cC) hf
  · have hf := (if_pos c).symm.trans hf
    refine gw_iconst (v := (-1 : Int32)) C d_N_terms_11 (by decide) ?_
    exact gw_ireti C d_N_terms_12 (wc ad cI cZ cC) hf
theorem c_N_terms (hZ : gw_ZOK (ZS sk sv)) {x1 : Int32} {M : Mem} {r : Int32} {M' : Mem} (hf : f_N_terms x1 M = some (r, M')) : CW l y_N_terms ws_N_terms rm_N_terms D vwCl (tysW cI cZ cC) (ZS sk sv) [.ref (ad 0), .int x1] (wc ad cI cZ cC M) (some (.int r)) (wc ad cI cZ cC M') 0 0 :=
  CW.ofG hZ (by decide) rfl (Nat.le_of_ble_eq_true rfl) (fun _ _ _ _ _ _ _ _ C _ => g_N_terms C hf)
abbrev b_N_term : ByteArray := prog_1_method_6_code
def y_N_term : MethodName := ⟨"NoneWords", "term", "(III)I"⟩
abbrev ws_N_term : List Cond := Cond.code y_N_term b_N_term 5 (some (FieldType.int)) :: TB
set_option maxRecDepth 100000 in
theorem tc_N_term : Cond.code y_N_term b_N_term 5 (some (FieldType.int)) ∈ TB := inTB 310 rfl rfl
theorem mv_N_term : Cond.instanceMethod y_N_term ∈ TB ∧ Cond.selects "NoneWords" y_N_term y_N_term ∈ TB ∧ Cond.initialized "NoneWords" ∈ TB ∧ Cond.code y_N_term b_N_term 5 (some (FieldType.int)) ∈ TB := ⟨inTB 308 (by decide +kernel) (by decide +kernel), inTB 309 (by decide +kernel) (by decide +kernel), inTB 65 (by decide +kernel) (by decide +kernel), tc_N_term⟩
theorem pd_N_term : y_N_term.cls = "NoneWords" ∧ y_N_term.cls ≠ "java/lang/invoke/MethodHandle" ∧ y_N_term.cls ≠ "java/lang/invoke/VarHandle" ∧ (parseMethodDescriptor y_N_term.desc).map (fun d => d.parameters.length) = some 3 := by decide +kernel
theorem d_N_term_0 : decode b_N_term 0 = .ok (.aload_n 0, 1) := by decide +kernel
theorem d_N_term_1 : decode b_N_term 1 = .ok (.getfield 10, 3) := by decide +kernel
theorem d_N_term_4 : decode b_N_term 4 = .ok (.iload_n 1, 1) := by decide +kernel
theorem d_N_term_5 : decode b_N_term 5 = .ok (.iload_n 2, 1) := by decide +kernel
theorem d_N_term_6 : decode b_N_term 6 = .ok (.invokevirtual 64, 3) := by decide +kernel
theorem d_N_term_9 : decode b_N_term 9 = .ok (.istore 4, 2) := by decide +kernel
theorem d_N_term_11 : decode b_N_term 11 = .ok (.iload 4, 2) := by decide +kernel
theorem d_N_term_13 : decode b_N_term 13 = .ok (.iconst (-1), 1) := by decide +kernel
theorem d_N_term_14 : decode b_N_term 14 = .ok (.if_icmp .ne 5, 3) := by decide +kernel
theorem d_N_term_17 : decode b_N_term 17 = .ok (.iconst (-1), 1) := by decide +kernel
theorem d_N_term_18 : decode b_N_term 18 = .ok (.ireturn, 1) := by decide +kernel
theorem d_N_term_19 : decode b_N_term 19 = .ok (.iload_n 3, 1) := by decide +kernel
theorem d_N_term_20 : decode b_N_term 20 = .ok (.tableswitch 62 0 2 #[28, 31, 42], 28) := by decide +kernel
theorem d_N_term_48 : decode b_N_term 48 = .ok (.iload 4, 2) := by decide +kernel
theorem d_N_term_50 : decode b_N_term 50 = .ok (.ireturn, 1) := by decide +kernel
theorem d_N_term_51 : decode b_N_term 51 = .ok (.aload_n 0, 1) := by decide +kernel
theorem d_N_term_52 : decode b_N_term 52 = .ok (.getfield 10, 3) := by decide +kernel
theorem d_N_term_55 : decode b_N_term 55 = .ok (.iload_n 1, 1) := by decide +kernel
theorem d_N_term_56 : decode b_N_term 56 = .ok (.iload 4, 2) := by decide +kernel
theorem d_N_term_58 : decode b_N_term 58 = .ok (.invokevirtual 68, 3) := by decide +kernel
theorem d_N_term_61 : decode b_N_term 61 = .ok (.ireturn, 1) := by decide +kernel
theorem d_N_term_62 : decode b_N_term 62 = .ok (.aload_n 0, 1) := by decide +kernel
theorem d_N_term_63 : decode b_N_term 63 = .ok (.getfield 10, 3) := by decide +kernel
theorem d_N_term_66 : decode b_N_term 66 = .ok (.iload_n 1, 1) := by decide +kernel
theorem d_N_term_67 : decode b_N_term 67 = .ok (.iload 4, 2) := by decide +kernel
theorem d_N_term_69 : decode b_N_term 69 = .ok (.iconst 1, 1) := by decide +kernel
theorem d_N_term_70 : decode b_N_term 70 = .ok (.invokevirtual 71, 3) := by decide +kernel
theorem d_N_term_73 : decode b_N_term 73 = .ok (.ifCond .eq 7, 3) := by decide +kernel
theorem d_N_term_76 : decode b_N_term 76 = .ok (.iconst 1, 1) := by decide +kernel
theorem d_N_term_77 : decode b_N_term 77 = .ok (.goto 4, 3) := by decide +kernel
theorem d_N_term_80 : decode b_N_term 80 = .ok (.iconst 0, 1) := by decide +kernel
theorem d_N_term_81 : decode b_N_term 81 = .ok (.ireturn, 1) := by decide +kernel
theorem d_N_term_82 : decode b_N_term 82 = .ok (.iconst (-1), 1) := by decide +kernel
theorem d_N_term_83 : decode b_N_term 83 = .ok (.ireturn, 1) := by decide +kernel
abbrev rm_N_term : Room := { frames := 2, cells := 0, slots := 0, locals := 47 }
def f_N_term (x1 : Int32) (x2 : Int32) (x3 : Int32) (M : Mem) : Option (Int32 × Mem) :=
  ob (f_F_nameOfTerm x1 x2 M) fun r6 M6 => if r6 = (-1 : Int32) then some ((-1 : Int32), M6) else if x3 = (0 : Int32) then some (r6, M6) else if x3 = (1 : Int32) then ob (f_F_setOfTerm x1 r6 M6) fun r58 M58 => some (r58, M58) else if x3 = (2 : Int32) then ob (f_F_hasTermOf x1 r6 (1 : Int32) M6) fun r70 M70 => if r70 = 0 then some ((0 : Int32), M70) else some ((1 : Int32), M70) else some ((-1 : Int32), M6)
set_option maxRecDepth 100000 in
theorem g_N_term {r : Int32} {M' : Mem} (C : GC p s m args meth c b_N_term 5 (some (FieldType.int)) "NoneWords" TB D vwCl (tysW cI cZ cC) A (ZS sk sv)) {x1 : Int32} {x2 : Int32} {x3 : Int32} {M : Mem} (hf : f_N_term x1 x2 x3 M = some (r, M')) : GW p l e rm_N_term s m args below meth c (MQ below (QW D vwCl (tysW cI cZ cC) A (some (.int r)) (wc ad cI cZ cC M')) args s 0 0 A) D vwCl A 5 0 0 (wc ad cI cZ cC M) 0 [(0, .ref (ad 0)), (1, .int x1), (2, .int x2), (3, .int x3)] [] := by
  unfold f_N_term at hf
  refine gw_aload_n C 0 d_N_term_0 rfl rfl ?_
  refine gw_get C in_N 0 wcg_0 clg_4 0 (by decide) tw_226 rfl rfl d_N_term_1 ?_
  refine gw_iload_n C 1 d_N_term_4 rfl rfl ?_
  refine gw_iload_n C 2 d_N_term_5 rfl rfl ?_
  obtain ⟨r6, M6, hc6, hf⟩ := ob_some hf
  refine gw_callVr (rest := []) C 1 wcg_1 clg_0 (c_F_nameOfTerm C.2.2.2.2.2.2.2.2.2.2 hc6) (cwV 2 C.2.2.2.2.1 (gTB_V tw_311 mv_F_nameOfTerm) rfl rfl rfl pd_F_nameOfTerm ⟨Nat.le_of_ble_eq_true rfl, Nat.le_of_ble_eq_true rfl⟩) rfl rfl (Nat.le_of_ble_eq_true rfl) d_N_term_6 ⟨Nat.le_of_ble_eq_true rfl, Nat.le_of_ble_eq_true rfl⟩ ?_
  refine gw_istore (lv' := [(4, .int r6), (0, .ref (ad 0)), (1, .int x1), (2, .int x2), (3, .int x3)]) C d_N_term_9 (by decide) rfl ?_
  refine gw_iload C 0 d_N_term_11 rfl ?_
  refine gw_iconst (v := (-1 : Int32)) C d_N_term_13 (by decide) ?_
  refine gw_icmp_ne (tgt := 19) C d_N_term_14 (by decide) (fun c => ?_) (fun c => ?_)
  · have hf := (if_neg c).symm.trans hf
    refine gw_iload_n C 4 d_N_term_19 rfl rfl ?_
    by_cases c0 : x3 = (0 : Int32)
    · have hf := (if_pos c0).symm.trans hf
      refine gw_tableIn (tgt := 48) C (0 : Int32) c0 d_N_term_20 (by decide) (by decide) rfl (by decide) ?_
      refine gw_iload C 0 d_N_term_48 rfl ?_
      exact gw_ireti C d_N_term_50 (wc ad cI cZ cC) hf
    · have hf := (if_neg c0).symm.trans hf
      by_cases c1 : x3 = (1 : Int32)
      · have hf := (if_pos c1).symm.trans hf
        refine gw_tableIn (tgt := 51) C (1 : Int32) c1 d_N_term_20 (by decide) (by decide) rfl (by decide) ?_
        refine gw_aload_n C 1 d_N_term_51 rfl rfl ?_
        refine gw_get C in_N 0 wcg_0 clg_4 0 (by decide) tw_226 rfl rfl d_N_term_52 ?_
        refine gw_iload_n C 2 d_N_term_55 rfl rfl ?_
        refine gw_iload C 0 d_N_term_56 rfl ?_
        obtain ⟨r58, M58, hc58, hf⟩ := ob_some hf
        refine gw_callVr (rest := []) C 1 wcg_1 clg_0 (c_F_setOfTerm C.2.2.2.2.2.2.2.2.2.2 hc58) (cwV 2 C.2.2.2.2.1 (gTB_V tw_315 mv_F_setOfTerm) rfl rfl rfl pd_F_setOfTerm ⟨Nat.le_of_ble_eq_true rfl, Nat.le_of_ble_eq_true rfl⟩) rfl rfl (Nat.le_of_ble_eq_true rfl) d_N_term_58 ⟨Nat.le_of_ble_eq_true rfl, Nat.le_of_ble_eq_true rfl⟩ ?_
        exact gw_ireti C d_N_term_61 (wc ad cI cZ cC) hf
      · have hf := (if_neg c1).symm.trans hf
        by_cases c2 : x3 = (2 : Int32)
        · have hf := (if_pos c2).symm.trans hf
          refine gw_tableIn (tgt := 62) C (2 : Int32) c2 d_N_term_20 (by decide) (by decide) rfl (by decide) ?_
          refine gw_aload_n C 1 d_N_term_62 rfl rfl ?_
          refine gw_get C in_N 0 wcg_0 clg_4 0 (by decide) tw_226 rfl rfl d_N_term_63 ?_
          refine gw_iload_n C 2 d_N_term_66 rfl rfl ?_
          refine gw_iload C 0 d_N_term_67 rfl ?_
          refine gw_iconst (v := (1 : Int32)) C d_N_term_69 (by decide) ?_
          obtain ⟨r70, M70, hc70, hf⟩ := ob_some hf
          refine gw_callVr (rest := []) C 1 wcg_1 clg_0 (c_F_hasTermOf C.2.2.2.2.2.2.2.2.2.2 hc70) (cwV 3 C.2.2.2.2.1 (gTB_V tw_319 mv_F_hasTermOf) rfl rfl rfl pd_F_hasTermOf ⟨Nat.le_of_ble_eq_true rfl, Nat.le_of_ble_eq_true rfl⟩) rfl rfl (Nat.le_of_ble_eq_true rfl) d_N_term_70 ⟨Nat.le_of_ble_eq_true rfl, Nat.le_of_ble_eq_true rfl⟩ ?_
          refine gw_if_eq (tgt := 80) C d_N_term_73 (by decide) (fun c => ?_) (fun c => ?_)
          · have hf := (if_pos c).symm.trans hf
            refine gw_iconst (v := (0 : Int32)) C d_N_term_80 (by decide) ?_
            exact gw_ireti C d_N_term_81 (wc ad cI cZ cC) hf
          · have hf := (if_neg c).symm.trans hf
            refine gw_iconst (v := (1 : Int32)) C d_N_term_76 (by decide) ?_
            refine gw_goto (tgt := 81) C d_N_term_77 (by decide) ?_
            exact gw_ireti C d_N_term_81 (wc ad cI cZ cC) hf
        · have hf := (if_neg c2).symm.trans hf
          refine gw_tableOut (tgt := 82) C d_N_term_20 (by have zc0 := lv_neT c0 (a := 0) (by decide); have zc1 := lv_neT c1 (a := 1) (by decide); have zc2 := lv_neT c2 (a := 2) (by decide); omega) (by decide) ?_
          refine gw_iconst (v := (-1 : Int32)) C d_N_term_82 (by decide) ?_
          exact gw_ireti C d_N_term_83 (wc ad cI cZ cC) hf
  · have hf := (if_pos c).symm.trans hf
    refine gw_iconst (v := (-1 : Int32)) C d_N_term_17 (by decide) ?_
    exact gw_ireti C d_N_term_18 (wc ad cI cZ cC) hf
theorem c_N_term (hZ : gw_ZOK (ZS sk sv)) {x1 : Int32} {x2 : Int32} {x3 : Int32} {M : Mem} {r : Int32} {M' : Mem} (hf : f_N_term x1 x2 x3 M = some (r, M')) : CW l y_N_term ws_N_term rm_N_term D vwCl (tysW cI cZ cC) (ZS sk sv) [.ref (ad 0), .int x1, .int x2, .int x3] (wc ad cI cZ cC M) (some (.int r)) (wc ad cI cZ cC M') 0 0 :=
  CW.ofG hZ (by decide) rfl (Nat.le_of_ble_eq_true rfl) (fun _ _ _ _ _ _ _ _ C _ => g_N_term C hf)
abbrev b_N_write : ByteArray := prog_1_method_7_code
def y_N_write : MethodName := ⟨"NoneWords", "write", "(I)I"⟩
abbrev ws_N_write : List Cond := Cond.code y_N_write b_N_write 2 (some (FieldType.int)) :: TB
set_option maxRecDepth 100000 in
theorem tc_N_write : Cond.code y_N_write b_N_write 2 (some (FieldType.int)) ∈ TB := inTB 323 rfl rfl
theorem mv_N_write : Cond.instanceMethod y_N_write ∈ TB ∧ Cond.selects "NoneWords" y_N_write y_N_write ∈ TB ∧ Cond.initialized "NoneWords" ∈ TB ∧ Cond.code y_N_write b_N_write 2 (some (FieldType.int)) ∈ TB := ⟨inTB 321 (by decide +kernel) (by decide +kernel), inTB 322 (by decide +kernel) (by decide +kernel), inTB 65 (by decide +kernel) (by decide +kernel), tc_N_write⟩
theorem pd_N_write : y_N_write.cls = "NoneWords" ∧ y_N_write.cls ≠ "java/lang/invoke/MethodHandle" ∧ y_N_write.cls ≠ "java/lang/invoke/VarHandle" ∧ (parseMethodDescriptor y_N_write.desc).map (fun d => d.parameters.length) = some 1 := by decide +kernel
theorem d_N_write_0 : decode b_N_write 0 = .ok (.aload_n 0, 1) := by decide +kernel
theorem d_N_write_1 : decode b_N_write 1 = .ok (.getfield 10, 3) := by decide +kernel
theorem d_N_write_4 : decode b_N_write 4 = .ok (.iload_n 1, 1) := by decide +kernel
theorem d_N_write_5 : decode b_N_write 5 = .ok (.invokevirtual 56, 3) := by decide +kernel
theorem d_N_write_8 : decode b_N_write 8 = .ok (.ifCond .ne 5, 3) := by decide +kernel
theorem d_N_write_11 : decode b_N_write 11 = .ok (.iconst (-1), 1) := by decide +kernel
theorem d_N_write_12 : decode b_N_write 12 = .ok (.ireturn, 1) := by decide +kernel
theorem d_N_write_13 : decode b_N_write 13 = .ok (.aload_n 0, 1) := by decide +kernel
theorem d_N_write_14 : decode b_N_write 14 = .ok (.getfield 30, 3) := by decide +kernel
theorem d_N_write_17 : decode b_N_write 17 = .ok (.invokevirtual 75, 3) := by decide +kernel
theorem d_N_write_20 : decode b_N_write 20 = .ok (.aload_n 0, 1) := by decide +kernel
theorem d_N_write_21 : decode b_N_write 21 = .ok (.getfield 21, 3) := by decide +kernel
theorem d_N_write_24 : decode b_N_write 24 = .ok (.iload_n 1, 1) := by decide +kernel
theorem d_N_write_25 : decode b_N_write 25 = .ok (.invokevirtual 78, 3) := by decide +kernel
theorem d_N_write_28 : decode b_N_write 28 = .ok (.ireturn, 1) := by decide +kernel
abbrev rm_N_write : Room := { frames := 6, cells := 0, slots := 0, locals := 140 }
def f_N_write (x1 : Int32) (M : Mem) : Option (Int32 × Mem) :=
  ob (f_F_hasNode x1 M) fun r5 M5 => if r5 = 0 then some ((-1 : Int32), M5) else om (f_P_forget M5) fun M17 => ob (f_W_writeAll x1 M17) fun r25 M25 => some (r25, M25)
set_option maxRecDepth 100000 in
theorem g_N_write {r : Int32} {M' : Mem} (C : GC p s m args meth c b_N_write 2 (some (FieldType.int)) "NoneWords" TB D vwCl (tysW cI cZ cC) A (ZS sk sv)) {x1 : Int32} {M : Mem} (hf : f_N_write x1 M = some (r, M')) : GW p l e rm_N_write s m args below meth c (MQ below (QW D vwCl (tysW cI cZ cC) A (some (.int r)) (wc ad cI cZ cC M')) args s 0 0 A) D vwCl A 2 0 0 (wc ad cI cZ cC M) 0 [(0, .ref (ad 0)), (1, .int x1)] [] := by
  unfold f_N_write at hf
  refine gw_aload_n C 0 d_N_write_0 rfl rfl ?_
  refine gw_get C in_N 0 wcg_0 clg_4 0 (by decide) tw_226 rfl rfl d_N_write_1 ?_
  refine gw_iload_n C 1 d_N_write_4 rfl rfl ?_
  obtain ⟨r5, M5, hc5, hf⟩ := ob_some hf
  refine gw_callVr (rest := []) C 1 wcg_1 clg_0 (c_F_hasNode C.2.2.2.2.2.2.2.2.2.2 hc5) (cwV 1 C.2.2.2.2.1 (gTB_V tw_298 mv_F_hasNode) rfl rfl rfl pd_F_hasNode ⟨Nat.le_of_ble_eq_true rfl, Nat.le_of_ble_eq_true rfl⟩) rfl rfl (Nat.le_of_ble_eq_true rfl) d_N_write_5 ⟨Nat.le_of_ble_eq_true rfl, Nat.le_of_ble_eq_true rfl⟩ ?_
  refine gw_if_ne (tgt := 13) C d_N_write_8 (by decide) (fun c => ?_) (fun c => ?_)
  · have hf := (if_neg c).symm.trans hf
    refine gw_aload_n C 0 d_N_write_13 rfl rfl ?_
    refine gw_get C in_N 0 wcg_0 clg_4 2 (by decide) tw_228 rfl rfl d_N_write_14 ?_
    obtain ⟨M17, hc17, hf⟩ := om_some hf
    refine gw_callVv (rest := []) C 23 wcg_23 clg_2 (c_P_forget C.2.2.2.2.2.2.2.2.2.2 hc17) (cwV 0 C.2.2.2.2.1 (gTB_V tw_324 mv_P_forget) rfl rfl rfl pd_P_forget ⟨Nat.le_of_ble_eq_true rfl, Nat.le_of_ble_eq_true rfl⟩) rfl rfl (Nat.le_of_ble_eq_true rfl) d_N_write_17 ⟨Nat.le_of_ble_eq_true rfl, Nat.le_of_ble_eq_true rfl⟩ ?_
    refine gw_aload_n C 0 d_N_write_20 rfl rfl ?_
    refine gw_get C in_N 0 wcg_0 clg_4 1 (by decide) tw_227 rfl rfl d_N_write_21 ?_
    refine gw_iload_n C 1 d_N_write_24 rfl rfl ?_
    obtain ⟨r25, M25, hc25, hf⟩ := ob_some hf
    refine gw_callVr (rest := []) C 11 wcg_11 clg_3 (c_W_writeAll C.2.2.2.2.2.2.2.2.2.2 hc25) (cwV 1 C.2.2.2.2.1 (gTB_V tw_328 mv_W_writeAll) rfl rfl rfl pd_W_writeAll ⟨Nat.le_of_ble_eq_true rfl, Nat.le_of_ble_eq_true rfl⟩) rfl rfl (Nat.le_of_ble_eq_true rfl) d_N_write_25 ⟨Nat.le_of_ble_eq_true rfl, Nat.le_of_ble_eq_true rfl⟩ ?_
    exact gw_ireti C d_N_write_28 (wc ad cI cZ cC) hf
  · have hf := (if_pos c).symm.trans hf
    refine gw_iconst (v := (-1 : Int32)) C d_N_write_11 (by decide) ?_
    exact gw_ireti C d_N_write_12 (wc ad cI cZ cC) hf
theorem c_N_write (hZ : gw_ZOK (ZS sk sv)) {x1 : Int32} {M : Mem} {r : Int32} {M' : Mem} (hf : f_N_write x1 M = some (r, M')) : CW l y_N_write ws_N_write rm_N_write D vwCl (tysW cI cZ cC) (ZS sk sv) [.ref (ad 0), .int x1] (wc ad cI cZ cC M) (some (.int r)) (wc ad cI cZ cC M') 0 0 :=
  CW.ofG hZ (by decide) rfl (Nat.le_of_ble_eq_true rfl) (fun _ _ _ _ _ _ _ _ C _ => g_N_write C hf)
abbrev b_N_sentence : ByteArray := prog_1_method_8_code
def y_N_sentence : MethodName := ⟨"NoneWords", "sentence", "(I)I"⟩
abbrev ws_N_sentence : List Cond := Cond.code y_N_sentence b_N_sentence 2 (some (FieldType.int)) :: TB
set_option maxRecDepth 100000 in
theorem tc_N_sentence : Cond.code y_N_sentence b_N_sentence 2 (some (FieldType.int)) ∈ TB := inTB 420 rfl rfl
theorem mv_N_sentence : Cond.instanceMethod y_N_sentence ∈ TB ∧ Cond.selects "NoneWords" y_N_sentence y_N_sentence ∈ TB ∧ Cond.initialized "NoneWords" ∈ TB ∧ Cond.code y_N_sentence b_N_sentence 2 (some (FieldType.int)) ∈ TB := ⟨inTB 418 (by decide +kernel) (by decide +kernel), inTB 419 (by decide +kernel) (by decide +kernel), inTB 65 (by decide +kernel) (by decide +kernel), tc_N_sentence⟩
theorem pd_N_sentence : y_N_sentence.cls = "NoneWords" ∧ y_N_sentence.cls ≠ "java/lang/invoke/MethodHandle" ∧ y_N_sentence.cls ≠ "java/lang/invoke/VarHandle" ∧ (parseMethodDescriptor y_N_sentence.desc).map (fun d => d.parameters.length) = some 1 := by decide +kernel
theorem d_N_sentence_0 : decode b_N_sentence 0 = .ok (.aload_n 0, 1) := by decide +kernel
theorem d_N_sentence_1 : decode b_N_sentence 1 = .ok (.getfield 30, 3) := by decide +kernel
theorem d_N_sentence_4 : decode b_N_sentence 4 = .ok (.iload_n 1, 1) := by decide +kernel
theorem d_N_sentence_5 : decode b_N_sentence 5 = .ok (.invokevirtual 81, 3) := by decide +kernel
theorem d_N_sentence_8 : decode b_N_sentence 8 = .ok (.ifCond .eq 13, 3) := by decide +kernel
theorem d_N_sentence_11 : decode b_N_sentence 11 = .ok (.aload_n 0, 1) := by decide +kernel
theorem d_N_sentence_12 : decode b_N_sentence 12 = .ok (.getfield 30, 3) := by decide +kernel
theorem d_N_sentence_15 : decode b_N_sentence 15 = .ok (.invokevirtual 84, 3) := by decide +kernel
theorem d_N_sentence_18 : decode b_N_sentence 18 = .ok (.goto 4, 3) := by decide +kernel
theorem d_N_sentence_21 : decode b_N_sentence 21 = .ok (.iconst (-1), 1) := by decide +kernel
theorem d_N_sentence_22 : decode b_N_sentence 22 = .ok (.ireturn, 1) := by decide +kernel
abbrev rm_N_sentence : Room := { frames := 10, cells := 0, slots := 0, locals := 227 }
def f_N_sentence (x1 : Int32) (M : Mem) : Option (Int32 × Mem) :=
  ob (f_P_show x1 M) fun r5 M5 => if r5 = 0 then some ((-1 : Int32), M5) else ob (f_P_countSigns M5) fun r15 M15 => some (r15, M15)
set_option maxRecDepth 100000 in
theorem g_N_sentence {r : Int32} {M' : Mem} (C : GC p s m args meth c b_N_sentence 2 (some (FieldType.int)) "NoneWords" TB D vwCl (tysW cI cZ cC) A (ZS sk sv)) {x1 : Int32} {M : Mem} (hf : f_N_sentence x1 M = some (r, M')) : GW p l e rm_N_sentence s m args below meth c (MQ below (QW D vwCl (tysW cI cZ cC) A (some (.int r)) (wc ad cI cZ cC M')) args s 0 0 A) D vwCl A 2 0 0 (wc ad cI cZ cC M) 0 [(0, .ref (ad 0)), (1, .int x1)] [] := by
  unfold f_N_sentence at hf
  refine gw_aload_n C 0 d_N_sentence_0 rfl rfl ?_
  refine gw_get C in_N 0 wcg_0 clg_4 2 (by decide) tw_228 rfl rfl d_N_sentence_1 ?_
  refine gw_iload_n C 1 d_N_sentence_4 rfl rfl ?_
  obtain ⟨r5, M5, hc5, hf⟩ := ob_some hf
  refine gw_callVr (rest := []) C 23 wcg_23 clg_2 (c_P_show C.2.2.2.2.2.2.2.2.2.2 hc5) (cwV 1 C.2.2.2.2.1 (gTB_V tw_421 mv_P_show) rfl rfl rfl pd_P_show ⟨Nat.le_of_ble_eq_true rfl, Nat.le_of_ble_eq_true rfl⟩) rfl rfl (Nat.le_of_ble_eq_true rfl) d_N_sentence_5 ⟨Nat.le_of_ble_eq_true rfl, Nat.le_of_ble_eq_true rfl⟩ ?_
  refine gw_if_eq (tgt := 21) C d_N_sentence_8 (by decide) (fun c => ?_) (fun c => ?_)
  · have hf := (if_pos c).symm.trans hf
    refine gw_iconst (v := (-1 : Int32)) C d_N_sentence_21 (by decide) ?_
    exact gw_ireti C d_N_sentence_22 (wc ad cI cZ cC) hf
  · have hf := (if_neg c).symm.trans hf
    refine gw_aload_n C 0 d_N_sentence_11 rfl rfl ?_
    refine gw_get C in_N 0 wcg_0 clg_4 2 (by decide) tw_228 rfl rfl d_N_sentence_12 ?_
    obtain ⟨r15, M15, hc15, hf⟩ := ob_some hf
    refine gw_callVr (rest := []) C 23 wcg_23 clg_2 (c_P_countSigns C.2.2.2.2.2.2.2.2.2.2 hc15) (cwV 0 C.2.2.2.2.1 (gTB_V tw_582 mv_P_countSigns) rfl rfl rfl pd_P_countSigns ⟨Nat.le_of_ble_eq_true rfl, Nat.le_of_ble_eq_true rfl⟩) rfl rfl (Nat.le_of_ble_eq_true rfl) d_N_sentence_15 ⟨Nat.le_of_ble_eq_true rfl, Nat.le_of_ble_eq_true rfl⟩ ?_
    refine gw_goto (tgt := 22) C d_N_sentence_18 (by decide) ?_
    exact gw_ireti C d_N_sentence_22 (wc ad cI cZ cC) hf
theorem c_N_sentence (hZ : gw_ZOK (ZS sk sv)) {x1 : Int32} {M : Mem} {r : Int32} {M' : Mem} (hf : f_N_sentence x1 M = some (r, M')) : CW l y_N_sentence ws_N_sentence rm_N_sentence D vwCl (tysW cI cZ cC) (ZS sk sv) [.ref (ad 0), .int x1] (wc ad cI cZ cC M) (some (.int r)) (wc ad cI cZ cC M') 0 0 :=
  CW.ofG hZ (by decide) rfl (Nat.le_of_ble_eq_true rfl) (fun _ _ _ _ _ _ _ _ C _ => g_N_sentence C hf)
abbrev b_N_letter : ByteArray := prog_1_method_9_code
def y_N_letter : MethodName := ⟨"NoneWords", "letter", "(II)I"⟩
abbrev ws_N_letter : List Cond := Cond.code y_N_letter b_N_letter 3 (some (FieldType.int)) :: TB
set_option maxRecDepth 100000 in
theorem tc_N_letter : Cond.code y_N_letter b_N_letter 3 (some (FieldType.int)) ∈ TB := inTB 590 rfl rfl
theorem mv_N_letter : Cond.instanceMethod y_N_letter ∈ TB ∧ Cond.selects "NoneWords" y_N_letter y_N_letter ∈ TB ∧ Cond.initialized "NoneWords" ∈ TB ∧ Cond.code y_N_letter b_N_letter 3 (some (FieldType.int)) ∈ TB := ⟨inTB 588 (by decide +kernel) (by decide +kernel), inTB 589 (by decide +kernel) (by decide +kernel), inTB 65 (by decide +kernel) (by decide +kernel), tc_N_letter⟩
theorem pd_N_letter : y_N_letter.cls = "NoneWords" ∧ y_N_letter.cls ≠ "java/lang/invoke/MethodHandle" ∧ y_N_letter.cls ≠ "java/lang/invoke/VarHandle" ∧ (parseMethodDescriptor y_N_letter.desc).map (fun d => d.parameters.length) = some 2 := by decide +kernel
theorem d_N_letter_0 : decode b_N_letter 0 = .ok (.aload_n 0, 1) := by decide +kernel
theorem d_N_letter_1 : decode b_N_letter 1 = .ok (.getfield 30, 3) := by decide +kernel
theorem d_N_letter_4 : decode b_N_letter 4 = .ok (.iload_n 1, 1) := by decide +kernel
theorem d_N_letter_5 : decode b_N_letter 5 = .ok (.invokevirtual 81, 3) := by decide +kernel
theorem d_N_letter_8 : decode b_N_letter 8 = .ok (.ifCond .eq 14, 3) := by decide +kernel
theorem d_N_letter_11 : decode b_N_letter 11 = .ok (.aload_n 0, 1) := by decide +kernel
theorem d_N_letter_12 : decode b_N_letter 12 = .ok (.getfield 30, 3) := by decide +kernel
theorem d_N_letter_15 : decode b_N_letter 15 = .ok (.iload_n 2, 1) := by decide +kernel
theorem d_N_letter_16 : decode b_N_letter 16 = .ok (.invokevirtual 88, 3) := by decide +kernel
theorem d_N_letter_19 : decode b_N_letter 19 = .ok (.goto 4, 3) := by decide +kernel
theorem d_N_letter_22 : decode b_N_letter 22 = .ok (.iconst (-1), 1) := by decide +kernel
theorem d_N_letter_23 : decode b_N_letter 23 = .ok (.ireturn, 1) := by decide +kernel
abbrev rm_N_letter : Room := { frames := 10, cells := 0, slots := 0, locals := 227 }
def f_N_letter (x1 : Int32) (x2 : Int32) (M : Mem) : Option (Int32 × Mem) :=
  ob (f_P_show x1 M) fun r5 M5 => if r5 = 0 then some ((-1 : Int32), M5) else ob (f_P_signAt x2 M5) fun r16 M16 => some (r16, M16)
set_option maxRecDepth 100000 in
theorem g_N_letter {r : Int32} {M' : Mem} (C : GC p s m args meth c b_N_letter 3 (some (FieldType.int)) "NoneWords" TB D vwCl (tysW cI cZ cC) A (ZS sk sv)) {x1 : Int32} {x2 : Int32} {M : Mem} (hf : f_N_letter x1 x2 M = some (r, M')) : GW p l e rm_N_letter s m args below meth c (MQ below (QW D vwCl (tysW cI cZ cC) A (some (.int r)) (wc ad cI cZ cC M')) args s 0 0 A) D vwCl A 3 0 0 (wc ad cI cZ cC M) 0 [(0, .ref (ad 0)), (1, .int x1), (2, .int x2)] [] := by
  unfold f_N_letter at hf
  refine gw_aload_n C 0 d_N_letter_0 rfl rfl ?_
  refine gw_get C in_N 0 wcg_0 clg_4 2 (by decide) tw_228 rfl rfl d_N_letter_1 ?_
  refine gw_iload_n C 1 d_N_letter_4 rfl rfl ?_
  obtain ⟨r5, M5, hc5, hf⟩ := ob_some hf
  refine gw_callVr (rest := []) C 23 wcg_23 clg_2 (c_P_show C.2.2.2.2.2.2.2.2.2.2 hc5) (cwV 1 C.2.2.2.2.1 (gTB_V tw_421 mv_P_show) rfl rfl rfl pd_P_show ⟨Nat.le_of_ble_eq_true rfl, Nat.le_of_ble_eq_true rfl⟩) rfl rfl (Nat.le_of_ble_eq_true rfl) d_N_letter_5 ⟨Nat.le_of_ble_eq_true rfl, Nat.le_of_ble_eq_true rfl⟩ ?_
  refine gw_if_eq (tgt := 22) C d_N_letter_8 (by decide) (fun c => ?_) (fun c => ?_)
  · have hf := (if_pos c).symm.trans hf
    refine gw_iconst (v := (-1 : Int32)) C d_N_letter_22 (by decide) ?_
    exact gw_ireti C d_N_letter_23 (wc ad cI cZ cC) hf
  · have hf := (if_neg c).symm.trans hf
    refine gw_aload_n C 0 d_N_letter_11 rfl rfl ?_
    refine gw_get C in_N 0 wcg_0 clg_4 2 (by decide) tw_228 rfl rfl d_N_letter_12 ?_
    refine gw_iload_n C 2 d_N_letter_15 rfl rfl ?_
    obtain ⟨r16, M16, hc16, hf⟩ := ob_some hf
    refine gw_callVr (rest := []) C 23 wcg_23 clg_2 (c_P_signAt C.2.2.2.2.2.2.2.2.2.2 hc16) (cwV 1 C.2.2.2.2.1 (gTB_V tw_591 mv_P_signAt) rfl rfl rfl pd_P_signAt ⟨Nat.le_of_ble_eq_true rfl, Nat.le_of_ble_eq_true rfl⟩) rfl rfl (Nat.le_of_ble_eq_true rfl) d_N_letter_16 ⟨Nat.le_of_ble_eq_true rfl, Nat.le_of_ble_eq_true rfl⟩ ?_
    refine gw_goto (tgt := 23) C d_N_letter_19 (by decide) ?_
    exact gw_ireti C d_N_letter_23 (wc ad cI cZ cC) hf
theorem c_N_letter (hZ : gw_ZOK (ZS sk sv)) {x1 : Int32} {x2 : Int32} {M : Mem} {r : Int32} {M' : Mem} (hf : f_N_letter x1 x2 M = some (r, M')) : CW l y_N_letter ws_N_letter rm_N_letter D vwCl (tysW cI cZ cC) (ZS sk sv) [.ref (ad 0), .int x1, .int x2] (wc ad cI cZ cC M) (some (.int r)) (wc ad cI cZ cC M') 0 0 :=
  CW.ofG hZ (by decide) rfl (Nat.le_of_ble_eq_true rfl) (fun _ _ _ _ _ _ _ _ C _ => g_N_letter C hf)
abbrev b_N_line : ByteArray := prog_1_method_10_code
def y_N_line : MethodName := ⟨"NoneWords", "line", "(I)I"⟩
abbrev ws_N_line : List Cond := Cond.code y_N_line b_N_line 2 (some (FieldType.int)) :: TB
set_option maxRecDepth 100000 in
theorem tc_N_line : Cond.code y_N_line b_N_line 2 (some (FieldType.int)) ∈ TB := inTB 598 rfl rfl
theorem mv_N_line : Cond.instanceMethod y_N_line ∈ TB ∧ Cond.selects "NoneWords" y_N_line y_N_line ∈ TB ∧ Cond.initialized "NoneWords" ∈ TB ∧ Cond.code y_N_line b_N_line 2 (some (FieldType.int)) ∈ TB := ⟨inTB 596 (by decide +kernel) (by decide +kernel), inTB 597 (by decide +kernel) (by decide +kernel), inTB 65 (by decide +kernel) (by decide +kernel), tc_N_line⟩
theorem pd_N_line : y_N_line.cls = "NoneWords" ∧ y_N_line.cls ≠ "java/lang/invoke/MethodHandle" ∧ y_N_line.cls ≠ "java/lang/invoke/VarHandle" ∧ (parseMethodDescriptor y_N_line.desc).map (fun d => d.parameters.length) = some 1 := by decide +kernel
theorem d_N_line_0 : decode b_N_line 0 = .ok (.aload_n 0, 1) := by decide +kernel
theorem d_N_line_1 : decode b_N_line 1 = .ok (.getfield 21, 3) := by decide +kernel
theorem d_N_line_4 : decode b_N_line 4 = .ok (.iload_n 1, 1) := by decide +kernel
theorem d_N_line_5 : decode b_N_line 5 = .ok (.invokevirtual 91, 3) := by decide +kernel
theorem d_N_line_8 : decode b_N_line 8 = .ok (.ireturn, 1) := by decide +kernel
abbrev rm_N_line : Room := { frames := 2, cells := 0, slots := 0, locals := 42 }
def f_N_line (x1 : Int32) (M : Mem) : Option (Int32 × Mem) :=
  ob (f_W_numberOfSentence x1 M) fun r5 M5 => some (r5, M5)
set_option maxRecDepth 100000 in
theorem g_N_line {r : Int32} {M' : Mem} (C : GC p s m args meth c b_N_line 2 (some (FieldType.int)) "NoneWords" TB D vwCl (tysW cI cZ cC) A (ZS sk sv)) {x1 : Int32} {M : Mem} (hf : f_N_line x1 M = some (r, M')) : GW p l e rm_N_line s m args below meth c (MQ below (QW D vwCl (tysW cI cZ cC) A (some (.int r)) (wc ad cI cZ cC M')) args s 0 0 A) D vwCl A 2 0 0 (wc ad cI cZ cC M) 0 [(0, .ref (ad 0)), (1, .int x1)] [] := by
  unfold f_N_line at hf
  refine gw_aload_n C 0 d_N_line_0 rfl rfl ?_
  refine gw_get C in_N 0 wcg_0 clg_4 1 (by decide) tw_227 rfl rfl d_N_line_1 ?_
  refine gw_iload_n C 1 d_N_line_4 rfl rfl ?_
  obtain ⟨r5, M5, hc5, hf⟩ := ob_some hf
  refine gw_callVr (rest := []) C 11 wcg_11 clg_3 (c_W_numberOfSentence C.2.2.2.2.2.2.2.2.2.2 hc5) (cwV 1 C.2.2.2.2.1 (gTB_V tw_599 mv_W_numberOfSentence) rfl rfl rfl pd_W_numberOfSentence ⟨Nat.le_of_ble_eq_true rfl, Nat.le_of_ble_eq_true rfl⟩) rfl rfl (Nat.le_of_ble_eq_true rfl) d_N_line_5 ⟨Nat.le_of_ble_eq_true rfl, Nat.le_of_ble_eq_true rfl⟩ ?_
  exact gw_ireti C d_N_line_8 (wc ad cI cZ cC) hf
theorem c_N_line (hZ : gw_ZOK (ZS sk sv)) {x1 : Int32} {M : Mem} {r : Int32} {M' : Mem} (hf : f_N_line x1 M = some (r, M')) : CW l y_N_line ws_N_line rm_N_line D vwCl (tysW cI cZ cC) (ZS sk sv) [.ref (ad 0), .int x1] (wc ad cI cZ cC M) (some (.int r)) (wc ad cI cZ cC M') 0 0 :=
  CW.ofG hZ (by decide) rfl (Nat.le_of_ble_eq_true rfl) (fun _ _ _ _ _ _ _ _ C _ => g_N_line C hf)
abbrev b_N_numbered : ByteArray := prog_1_method_11_code
def y_N_numbered : MethodName := ⟨"NoneWords", "numbered", "(I)I"⟩
abbrev ws_N_numbered : List Cond := Cond.code y_N_numbered b_N_numbered 2 (some (FieldType.int)) :: TB
set_option maxRecDepth 100000 in
theorem tc_N_numbered : Cond.code y_N_numbered b_N_numbered 2 (some (FieldType.int)) ∈ TB := inTB 606 rfl rfl
theorem mv_N_numbered : Cond.instanceMethod y_N_numbered ∈ TB ∧ Cond.selects "NoneWords" y_N_numbered y_N_numbered ∈ TB ∧ Cond.initialized "NoneWords" ∈ TB ∧ Cond.code y_N_numbered b_N_numbered 2 (some (FieldType.int)) ∈ TB := ⟨inTB 604 (by decide +kernel) (by decide +kernel), inTB 605 (by decide +kernel) (by decide +kernel), inTB 65 (by decide +kernel) (by decide +kernel), tc_N_numbered⟩
theorem pd_N_numbered : y_N_numbered.cls = "NoneWords" ∧ y_N_numbered.cls ≠ "java/lang/invoke/MethodHandle" ∧ y_N_numbered.cls ≠ "java/lang/invoke/VarHandle" ∧ (parseMethodDescriptor y_N_numbered.desc).map (fun d => d.parameters.length) = some 1 := by decide +kernel
theorem d_N_numbered_0 : decode b_N_numbered 0 = .ok (.aload_n 0, 1) := by decide +kernel
theorem d_N_numbered_1 : decode b_N_numbered 1 = .ok (.getfield 21, 3) := by decide +kernel
theorem d_N_numbered_4 : decode b_N_numbered 4 = .ok (.iload_n 1, 1) := by decide +kernel
theorem d_N_numbered_5 : decode b_N_numbered 5 = .ok (.invokevirtual 94, 3) := by decide +kernel
theorem d_N_numbered_8 : decode b_N_numbered 8 = .ok (.ireturn, 1) := by decide +kernel
abbrev rm_N_numbered : Room := { frames := 2, cells := 0, slots := 0, locals := 42 }
def f_N_numbered (x1 : Int32) (M : Mem) : Option (Int32 × Mem) :=
  ob (f_W_numberOfNode x1 M) fun r5 M5 => some (r5, M5)
set_option maxRecDepth 100000 in
theorem g_N_numbered {r : Int32} {M' : Mem} (C : GC p s m args meth c b_N_numbered 2 (some (FieldType.int)) "NoneWords" TB D vwCl (tysW cI cZ cC) A (ZS sk sv)) {x1 : Int32} {M : Mem} (hf : f_N_numbered x1 M = some (r, M')) : GW p l e rm_N_numbered s m args below meth c (MQ below (QW D vwCl (tysW cI cZ cC) A (some (.int r)) (wc ad cI cZ cC M')) args s 0 0 A) D vwCl A 2 0 0 (wc ad cI cZ cC M) 0 [(0, .ref (ad 0)), (1, .int x1)] [] := by
  unfold f_N_numbered at hf
  refine gw_aload_n C 0 d_N_numbered_0 rfl rfl ?_
  refine gw_get C in_N 0 wcg_0 clg_4 1 (by decide) tw_227 rfl rfl d_N_numbered_1 ?_
  refine gw_iload_n C 1 d_N_numbered_4 rfl rfl ?_
  obtain ⟨r5, M5, hc5, hf⟩ := ob_some hf
  refine gw_callVr (rest := []) C 11 wcg_11 clg_3 (c_W_numberOfNode C.2.2.2.2.2.2.2.2.2.2 hc5) (cwV 1 C.2.2.2.2.1 (gTB_V tw_607 mv_W_numberOfNode) rfl rfl rfl pd_W_numberOfNode ⟨Nat.le_of_ble_eq_true rfl, Nat.le_of_ble_eq_true rfl⟩) rfl rfl (Nat.le_of_ble_eq_true rfl) d_N_numbered_5 ⟨Nat.le_of_ble_eq_true rfl, Nat.le_of_ble_eq_true rfl⟩ ?_
  exact gw_ireti C d_N_numbered_8 (wc ad cI cZ cC) hf
theorem c_N_numbered (hZ : gw_ZOK (ZS sk sv)) {x1 : Int32} {M : Mem} {r : Int32} {M' : Mem} (hf : f_N_numbered x1 M = some (r, M')) : CW l y_N_numbered ws_N_numbered rm_N_numbered D vwCl (tysW cI cZ cC) (ZS sk sv) [.ref (ad 0), .int x1] (wc ad cI cZ cC M) (some (.int r)) (wc ad cI cZ cC M') 0 0 :=
  CW.ofG hZ (by decide) rfl (Nat.le_of_ble_eq_true rfl) (fun _ _ _ _ _ _ _ _ C _ => g_N_numbered C hf)
abbrev b_N_solvable : ByteArray := prog_1_method_12_code
def y_N_solvable : MethodName := ⟨"NoneWords", "solvable", "()Z"⟩
abbrev ws_N_solvable : List Cond := Cond.code y_N_solvable b_N_solvable 1 (some (FieldType.boolean)) :: TB
set_option maxRecDepth 100000 in
theorem tc_N_solvable : Cond.code y_N_solvable b_N_solvable 1 (some (FieldType.boolean)) ∈ TB := inTB 611 rfl rfl
theorem mv_N_solvable : Cond.instanceMethod y_N_solvable ∈ TB ∧ Cond.selects "NoneWords" y_N_solvable y_N_solvable ∈ TB ∧ Cond.initialized "NoneWords" ∈ TB ∧ Cond.code y_N_solvable b_N_solvable 1 (some (FieldType.boolean)) ∈ TB := ⟨inTB 609 (by decide +kernel) (by decide +kernel), inTB 610 (by decide +kernel) (by decide +kernel), inTB 65 (by decide +kernel) (by decide +kernel), tc_N_solvable⟩
theorem pd_N_solvable : y_N_solvable.cls = "NoneWords" ∧ y_N_solvable.cls ≠ "java/lang/invoke/MethodHandle" ∧ y_N_solvable.cls ≠ "java/lang/invoke/VarHandle" ∧ (parseMethodDescriptor y_N_solvable.desc).map (fun d => d.parameters.length) = some 0 := by decide +kernel
theorem d_N_solvable_0 : decode b_N_solvable 0 = .ok (.aload_n 0, 1) := by decide +kernel
theorem d_N_solvable_1 : decode b_N_solvable 1 = .ok (.getfield 37, 3) := by decide +kernel
theorem d_N_solvable_4 : decode b_N_solvable 4 = .ok (.invokevirtual 97, 3) := by decide +kernel
theorem d_N_solvable_7 : decode b_N_solvable 7 = .ok (.ireturn, 1) := by decide +kernel
abbrev rm_N_solvable : Room := { frames := 10, cells := 0, slots := 0, locals := 256 }
def f_N_solvable (M : Mem) : Option (Int32 × Mem) :=
  ob (f_S_findsWorld M) fun r4 M4 => some (vp_nar .boolean r4, M4)
set_option maxRecDepth 100000 in
theorem g_N_solvable {r : Int32} {M' : Mem} (C : GC p s m args meth c b_N_solvable 1 (some (FieldType.boolean)) "NoneWords" TB D vwCl (tysW cI cZ cC) A (ZS sk sv)) {M : Mem} (hf : f_N_solvable M = some (r, M')) : GW p l e rm_N_solvable s m args below meth c (MQ below (QW D vwCl (tysW cI cZ cC) A (some (.int r)) (wc ad cI cZ cC M')) args s 0 0 A) D vwCl A 1 0 0 (wc ad cI cZ cC M) 0 [(0, .ref (ad 0))] [] := by
  unfold f_N_solvable at hf
  refine gw_aload_n C 0 d_N_solvable_0 rfl rfl ?_
  refine gw_get C in_N 0 wcg_0 clg_4 3 (by decide) tw_229 rfl rfl d_N_solvable_1 ?_
  obtain ⟨r4, M4, hc4, hf⟩ := ob_some hf
  refine gw_callVr (rest := []) C 25 wcg_25 clg_1 (c_S_findsWorld C.2.2.2.2.2.2.2.2.2.2 hc4) (cwV 0 C.2.2.2.2.1 (gTB_V tw_612 mv_S_findsWorld) rfl rfl rfl pd_S_findsWorld ⟨Nat.le_of_ble_eq_true rfl, Nat.le_of_ble_eq_true rfl⟩) rfl rfl (Nat.le_of_ble_eq_true rfl) d_N_solvable_4 ⟨Nat.le_of_ble_eq_true rfl, Nat.le_of_ble_eq_true rfl⟩ ?_
  exact gw_zretn C d_N_solvable_7 (wc ad cI cZ cC) (nar_b _) hf
theorem c_N_solvable (hZ : gw_ZOK (ZS sk sv)) {M : Mem} {r : Int32} {M' : Mem} (hf : f_N_solvable M = some (r, M')) : CW l y_N_solvable ws_N_solvable rm_N_solvable D vwCl (tysW cI cZ cC) (ZS sk sv) [.ref (ad 0)] (wc ad cI cZ cC M) (some (.int r)) (wc ad cI cZ cC M') 0 0 :=
  CW.ofG hZ (by decide) rfl (Nat.le_of_ble_eq_true rfl) (fun _ _ _ _ _ _ _ _ C _ => g_N_solvable C hf)
abbrev b_N_least : ByteArray := prog_1_method_13_code
def y_N_least : MethodName := ⟨"NoneWords", "least", "()I"⟩
abbrev ws_N_least : List Cond := Cond.code y_N_least b_N_least 1 (some (FieldType.int)) :: TB
set_option maxRecDepth 100000 in
theorem tc_N_least : Cond.code y_N_least b_N_least 1 (some (FieldType.int)) ∈ TB := inTB 644 rfl rfl
theorem mv_N_least : Cond.instanceMethod y_N_least ∈ TB ∧ Cond.selects "NoneWords" y_N_least y_N_least ∈ TB ∧ Cond.initialized "NoneWords" ∈ TB ∧ Cond.code y_N_least b_N_least 1 (some (FieldType.int)) ∈ TB := ⟨inTB 642 (by decide +kernel) (by decide +kernel), inTB 643 (by decide +kernel) (by decide +kernel), inTB 65 (by decide +kernel) (by decide +kernel), tc_N_least⟩
theorem pd_N_least : y_N_least.cls = "NoneWords" ∧ y_N_least.cls ≠ "java/lang/invoke/MethodHandle" ∧ y_N_least.cls ≠ "java/lang/invoke/VarHandle" ∧ (parseMethodDescriptor y_N_least.desc).map (fun d => d.parameters.length) = some 0 := by decide +kernel
theorem d_N_least_0 : decode b_N_least 0 = .ok (.aload_n 0, 1) := by decide +kernel
theorem d_N_least_1 : decode b_N_least 1 = .ok (.getfield 37, 3) := by decide +kernel
theorem d_N_least_4 : decode b_N_least 4 = .ok (.invokevirtual 101, 3) := by decide +kernel
theorem d_N_least_7 : decode b_N_least 7 = .ok (.ireturn, 1) := by decide +kernel
abbrev rm_N_least : Room := { frames := 11, cells := 0, slots := 0, locals := 277 }
def f_N_least (M : Mem) : Option (Int32 × Mem) :=
  ob (f_S_keepBlamed M) fun r4 M4 => some (r4, M4)
set_option maxRecDepth 100000 in
theorem g_N_least {r : Int32} {M' : Mem} (C : GC p s m args meth c b_N_least 1 (some (FieldType.int)) "NoneWords" TB D vwCl (tysW cI cZ cC) A (ZS sk sv)) {M : Mem} (hf : f_N_least M = some (r, M')) : GW p l e rm_N_least s m args below meth c (MQ below (QW D vwCl (tysW cI cZ cC) A (some (.int r)) (wc ad cI cZ cC M')) args s 0 0 A) D vwCl A 1 0 0 (wc ad cI cZ cC M) 0 [(0, .ref (ad 0))] [] := by
  unfold f_N_least at hf
  refine gw_aload_n C 0 d_N_least_0 rfl rfl ?_
  refine gw_get C in_N 0 wcg_0 clg_4 3 (by decide) tw_229 rfl rfl d_N_least_1 ?_
  obtain ⟨r4, M4, hc4, hf⟩ := ob_some hf
  refine gw_callVr (rest := []) C 25 wcg_25 clg_1 (c_S_keepBlamed C.2.2.2.2.2.2.2.2.2.2 hc4) (cwV 0 C.2.2.2.2.1 (gTB_V tw_645 mv_S_keepBlamed) rfl rfl rfl pd_S_keepBlamed ⟨Nat.le_of_ble_eq_true rfl, Nat.le_of_ble_eq_true rfl⟩) rfl rfl (Nat.le_of_ble_eq_true rfl) d_N_least_4 ⟨Nat.le_of_ble_eq_true rfl, Nat.le_of_ble_eq_true rfl⟩ ?_
  exact gw_ireti C d_N_least_7 (wc ad cI cZ cC) hf
theorem c_N_least (hZ : gw_ZOK (ZS sk sv)) {M : Mem} {r : Int32} {M' : Mem} (hf : f_N_least M = some (r, M')) : CW l y_N_least ws_N_least rm_N_least D vwCl (tysW cI cZ cC) (ZS sk sv) [.ref (ad 0)] (wc ad cI cZ cC M) (some (.int r)) (wc ad cI cZ cC M') 0 0 :=
  CW.ofG hZ (by decide) rfl (Nat.le_of_ble_eq_true rfl) (fun _ _ _ _ _ _ _ _ C _ => g_N_least C hf)
abbrev b_N_demand : ByteArray := prog_1_method_14_code
def y_N_demand : MethodName := ⟨"NoneWords", "demand", "(I)I"⟩
abbrev ws_N_demand : List Cond := Cond.code y_N_demand b_N_demand 2 (some (FieldType.int)) :: TB
set_option maxRecDepth 100000 in
theorem tc_N_demand : Cond.code y_N_demand b_N_demand 2 (some (FieldType.int)) ∈ TB := inTB 662 rfl rfl
theorem mv_N_demand : Cond.instanceMethod y_N_demand ∈ TB ∧ Cond.selects "NoneWords" y_N_demand y_N_demand ∈ TB ∧ Cond.initialized "NoneWords" ∈ TB ∧ Cond.code y_N_demand b_N_demand 2 (some (FieldType.int)) ∈ TB := ⟨inTB 660 (by decide +kernel) (by decide +kernel), inTB 661 (by decide +kernel) (by decide +kernel), inTB 65 (by decide +kernel) (by decide +kernel), tc_N_demand⟩
theorem pd_N_demand : y_N_demand.cls = "NoneWords" ∧ y_N_demand.cls ≠ "java/lang/invoke/MethodHandle" ∧ y_N_demand.cls ≠ "java/lang/invoke/VarHandle" ∧ (parseMethodDescriptor y_N_demand.desc).map (fun d => d.parameters.length) = some 1 := by decide +kernel
theorem d_N_demand_0 : decode b_N_demand 0 = .ok (.aload_n 0, 1) := by decide +kernel
theorem d_N_demand_1 : decode b_N_demand 1 = .ok (.getfield 37, 3) := by decide +kernel
theorem d_N_demand_4 : decode b_N_demand 4 = .ok (.iload_n 1, 1) := by decide +kernel
theorem d_N_demand_5 : decode b_N_demand 5 = .ok (.invokevirtual 104, 3) := by decide +kernel
theorem d_N_demand_8 : decode b_N_demand 8 = .ok (.ireturn, 1) := by decide +kernel
abbrev rm_N_demand : Room := { frames := 1, cells := 0, slots := 0, locals := 21 }
def f_N_demand (x1 : Int32) (M : Mem) : Option (Int32 × Mem) :=
  ob (f_S_blamed x1 M) fun r5 M5 => some (r5, M5)
set_option maxRecDepth 100000 in
theorem g_N_demand {r : Int32} {M' : Mem} (C : GC p s m args meth c b_N_demand 2 (some (FieldType.int)) "NoneWords" TB D vwCl (tysW cI cZ cC) A (ZS sk sv)) {x1 : Int32} {M : Mem} (hf : f_N_demand x1 M = some (r, M')) : GW p l e rm_N_demand s m args below meth c (MQ below (QW D vwCl (tysW cI cZ cC) A (some (.int r)) (wc ad cI cZ cC M')) args s 0 0 A) D vwCl A 2 0 0 (wc ad cI cZ cC M) 0 [(0, .ref (ad 0)), (1, .int x1)] [] := by
  unfold f_N_demand at hf
  refine gw_aload_n C 0 d_N_demand_0 rfl rfl ?_
  refine gw_get C in_N 0 wcg_0 clg_4 3 (by decide) tw_229 rfl rfl d_N_demand_1 ?_
  refine gw_iload_n C 1 d_N_demand_4 rfl rfl ?_
  obtain ⟨r5, M5, hc5, hf⟩ := ob_some hf
  refine gw_callVr (rest := []) C 25 wcg_25 clg_1 (c_S_blamed C.2.2.2.2.2.2.2.2.2.2 hc5) (cwV 1 C.2.2.2.2.1 (gTB_V tw_663 mv_S_blamed) rfl rfl rfl pd_S_blamed ⟨Nat.le_of_ble_eq_true rfl, Nat.le_of_ble_eq_true rfl⟩) rfl rfl (Nat.le_of_ble_eq_true rfl) d_N_demand_5 ⟨Nat.le_of_ble_eq_true rfl, Nat.le_of_ble_eq_true rfl⟩ ?_
  exact gw_ireti C d_N_demand_8 (wc ad cI cZ cC) hf
theorem c_N_demand (hZ : gw_ZOK (ZS sk sv)) {x1 : Int32} {M : Mem} {r : Int32} {M' : Mem} (hf : f_N_demand x1 M = some (r, M')) : CW l y_N_demand ws_N_demand rm_N_demand D vwCl (tysW cI cZ cC) (ZS sk sv) [.ref (ad 0), .int x1] (wc ad cI cZ cC M) (some (.int r)) (wc ad cI cZ cC M') 0 0 :=
  CW.ofG hZ (by decide) rfl (Nat.le_of_ble_eq_true rfl) (fun _ _ _ _ _ _ _ _ C _ => g_N_demand C hf)
abbrev b_N_hint : ByteArray := prog_1_method_15_code
def y_N_hint : MethodName := ⟨"NoneWords", "hint", "(I)I"⟩
abbrev ws_N_hint : List Cond := Cond.code y_N_hint b_N_hint 2 (some (FieldType.int)) :: TB
set_option maxRecDepth 100000 in
theorem tc_N_hint : Cond.code y_N_hint b_N_hint 2 (some (FieldType.int)) ∈ TB := inTB 670 rfl rfl
theorem mv_N_hint : Cond.instanceMethod y_N_hint ∈ TB ∧ Cond.selects "NoneWords" y_N_hint y_N_hint ∈ TB ∧ Cond.initialized "NoneWords" ∈ TB ∧ Cond.code y_N_hint b_N_hint 2 (some (FieldType.int)) ∈ TB := ⟨inTB 668 (by decide +kernel) (by decide +kernel), inTB 669 (by decide +kernel) (by decide +kernel), inTB 65 (by decide +kernel) (by decide +kernel), tc_N_hint⟩
theorem pd_N_hint : y_N_hint.cls = "NoneWords" ∧ y_N_hint.cls ≠ "java/lang/invoke/MethodHandle" ∧ y_N_hint.cls ≠ "java/lang/invoke/VarHandle" ∧ (parseMethodDescriptor y_N_hint.desc).map (fun d => d.parameters.length) = some 1 := by decide +kernel
theorem d_N_hint_0 : decode b_N_hint 0 = .ok (.aload_n 0, 1) := by decide +kernel
theorem d_N_hint_1 : decode b_N_hint 1 = .ok (.getfield 37, 3) := by decide +kernel
theorem d_N_hint_4 : decode b_N_hint 4 = .ok (.iload_n 1, 1) := by decide +kernel
theorem d_N_hint_5 : decode b_N_hint 5 = .ok (.invokevirtual 107, 3) := by decide +kernel
theorem d_N_hint_8 : decode b_N_hint 8 = .ok (.ireturn, 1) := by decide +kernel
abbrev rm_N_hint : Room := { frames := 12, cells := 0, slots := 0, locals := 301 }
def f_N_hint (x1 : Int32) (M : Mem) : Option (Int32 × Mem) :=
  ob (f_S_release x1 M) fun r5 M5 => some (r5, M5)
set_option maxRecDepth 100000 in
theorem g_N_hint {r : Int32} {M' : Mem} (C : GC p s m args meth c b_N_hint 2 (some (FieldType.int)) "NoneWords" TB D vwCl (tysW cI cZ cC) A (ZS sk sv)) {x1 : Int32} {M : Mem} (hf : f_N_hint x1 M = some (r, M')) : GW p l e rm_N_hint s m args below meth c (MQ below (QW D vwCl (tysW cI cZ cC) A (some (.int r)) (wc ad cI cZ cC M')) args s 0 0 A) D vwCl A 2 0 0 (wc ad cI cZ cC M) 0 [(0, .ref (ad 0)), (1, .int x1)] [] := by
  unfold f_N_hint at hf
  refine gw_aload_n C 0 d_N_hint_0 rfl rfl ?_
  refine gw_get C in_N 0 wcg_0 clg_4 3 (by decide) tw_229 rfl rfl d_N_hint_1 ?_
  refine gw_iload_n C 1 d_N_hint_4 rfl rfl ?_
  obtain ⟨r5, M5, hc5, hf⟩ := ob_some hf
  refine gw_callVr (rest := []) C 25 wcg_25 clg_1 (c_S_release C.2.2.2.2.2.2.2.2.2.2 hc5) (cwV 1 C.2.2.2.2.1 (gTB_V tw_671 mv_S_release) rfl rfl rfl pd_S_release ⟨Nat.le_of_ble_eq_true rfl, Nat.le_of_ble_eq_true rfl⟩) rfl rfl (Nat.le_of_ble_eq_true rfl) d_N_hint_5 ⟨Nat.le_of_ble_eq_true rfl, Nat.le_of_ble_eq_true rfl⟩ ?_
  exact gw_ireti C d_N_hint_8 (wc ad cI cZ cC) hf
theorem c_N_hint (hZ : gw_ZOK (ZS sk sv)) {x1 : Int32} {M : Mem} {r : Int32} {M' : Mem} (hf : f_N_hint x1 M = some (r, M')) : CW l y_N_hint ws_N_hint rm_N_hint D vwCl (tysW cI cZ cC) (ZS sk sv) [.ref (ad 0), .int x1] (wc ad cI cZ cC M) (some (.int r)) (wc ad cI cZ cC M') 0 0 :=
  CW.ofG hZ (by decide) rfl (Nat.le_of_ble_eq_true rfl) (fun _ _ _ _ _ _ _ _ C _ => g_N_hint C hf)
end WORDS
