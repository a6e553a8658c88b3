theorem tw_862 : Cond.methodLink "NoneWordsModel" 244 ⟨"NoneWordsModel", "because", "(ZIII)V"⟩ ∈ TB := inTB 862 (by decide +kernel) (by decide +kernel)
theorem tw_924 : Cond.methodLink "NoneWordsModel" 247 ⟨"NoneWordsModel", "end", "(I)V"⟩ ∈ TB := inTB 924 (by decide +kernel) (by decide +kernel)
theorem tw_932 : Cond.methodLink "NoneWordsModel" 252 ⟨"NoneWordsModel", "later", "(III)V"⟩ ∈ TB := inTB 932 (by decide +kernel) (by decide +kernel)
theorem tw_858 : Cond.methodLink "NoneWordsModel" 231 ⟨"NoneWordsModel", "endWith", "(ZIII)V"⟩ ∈ TB := inTB 858 (by decide +kernel) (by decide +kernel)
theorem tw_936 : Cond.methodLink "NoneWordsModel" 238 ⟨"NoneWordsModel", "isSimple", "(I)Z"⟩ ∈ TB := inTB 936 (by decide +kernel) (by decide +kernel)
theorem tw_948 : Cond.methodLink "NoneWordsModel" 241 ⟨"NoneWordsModel", "thus", "(I)V"⟩ ∈ TB := inTB 948 (by decide +kernel) (by decide +kernel)
theorem tw_944 : Cond.methodLink "NoneWordsModel" 235 ⟨"NoneWordsModel", "goOn", "(III)V"⟩ ∈ TB := inTB 944 (by decide +kernel) (by decide +kernel)
theorem tw_940 : Cond.methodLink "NoneWordsModel" 228 ⟨"NoneWordsModel", "startOne", "(III)V"⟩ ∈ TB := inTB 940 (by decide +kernel) (by decide +kernel)
theorem tw_854 : Cond.methodLink "NoneWordsModel" 224 ⟨"NoneWordsModel", "startTwo", "(III)V"⟩ ∈ TB := inTB 854 (by decide +kernel) (by decide +kernel)
theorem tw_850 : Cond.methodLink "NoneWordsModel" 221 ⟨"NoneWordsModel", "go", "()V"⟩ ∈ TB := inTB 850 (by decide +kernel) (by decide +kernel)
theorem tw_842 : Cond.methodLink "NoneWordsModel" 218 ⟨"NoneWordsModel", "countUses", "(I)V"⟩ ∈ TB := inTB 842 (by decide +kernel) (by decide +kernel)
theorem tw_957 : Cond.methodLink "NoneWordsModel" 255 ⟨"NoneWordsModel", "isSentence", "(I)Z"⟩ ∈ TB := inTB 957 (by decide +kernel) (by decide +kernel)
theorem tw_710 : Cond.fieldLink "NoneWordsModel" 63 "NoneWordsModel" "world" "[I" ∈ TB := inTB 710 (by decide +kernel) (by decide +kernel)
theorem tw_989 : Cond.methodLink "NoneWordsModel" 261 ⟨"NoneWordsModel", "advance", "()Z"⟩ ∈ TB := inTB 989 (by decide +kernel) (by decide +kernel)
theorem tw_711 : Cond.fieldLink "NoneWordsModel" 66 "NoneWordsModel" "away" "[Z" ∈ TB := inTB 711 (by decide +kernel) (by decide +kernel)
theorem tw_985 : Cond.methodLink "NoneWordsModel" 258 ⟨"NoneWordsModel", "isKept", "(I)Z"⟩ ∈ TB := inTB 985 (by decide +kernel) (by decide +kernel)
theorem tw_977 : Cond.methodLink "NoneWordsModel" 265 ⟨"NoneWordsModel", "none", "()V"⟩ ∈ TB := inTB 977 (by decide +kernel) (by decide +kernel)
theorem tw_981 : Cond.methodLink "NoneWordsModel" 268 ⟨"NoneWordsModel", "can", "(I)Z"⟩ ∈ TB := inTB 981 (by decide +kernel) (by decide +kernel)
theorem tw_713 : Cond.fieldLink "NoneWordsModel" 271 "NoneWordsModel" "stays" "I" ∈ TB := inTB 713 (by decide +kernel) (by decide +kernel)
theorem tw_712 : Cond.fieldLink "NoneWordsModel" 69 "NoneWordsModel" "stay" "[I" ∈ TB := inTB 712 (by decide +kernel) (by decide +kernel)
section MODEL3
variable {p : Program} {l : Launch} {e : Env} {s : State} {m : MethodId} {args : Array Value} {below : List Frame} {meth : Method} {c : Code} {D : va_G} {A : Nat → Prop} {Z : gw_Z} {ad : Nat → Nat} {cI cZ cC : ClassId}
abbrev b_K_endWith : ByteArray := prog_7_method_39_code
def y_K_endWith : MethodName := ⟨"NoneWordsModel", "endWith", "(ZIII)V"⟩
abbrev ws_K_endWith : List Cond := Cond.code y_K_endWith b_K_endWith 5 (none) :: TB
set_option maxRecDepth 100000 in
theorem tc_K_endWith : Cond.code y_K_endWith b_K_endWith 5 (none) ∈ TB := inTB 861 rfl rfl
theorem mv_K_endWith : Cond.instanceMethod y_K_endWith ∈ TB ∧ Cond.selects "NoneWordsModel" y_K_endWith y_K_endWith ∈ TB ∧ Cond.initialized "NoneWordsModel" ∈ TB ∧ Cond.code y_K_endWith b_K_endWith 5 (none) ∈ TB := ⟨inTB 860 (by decide +kernel) (by decide +kernel), inTB 41 (by decide +kernel) (by decide +kernel), inTB 71 (by decide +kernel) (by decide +kernel), tc_K_endWith⟩
theorem pd_K_endWith : y_K_endWith.cls = "NoneWordsModel" ∧ y_K_endWith.cls ≠ "java/lang/invoke/MethodHandle" ∧ y_K_endWith.cls ≠ "java/lang/invoke/VarHandle" ∧ (parseMethodDescriptor y_K_endWith.desc).map (fun d => d.parameters.length) = some 4 := by decide +kernel
theorem d_K_endWith_0 : decode b_K_endWith 0 = .ok (.aload_n 0, 1) := by decide +kernel
theorem d_K_endWith_1 : decode b_K_endWith 1 = .ok (.iload_n 1, 1) := by decide +kernel
theorem d_K_endWith_2 : decode b_K_endWith 2 = .ok (.iload_n 2, 1) := by decide +kernel
theorem d_K_endWith_3 : decode b_K_endWith 3 = .ok (.iload_n 3, 1) := by decide +kernel
theorem d_K_endWith_4 : decode b_K_endWith 4 = .ok (.iload 4, 2) := by decide +kernel
theorem d_K_endWith_6 : decode b_K_endWith 6 = .ok (.invokevirtual 244, 3) := by decide +kernel
theorem d_K_endWith_9 : decode b_K_endWith 9 = .ok (.aload_n 0, 1) := by decide +kernel
theorem d_K_endWith_10 : decode b_K_endWith 10 = .ok (.iload 4, 2) := by decide +kernel
theorem d_K_endWith_12 : decode b_K_endWith 12 = .ok (.invokevirtual 247, 3) := by decide +kernel
theorem d_K_endWith_15 : decode b_K_endWith 15 = .ok (.return_, 1) := by decide +kernel
abbrev rm_K_endWith : Room := { frames := 8, cells := 0, slots := 0, locals := 182 }
def f_K_endWith (x1 : Int32) (x2 : Int32) (x3 : Int32) (x4 : Int32) (M : Mem) : Option Mem :=
  om (f_K_because x1 x2 x3 x4 M) fun M6 => om (f_K_end x4 M6) fun M12 => some M12
set_option maxRecDepth 100000 in
theorem g_K_endWith {M' : Mem} (C : GC p s m args meth c b_K_endWith 5 (none) "NoneWordsModel" TB D vwCl (tysW cI cZ cC) A Z) {x1 : Int32} {x2 : Int32} {x3 : Int32} {x4 : Int32} {M : Mem} (hf : f_K_endWith x1 x2 x3 x4 M = some M') : GW p l e rm_K_endWith s m args below meth c (MQ below (QW D vwCl (tysW cI cZ cC) A none (wk ad cI cZ cC M')) args s 0 0 A) D vwCl A 5 0 0 (wk ad cI cZ cC M) 0 [(0, .ref (ad 0)), (1, .int x1), (2, .int x2), (3, .int x3), (4, .int x4)] [] := by
  unfold f_K_endWith at hf
  refine gw_aload_n C 0 d_K_endWith_0 rfl rfl ?_
  refine gw_iload_n C 1 d_K_endWith_1 rfl rfl ?_
  refine gw_iload_n C 2 d_K_endWith_2 rfl rfl ?_
  refine gw_iload_n C 3 d_K_endWith_3 rfl rfl ?_
  refine gw_iload C 4 d_K_endWith_4 rfl ?_
  obtain ⟨M6, hc6, hf⟩ := om_some hf
  refine gw_callVv (rest := []) C 0 wkg_0 clg_5 (c_K_because C.2.2.2.2.2.2.2.2.2.2 hc6) (cwV 4 C.2.2.2.2.1 (gTB_V tw_862 mv_K_because) rfl rfl rfl pd_K_because ⟨Nat.le_of_ble_eq_true rfl, Nat.le_of_ble_eq_true rfl⟩) rfl rfl (Nat.le_of_ble_eq_true rfl) d_K_endWith_6 ⟨Nat.le_of_ble_eq_true rfl, Nat.le_of_ble_eq_true rfl⟩ ?_
  refine gw_aload_n C 0 d_K_endWith_9 rfl rfl ?_
  refine gw_iload C 4 d_K_endWith_10 rfl ?_
  obtain ⟨M12, hc12, hf⟩ := om_some hf
  refine gw_callVv (rest := []) C 0 wkg_0 clg_5 (c_K_end C.2.2.2.2.2.2.2.2.2.2 hc12) (cwV 1 C.2.2.2.2.1 (gTB_V tw_924 mv_K_end) rfl rfl rfl pd_K_end ⟨Nat.le_of_ble_eq_true rfl, Nat.le_of_ble_eq_true rfl⟩) rfl rfl (Nat.le_of_ble_eq_true rfl) d_K_endWith_12 ⟨Nat.le_of_ble_eq_true rfl, Nat.le_of_ble_eq_true rfl⟩ ?_
  exact gw_vreti C d_K_endWith_15 (wk ad cI cZ cC) hf
theorem c_K_endWith (hZ : gw_ZOK Z) {x1 : Int32} {x2 : Int32} {x3 : Int32} {x4 : Int32} {M : Mem} {M' : Mem} (hf : f_K_endWith x1 x2 x3 x4 M = some M') : CW l y_K_endWith ws_K_endWith rm_K_endWith D vwCl (tysW cI cZ cC) Z [.ref (ad 0), .int x1, .int x2, .int x3, .int x4] (wk ad cI cZ cC M) none (wk ad cI cZ cC M') 0 0 :=
  CW.ofG hZ (by decide) rfl (Nat.le_of_ble_eq_true rfl) (fun _ _ _ _ _ _ _ _ C _ => g_K_endWith C hf)
abbrev b_K_startOne : ByteArray := prog_7_method_40_code
def y_K_startOne : MethodName := ⟨"NoneWordsModel", "startOne", "(III)V"⟩
abbrev ws_K_startOne : List Cond := Cond.code y_K_startOne b_K_startOne 8 (none) :: TB
set_option maxRecDepth 100000 in
theorem tc_K_startOne : Cond.code y_K_startOne b_K_startOne 8 (none) ∈ TB := inTB 943 rfl rfl
theorem mv_K_startOne : Cond.instanceMethod y_K_startOne ∈ TB ∧ Cond.selects "NoneWordsModel" y_K_startOne y_K_startOne ∈ TB ∧ Cond.initialized "NoneWordsModel" ∈ TB ∧ Cond.code y_K_startOne b_K_startOne 8 (none) ∈ TB := ⟨inTB 942 (by decide +kernel) (by decide +kernel), inTB 56 (by decide +kernel) (by decide +kernel), inTB 71 (by decide +kernel) (by decide +kernel), tc_K_startOne⟩
theorem pd_K_startOne : y_K_startOne.cls = "NoneWordsModel" ∧ y_K_startOne.cls ≠ "java/lang/invoke/MethodHandle" ∧ y_K_startOne.cls ≠ "java/lang/invoke/VarHandle" ∧ (parseMethodDescriptor y_K_startOne.desc).map (fun d => d.parameters.length) = some 3 := by decide +kernel
theorem d_K_startOne_0 : decode b_K_startOne 0 = .ok (.aload_n 0, 1) := by decide +kernel
theorem d_K_startOne_1 : decode b_K_startOne 1 = .ok (.getfield 45, 3) := by decide +kernel
theorem d_K_startOne_4 : decode b_K_startOne 4 = .ok (.iload_n 3, 1) := by decide +kernel
theorem d_K_startOne_5 : decode b_K_startOne 5 = .ok (.iaload, 1) := by decide +kernel
theorem d_K_startOne_6 : decode b_K_startOne 6 = .ok (.ifCond .le 12, 3) := by decide +kernel
theorem d_K_startOne_9 : decode b_K_startOne 9 = .ok (.aload_n 0, 1) := by decide +kernel
theorem d_K_startOne_10 : decode b_K_startOne 10 = .ok (.iconst 0, 1) := by decide +kernel
theorem d_K_startOne_11 : decode b_K_startOne 11 = .ok (.iload_n 2, 1) := by decide +kernel
theorem d_K_startOne_12 : decode b_K_startOne 12 = .ok (.iload_n 3, 1) := by decide +kernel
theorem d_K_startOne_13 : decode b_K_startOne 13 = .ok (.iload_n 1, 1) := by decide +kernel
theorem d_K_startOne_14 : decode b_K_startOne 14 = .ok (.invokevirtual 231, 3) := by decide +kernel
theorem d_K_startOne_17 : decode b_K_startOne 17 = .ok (.return_, 1) := by decide +kernel
theorem d_K_startOne_18 : decode b_K_startOne 18 = .ok (.aload_n 0, 1) := by decide +kernel
theorem d_K_startOne_19 : decode b_K_startOne 19 = .ok (.getfield 16, 3) := by decide +kernel
theorem d_K_startOne_22 : decode b_K_startOne 22 = .ok (.iload_n 3, 1) := by decide +kernel
theorem d_K_startOne_23 : decode b_K_startOne 23 = .ok (.iaload, 1) := by decide +kernel
theorem d_K_startOne_24 : decode b_K_startOne 24 = .ok (.istore 4, 2) := by decide +kernel
theorem d_K_startOne_26 : decode b_K_startOne 26 = .ok (.aload_n 0, 1) := by decide +kernel
theorem d_K_startOne_27 : decode b_K_startOne 27 = .ok (.getfield 22, 3) := by decide +kernel
theorem d_K_startOne_30 : decode b_K_startOne 30 = .ok (.iload_n 3, 1) := by decide +kernel
theorem d_K_startOne_31 : decode b_K_startOne 31 = .ok (.iaload, 1) := by decide +kernel
theorem d_K_startOne_32 : decode b_K_startOne 32 = .ok (.istore 5, 2) := by decide +kernel
theorem d_K_startOne_34 : decode b_K_startOne 34 = .ok (.aload_n 0, 1) := by decide +kernel
theorem d_K_startOne_35 : decode b_K_startOne 35 = .ok (.getfield 48, 3) := by decide +kernel
theorem d_K_startOne_38 : decode b_K_startOne 38 = .ok (.iload_n 3, 1) := by decide +kernel
theorem d_K_startOne_39 : decode b_K_startOne 39 = .ok (.iaload, 1) := by decide +kernel
theorem d_K_startOne_40 : decode b_K_startOne 40 = .ok (.iconst 2, 1) := by decide +kernel
theorem d_K_startOne_41 : decode b_K_startOne 41 = .ok (.if_icmp .ge 42, 3) := by decide +kernel
theorem d_K_startOne_44 : decode b_K_startOne 44 = .ok (.aload_n 0, 1) := by decide +kernel
theorem d_K_startOne_45 : decode b_K_startOne 45 = .ok (.getfield 13, 3) := by decide +kernel
theorem d_K_startOne_48 : decode b_K_startOne 48 = .ok (.iload 4, 2) := by decide +kernel
theorem d_K_startOne_50 : decode b_K_startOne 50 = .ok (.iaload, 1) := by decide +kernel
theorem d_K_startOne_51 : decode b_K_startOne 51 = .ok (.iconst 4, 1) := by decide +kernel
theorem d_K_startOne_52 : decode b_K_startOne 52 = .ok (.if_icmp .ne 7, 3) := by decide +kernel
theorem d_K_startOne_55 : decode b_K_startOne 55 = .ok (.iconst 1, 1) := by decide +kernel
theorem d_K_startOne_56 : decode b_K_startOne 56 = .ok (.goto 4, 3) := by decide +kernel
theorem d_K_startOne_59 : decode b_K_startOne 59 = .ok (.iconst 0, 1) := by decide +kernel
theorem d_K_startOne_60 : decode b_K_startOne 60 = .ok (.aload_n 0, 1) := by decide +kernel
theorem d_K_startOne_61 : decode b_K_startOne 61 = .ok (.getfield 13, 3) := by decide +kernel
theorem d_K_startOne_64 : decode b_K_startOne 64 = .ok (.iload 5, 2) := by decide +kernel
theorem d_K_startOne_66 : decode b_K_startOne 66 = .ok (.iaload, 1) := by decide +kernel
theorem d_K_startOne_67 : decode b_K_startOne 67 = .ok (.iconst 4, 1) := by decide +kernel
theorem d_K_startOne_68 : decode b_K_startOne 68 = .ok (.if_icmp .ne 7, 3) := by decide +kernel
theorem d_K_startOne_71 : decode b_K_startOne 71 = .ok (.iconst 1, 1) := by decide +kernel
theorem d_K_startOne_72 : decode b_K_startOne 72 = .ok (.goto 4, 3) := by decide +kernel
theorem d_K_startOne_75 : decode b_K_startOne 75 = .ok (.iconst 0, 1) := by decide +kernel
theorem d_K_startOne_76 : decode b_K_startOne 76 = .ok (.if_icmp .eq 7, 3) := by decide +kernel
theorem d_K_startOne_79 : decode b_K_startOne 79 = .ok (.iconst 1, 1) := by decide +kernel
theorem d_K_startOne_80 : decode b_K_startOne 80 = .ok (.goto 4, 3) := by decide +kernel
theorem d_K_startOne_83 : decode b_K_startOne 83 = .ok (.iconst 0, 1) := by decide +kernel
theorem d_K_startOne_84 : decode b_K_startOne 84 = .ok (.istore 6, 2) := by decide +kernel
theorem d_K_startOne_86 : decode b_K_startOne 86 = .ok (.aload_n 0, 1) := by decide +kernel
theorem d_K_startOne_87 : decode b_K_startOne 87 = .ok (.getfield 13, 3) := by decide +kernel
theorem d_K_startOne_90 : decode b_K_startOne 90 = .ok (.iload 4, 2) := by decide +kernel
theorem d_K_startOne_92 : decode b_K_startOne 92 = .ok (.iaload, 1) := by decide +kernel
theorem d_K_startOne_93 : decode b_K_startOne 93 = .ok (.iconst 4, 1) := by decide +kernel
theorem d_K_startOne_94 : decode b_K_startOne 94 = .ok (.if_icmp .ne 8, 3) := by decide +kernel
theorem d_K_startOne_97 : decode b_K_startOne 97 = .ok (.iload 4, 2) := by decide +kernel
theorem d_K_startOne_99 : decode b_K_startOne 99 = .ok (.goto 5, 3) := by decide +kernel
theorem d_K_startOne_102 : decode b_K_startOne 102 = .ok (.iload 5, 2) := by decide +kernel
theorem d_K_startOne_104 : decode b_K_startOne 104 = .ok (.istore 7, 2) := by decide +kernel
theorem d_K_startOne_106 : decode b_K_startOne 106 = .ok (.iload 6, 2) := by decide +kernel
theorem d_K_startOne_108 : decode b_K_startOne 108 = .ok (.ifCond .eq 37, 3) := by decide +kernel
theorem d_K_startOne_111 : decode b_K_startOne 111 = .ok (.aload_n 0, 1) := by decide +kernel
theorem d_K_startOne_112 : decode b_K_startOne 112 = .ok (.getfield 45, 3) := by decide +kernel
theorem d_K_startOne_115 : decode b_K_startOne 115 = .ok (.iload 7, 2) := by decide +kernel
theorem d_K_startOne_117 : decode b_K_startOne 117 = .ok (.iaload, 1) := by decide +kernel
theorem d_K_startOne_118 : decode b_K_startOne 118 = .ok (.ifCond .ne 27, 3) := by decide +kernel
theorem d_K_startOne_121 : decode b_K_startOne 121 = .ok (.aload_n 0, 1) := by decide +kernel
theorem d_K_startOne_122 : decode b_K_startOne 122 = .ok (.iconst 1, 1) := by decide +kernel
theorem d_K_startOne_123 : decode b_K_startOne 123 = .ok (.iload 7, 2) := by decide +kernel
theorem d_K_startOne_125 : decode b_K_startOne 125 = .ok (.iload 4, 2) := by decide +kernel
theorem d_K_startOne_127 : decode b_K_startOne 127 = .ok (.if_icmp .ne 8, 3) := by decide +kernel
theorem d_K_startOne_130 : decode b_K_startOne 130 = .ok (.iload 5, 2) := by decide +kernel
theorem d_K_startOne_132 : decode b_K_startOne 132 = .ok (.goto 5, 3) := by decide +kernel
theorem d_K_startOne_135 : decode b_K_startOne 135 = .ok (.iload 4, 2) := by decide +kernel
theorem d_K_startOne_137 : decode b_K_startOne 137 = .ok (.iload 7, 2) := by decide +kernel
theorem d_K_startOne_139 : decode b_K_startOne 139 = .ok (.invokevirtual 252, 3) := by decide +kernel
theorem d_K_startOne_142 : decode b_K_startOne 142 = .ok (.goto 10, 3) := by decide +kernel
theorem d_K_startOne_145 : decode b_K_startOne 145 = .ok (.aload_n 0, 1) := by decide +kernel
theorem d_K_startOne_146 : decode b_K_startOne 146 = .ok (.iconst 2, 1) := by decide +kernel
theorem d_K_startOne_147 : decode b_K_startOne 147 = .ok (.iload_n 2, 1) := by decide +kernel
theorem d_K_startOne_148 : decode b_K_startOne 148 = .ok (.iload_n 3, 1) := by decide +kernel
theorem d_K_startOne_149 : decode b_K_startOne 149 = .ok (.invokevirtual 252, 3) := by decide +kernel
theorem d_K_startOne_152 : decode b_K_startOne 152 = .ok (.return_, 1) := by decide +kernel
abbrev rm_K_startOne : Room := { frames := 9, cells := 0, slots := 0, locals := 206 }
def f_K_startOne_145 (x2 : Int32) (x3 : Int32) (M : Mem) : Option Mem :=
  om (f_K_later (2 : Int32) x2 x3 M) fun M149 => some M149
set_option maxRecDepth 100000 in
theorem g_K_startOne_145 {M' : Mem} (C : GC p s m args meth c b_K_startOne 8 (none) "NoneWordsModel" TB D vwCl (tysW cI cZ cC) A Z) {x2 : Int32} {x3 : Int32} {M : Mem} (hf : f_K_startOne_145 x2 x3 M = some M') : GW p l e rm_K_startOne s m args below meth c (MQ below (QW D vwCl (tysW cI cZ cC) A none (wk ad cI cZ cC M')) args s 0 0 A) D vwCl A 8 0 0 (wk ad cI cZ cC M) 145 [(0, .ref (ad 0)), (2, .int x2), (3, .int x3)] [] := by
  unfold f_K_startOne_145 at hf
  refine gw_aload_n C 0 d_K_startOne_145 rfl rfl ?_
  refine gw_iconst (v := (2 : Int32)) C d_K_startOne_146 (by decide) ?_
  refine gw_iload_n C 1 d_K_startOne_147 rfl rfl ?_
  refine gw_iload_n C 2 d_K_startOne_148 rfl rfl ?_
  obtain ⟨M149, hc149, hf⟩ := om_some hf
  refine gw_callVv (rest := []) C 0 wkg_0 clg_5 (c_K_later C.2.2.2.2.2.2.2.2.2.2 hc149) (cwV 3 C.2.2.2.2.1 (gTB_V tw_932 mv_K_later) rfl rfl rfl pd_K_later ⟨Nat.le_of_ble_eq_true rfl, Nat.le_of_ble_eq_true rfl⟩) rfl rfl (Nat.le_of_ble_eq_true rfl) d_K_startOne_149 ⟨Nat.le_of_ble_eq_true rfl, Nat.le_of_ble_eq_true rfl⟩ ?_
  exact gw_vreti C d_K_startOne_152 (wk ad cI cZ cC) hf
def f_K_startOne_137 (x7 : Int32) (y0 : Int32) (y1 : Int32) (M : Mem) : Option Mem :=
  om (f_K_later y1 y0 x7 M) fun M139 => some M139
set_option maxRecDepth 100000 in
theorem g_K_startOne_137 {M' : Mem} (C : GC p s m args meth c b_K_startOne 8 (none) "NoneWordsModel" TB D vwCl (tysW cI cZ cC) A Z) {x7 : Int32} {y0 : Int32} {y1 : Int32} {M : Mem} (hf : f_K_startOne_137 x7 y0 y1 M = some M') : GW p l e rm_K_startOne s m args below meth c (MQ below (QW D vwCl (tysW cI cZ cC) A none (wk ad cI cZ cC M')) args s 0 0 A) D vwCl A 8 0 0 (wk ad cI cZ cC M) 137 [(7, .int x7)] [.int y0, .int y1, .ref (ad 0)] := by
  unfold f_K_startOne_137 at hf
  refine gw_iload C 0 d_K_startOne_137 rfl ?_
  obtain ⟨M139, hc139, hf⟩ := om_some hf
  refine gw_callVv (rest := []) C 0 wkg_0 clg_5 (c_K_later C.2.2.2.2.2.2.2.2.2.2 hc139) (cwV 3 C.2.2.2.2.1 (gTB_V tw_932 mv_K_later) rfl rfl rfl pd_K_later ⟨Nat.le_of_ble_eq_true rfl, Nat.le_of_ble_eq_true rfl⟩) rfl rfl (Nat.le_of_ble_eq_true rfl) d_K_startOne_139 ⟨Nat.le_of_ble_eq_true rfl, Nat.le_of_ble_eq_true rfl⟩ ?_
  refine gw_goto (tgt := 152) C d_K_startOne_142 (by decide) ?_
  exact gw_vreti C d_K_startOne_152 (wk ad cI cZ cC) hf
def f_K_startOne_104 (x2 : Int32) (x3 : Int32) (x4 : Int32) (x5 : Int32) (x6 : Int32) (y0 : Int32) (M : Mem) : Option Mem :=
  if x6 = 0 then f_K_startOne_145 x2 x3 M else gd (inb y0 120) (if (M 12 y0.toNatClampNeg) = 0 then if y0 = x4 then f_K_startOne_137 y0 x5 (1 : Int32) M else f_K_startOne_137 y0 x4 (1 : Int32) M else f_K_startOne_145 x2 x3 M)
set_option maxRecDepth 100000 in
theorem g_K_startOne_104 {M' : Mem} (C : GC p s m args meth c b_K_startOne 8 (none) "NoneWordsModel" TB D vwCl (tysW cI cZ cC) A Z) {x2 : Int32} {x3 : Int32} {x4 : Int32} {x5 : Int32} {x6 : Int32} {y0 : Int32} {M : Mem} (hf : f_K_startOne_104 x2 x3 x4 x5 x6 y0 M = some M') : GW p l e rm_K_startOne s m args below meth c (MQ below (QW D vwCl (tysW cI cZ cC) A none (wk ad cI cZ cC M')) args s 0 0 A) D vwCl A 8 0 0 (wk ad cI cZ cC M) 104 [(0, .ref (ad 0)), (2, .int x2), (3, .int x3), (4, .int x4), (5, .int x5), (6, .int x6)] [.int y0] := by
  unfold f_K_startOne_104 at hf
  refine gw_istore (lv' := [(7, .int y0), (0, .ref (ad 0)), (2, .int x2), (3, .int x3), (4, .int x4), (5, .int x5), (6, .int x6)]) C d_K_startOne_104 (by decide) rfl ?_
  refine gw_iload C 6 d_K_startOne_106 rfl ?_
  refine gw_if_eq (tgt := 145) C d_K_startOne_108 (by decide) (fun c => ?_) (fun c => ?_)
  · have hf := (if_pos c).symm.trans hf
    exact gw_sub [1, 2, 3] rfl (g_K_startOne_145 C hf)
  · have hf := (if_neg c).symm.trans hf
    refine gw_aload_n C 1 d_K_startOne_111 rfl rfl ?_
    refine gw_get C in_K 0 wkg_0 clg_5 14 (by decide) tw_700 rfl rfl d_K_startOne_112 ?_
    refine gw_iload C 0 d_K_startOne_115 rfl ?_
    obtain ⟨hb117, hf⟩ := gd_some hf
    refine gw_iald C 12 0 wkg_12 rfl hb117 d_K_startOne_117 ?_
    refine gw_if_ne (tgt := 145) C d_K_startOne_118 (by decide) (fun c => ?_) (fun c => ?_)
    · have hf := (if_neg c).symm.trans hf
      exact gw_sub [1, 2, 3] rfl (g_K_startOne_145 C hf)
    · have hf := (if_pos c).symm.trans hf
      refine gw_aload_n C 1 d_K_startOne_121 rfl rfl ?_
      refine gw_iconst (v := (1 : Int32)) C d_K_startOne_122 (by decide) ?_
      refine gw_iload C 0 d_K_startOne_123 rfl ?_
      refine gw_iload C 4 d_K_startOne_125 rfl ?_
      refine gw_icmp_ne (tgt := 135) C d_K_startOne_127 (by decide) (fun c => ?_) (fun c => ?_)
      · have hf := (if_neg c).symm.trans hf
        refine gw_iload C 4 d_K_startOne_135 rfl ?_
        exact gw_sub [0] rfl (g_K_startOne_137 C hf)
      · have hf := (if_pos c).symm.trans hf
        refine gw_iload C 5 d_K_startOne_130 rfl ?_
        refine gw_goto (tgt := 137) C d_K_startOne_132 (by decide) ?_
        exact gw_sub [0] rfl (g_K_startOne_137 C hf)
def f_K_startOne_84 (x2 : Int32) (x3 : Int32) (x4 : Int32) (x5 : Int32) (y0 : Int32) (M : Mem) : Option Mem :=
  gd (inb x4 120) (if (M 2 x4.toNatClampNeg) = (4 : Int32) then f_K_startOne_104 x2 x3 x4 x5 y0 x4 M else f_K_startOne_104 x2 x3 x4 x5 y0 x5 M)
set_option maxRecDepth 100000 in
theorem g_K_startOne_84 {M' : Mem} (C : GC p s m args meth c b_K_startOne 8 (none) "NoneWordsModel" TB D vwCl (tysW cI cZ cC) A Z) {x2 : Int32} {x3 : Int32} {x4 : Int32} {x5 : Int32} {y0 : Int32} {M : Mem} (hf : f_K_startOne_84 x2 x3 x4 x5 y0 M = some M') : GW p l e rm_K_startOne s m args below meth c (MQ below (QW D vwCl (tysW cI cZ cC) A none (wk ad cI cZ cC M')) args s 0 0 A) D vwCl A 8 0 0 (wk ad cI cZ cC M) 84 [(0, .ref (ad 0)), (2, .int x2), (3, .int x3), (4, .int x4), (5, .int x5)] [.int y0] := by
  unfold f_K_startOne_84 at hf
  refine gw_istore (lv' := [(6, .int y0), (0, .ref (ad 0)), (2, .int x2), (3, .int x3), (4, .int x4), (5, .int x5)]) C d_K_startOne_84 (by decide) rfl ?_
  refine gw_aload_n C 1 d_K_startOne_86 rfl rfl ?_
  refine gw_get C in_K 0 wkg_0 clg_5 4 (by decide) tw_690 rfl rfl d_K_startOne_87 ?_
  refine gw_iload C 4 d_K_startOne_90 rfl ?_
  obtain ⟨hb92, hf⟩ := gd_some hf
  refine gw_iald C 2 0 wkg_2 rfl hb92 d_K_startOne_92 ?_
  refine gw_iconst (v := (4 : Int32)) C d_K_startOne_93 (by decide) ?_
  refine gw_icmp_ne (tgt := 102) C d_K_startOne_94 (by decide) (fun c => ?_) (fun c => ?_)
  · have hf := (if_neg c).symm.trans hf
    refine gw_iload C 5 d_K_startOne_102 rfl ?_
    exact gw_sub [1, 2, 3, 4, 5, 0] rfl (g_K_startOne_104 C hf)
  · have hf := (if_pos c).symm.trans hf
    refine gw_iload C 4 d_K_startOne_97 rfl ?_
    refine gw_goto (tgt := 104) C d_K_startOne_99 (by decide) ?_
    exact gw_sub [1, 2, 3, 4, 5, 0] rfl (g_K_startOne_104 C hf)
def f_K_startOne_60 (x2 : Int32) (x3 : Int32) (x4 : Int32) (x5 : Int32) (y0 : Int32) (M : Mem) : Option Mem :=
  gd (inb x5 120) (if (M 2 x5.toNatClampNeg) = (4 : Int32) then if y0 = (1 : Int32) then f_K_startOne_84 x2 x3 x4 x5 (0 : Int32) M else f_K_startOne_84 x2 x3 x4 x5 (1 : Int32) M else if y0 = (0 : Int32) then f_K_startOne_84 x2 x3 x4 x5 (0 : Int32) M else f_K_startOne_84 x2 x3 x4 x5 (1 : Int32) M)
set_option maxRecDepth 100000 in
theorem g_K_startOne_60 {M' : Mem} (C : GC p s m args meth c b_K_startOne 8 (none) "NoneWordsModel" TB D vwCl (tysW cI cZ cC) A Z) {x2 : Int32} {x3 : Int32} {x4 : Int32} {x5 : Int32} {y0 : Int32} {M : Mem} (hf : f_K_startOne_60 x2 x3 x4 x5 y0 M = some M') : GW p l e rm_K_startOne s m args below meth c (MQ below (QW D vwCl (tysW cI cZ cC) A none (wk ad cI cZ cC M')) args s 0 0 A) D vwCl A 8 0 0 (wk ad cI cZ cC M) 60 [(0, .ref (ad 0)), (2, .int x2), (3, .int x3), (4, .int x4), (5, .int x5)] [.int y0] := by
  unfold f_K_startOne_60 at hf
  refine gw_aload_n C 0 d_K_startOne_60 rfl rfl ?_
  refine gw_get C in_K 0 wkg_0 clg_5 4 (by decide) tw_690 rfl rfl d_K_startOne_61 ?_
  refine gw_iload C 4 d_K_startOne_64 rfl ?_
  obtain ⟨hb66, hf⟩ := gd_some hf
  refine gw_iald C 2 0 wkg_2 rfl hb66 d_K_startOne_66 ?_
  refine gw_iconst (v := (4 : Int32)) C d_K_startOne_67 (by decide) ?_
  refine gw_icmp_ne (tgt := 75) C d_K_startOne_68 (by decide) (fun c => ?_) (fun c => ?_)
  · have hf := (if_neg c).symm.trans hf
    refine gw_iconst (v := (0 : Int32)) C d_K_startOne_75 (by decide) ?_
    refine gw_icmp_eq (tgt := 83) C d_K_startOne_76 (by decide) (fun c => ?_) (fun c => ?_)
    · have hf := (if_pos c).symm.trans hf
      refine gw_iconst (v := (0 : Int32)) C d_K_startOne_83 (by decide) ?_
      exact gw_sub [0, 1, 2, 3, 4] rfl (g_K_startOne_84 C hf)
    · have hf := (if_neg c).symm.trans hf
      refine gw_iconst (v := (1 : Int32)) C d_K_startOne_79 (by decide) ?_
      refine gw_goto (tgt := 84) C d_K_startOne_80 (by decide) ?_
      exact gw_sub [0, 1, 2, 3, 4] rfl (g_K_startOne_84 C hf)
  · have hf := (if_pos c).symm.trans hf
    refine gw_iconst (v := (1 : Int32)) C d_K_startOne_71 (by decide) ?_
    refine gw_goto (tgt := 76) C d_K_startOne_72 (by decide) ?_
    refine gw_icmp_eq (tgt := 83) C d_K_startOne_76 (by decide) (fun c => ?_) (fun c => ?_)
    · have hf := (if_pos c).symm.trans hf
      refine gw_iconst (v := (0 : Int32)) C d_K_startOne_83 (by decide) ?_
      exact gw_sub [0, 1, 2, 3, 4] rfl (g_K_startOne_84 C hf)
    · have hf := (if_neg c).symm.trans hf
      refine gw_iconst (v := (1 : Int32)) C d_K_startOne_79 (by decide) ?_
      refine gw_goto (tgt := 84) C d_K_startOne_80 (by decide) ?_
      exact gw_sub [0, 1, 2, 3, 4] rfl (g_K_startOne_84 C hf)
def f_K_startOne (x1 : Int32) (x2 : Int32) (x3 : Int32) (M : Mem) : Option Mem :=
  gd (inb x3 120) (if (M 12 x3.toNatClampNeg) ≤ 0 then gd (inb x3 120) (gd (inb x3 120) (gd (inb x3 120) (if (2 : Int32) ≤ (M 13 x3.toNatClampNeg) then f_K_startOne_84 x2 x3 (M 3 x3.toNatClampNeg) (M 5 x3.toNatClampNeg) (0 : Int32) M else gd (inb (M 3 x3.toNatClampNeg) 120) (if (M 2 (M 3 x3.toNatClampNeg).toNatClampNeg) = (4 : Int32) then f_K_startOne_60 x2 x3 (M 3 x3.toNatClampNeg) (M 5 x3.toNatClampNeg) (1 : Int32) M else f_K_startOne_60 x2 x3 (M 3 x3.toNatClampNeg) (M 5 x3.toNatClampNeg) (0 : Int32) M)))) else om (f_K_endWith (0 : Int32) x2 x3 x1 M) fun M14 => some M14)
set_option maxRecDepth 100000 in
theorem g_K_startOne {M' : Mem} (C : GC p s m args meth c b_K_startOne 8 (none) "NoneWordsModel" TB D vwCl (tysW cI cZ cC) A Z) {x1 : Int32} {x2 : Int32} {x3 : Int32} {M : Mem} (hf : f_K_startOne x1 x2 x3 M = some M') : GW p l e rm_K_startOne s m args below meth c (MQ below (QW D vwCl (tysW cI cZ cC) A none (wk ad cI cZ cC M')) args s 0 0 A) D vwCl A 8 0 0 (wk ad cI cZ cC M) 0 [(0, .ref (ad 0)), (1, .int x1), (2, .int x2), (3, .int x3)] [] := by
  unfold f_K_startOne at hf
  refine gw_aload_n C 0 d_K_startOne_0 rfl rfl ?_
  refine gw_get C in_K 0 wkg_0 clg_5 14 (by decide) tw_700 rfl rfl d_K_startOne_1 ?_
  refine gw_iload_n C 3 d_K_startOne_4 rfl rfl ?_
  obtain ⟨hb5, hf⟩ := gd_some hf
  refine gw_iald C 12 0 wkg_12 rfl hb5 d_K_startOne_5 ?_
  refine gw_if_le (tgt := 18) C d_K_startOne_6 (by decide) (fun c => ?_) (fun c => ?_)
  · have hf := (if_pos c).symm.trans hf
    refine gw_aload_n C 0 d_K_startOne_18 rfl rfl ?_
    refine gw_get C in_K 0 wkg_0 clg_5 5 (by decide) tw_691 rfl rfl d_K_startOne_19 ?_
    refine gw_iload_n C 3 d_K_startOne_22 rfl rfl ?_
    obtain ⟨hb23, hf⟩ := gd_some hf
    refine gw_iald C 3 0 wkg_3 rfl hb23 d_K_startOne_23 ?_
    refine gw_istore (lv' := [(4, .int (M 3 x3.toNatClampNeg)), (0, .ref (ad 0)), (1, .int x1), (2, .int x2), (3, .int x3)]) C d_K_startOne_24 (by decide) rfl ?_
    refine gw_aload_n C 1 d_K_startOne_26 rfl rfl ?_
    refine gw_get C in_K 0 wkg_0 clg_5 7 (by decide) tw_693 rfl rfl d_K_startOne_27 ?_
    refine gw_iload_n C 4 d_K_startOne_30 rfl rfl ?_
    obtain ⟨hb31, hf⟩ := gd_some hf
    refine gw_iald C 5 0 wkg_5 rfl hb31 d_K_startOne_31 ?_
    refine gw_istore (lv' := [(5, .int (M 5 x3.toNatClampNeg)), (4, .int (M 3 x3.toNatClampNeg)), (0, .ref (ad 0)), (1, .int x1), (2, .int x2), (3, .int x3)]) C d_K_startOne_32 (by decide) rfl ?_
    refine gw_aload_n C 2 d_K_startOne_34 rfl rfl ?_
    refine gw_get C in_K 0 wkg_0 clg_5 15 (by decide) tw_701 rfl rfl d_K_startOne_35 ?_
    refine gw_iload_n C 5 d_K_startOne_38 rfl rfl ?_
    obtain ⟨hb39, hf⟩ := gd_some hf
    refine gw_iald C 13 0 wkg_13 rfl hb39 d_K_startOne_39 ?_
    refine gw_iconst (v := (2 : Int32)) C d_K_startOne_40 (by decide) ?_
    refine gw_icmp_ge (tgt := 83) C d_K_startOne_41 (by decide) (fun c => ?_) (fun c => ?_)
    · have hf := (if_pos c).symm.trans hf
      refine gw_iconst (v := (0 : Int32)) C d_K_startOne_83 (by decide) ?_
      exact gw_sub [2, 4, 5, 1, 0] rfl (g_K_startOne_84 C hf)
    · have hf := (if_neg c).symm.trans hf
      refine gw_aload_n C 2 d_K_startOne_44 rfl rfl ?_
      refine gw_get C in_K 0 wkg_0 clg_5 4 (by decide) tw_690 rfl rfl d_K_startOne_45 ?_
      refine gw_iload C 1 d_K_startOne_48 rfl ?_
      obtain ⟨hb50, hf⟩ := gd_some hf
      refine gw_iald C 2 0 wkg_2 rfl hb50 d_K_startOne_50 ?_
      refine gw_iconst (v := (4 : Int32)) C d_K_startOne_51 (by decide) ?_
      refine gw_icmp_ne (tgt := 59) C d_K_startOne_52 (by decide) (fun c => ?_) (fun c => ?_)
      · have hf := (if_neg c).symm.trans hf
        refine gw_iconst (v := (0 : Int32)) C d_K_startOne_59 (by decide) ?_
        exact gw_sub [2, 4, 5, 1, 0] rfl (g_K_startOne_60 C hf)
      · have hf := (if_pos c).symm.trans hf
        refine gw_iconst (v := (1 : Int32)) C d_K_startOne_55 (by decide) ?_
        refine gw_goto (tgt := 60) C d_K_startOne_56 (by decide) ?_
        exact gw_sub [2, 4, 5, 1, 0] rfl (g_K_startOne_60 C hf)
  · have hf := (if_neg c).symm.trans hf
    refine gw_aload_n C 0 d_K_startOne_9 rfl rfl ?_
    refine gw_iconst (v := (0 : Int32)) C d_K_startOne_10 (by decide) ?_
    refine gw_iload_n C 2 d_K_startOne_11 rfl rfl ?_
    refine gw_iload_n C 3 d_K_startOne_12 rfl rfl ?_
    refine gw_iload_n C 1 d_K_startOne_13 rfl rfl ?_
    obtain ⟨M14, hc14, hf⟩ := om_some hf
    refine gw_callVv (rest := []) C 0 wkg_0 clg_5 (c_K_endWith C.2.2.2.2.2.2.2.2.2.2 hc14) (cwV 4 C.2.2.2.2.1 (gTB_V tw_858 mv_K_endWith) rfl rfl rfl pd_K_endWith ⟨Nat.le_of_ble_eq_true rfl, Nat.le_of_ble_eq_true rfl⟩) rfl rfl (Nat.le_of_ble_eq_true rfl) d_K_startOne_14 ⟨Nat.le_of_ble_eq_true rfl, Nat.le_of_ble_eq_true rfl⟩ ?_
    exact gw_vreti C d_K_startOne_17 (wk ad cI cZ cC) hf
theorem c_K_startOne (hZ : gw_ZOK Z) {x1 : Int32} {x2 : Int32} {x3 : Int32} {M : Mem} {M' : Mem} (hf : f_K_startOne x1 x2 x3 M = some M') : CW l y_K_startOne ws_K_startOne rm_K_startOne D vwCl (tysW cI cZ cC) Z [.ref (ad 0), .int x1, .int x2, .int x3] (wk ad cI cZ cC M) none (wk ad cI cZ cC M') 0 0 :=
  CW.ofG hZ (by decide) rfl (Nat.le_of_ble_eq_true rfl) (fun _ _ _ _ _ _ _ _ C _ => g_K_startOne C hf)
abbrev b_K_startTwo : ByteArray := prog_7_method_41_code
def y_K_startTwo : MethodName := ⟨"NoneWordsModel", "startTwo", "(III)V"⟩
abbrev ws_K_startTwo : List Cond := Cond.code y_K_startTwo b_K_startTwo 4 (none) :: TB
set_option maxRecDepth 100000 in
theorem tc_K_startTwo : Cond.code y_K_startTwo b_K_startTwo 4 (none) ∈ TB := inTB 857 rfl rfl
theorem mv_K_startTwo : Cond.instanceMethod y_K_startTwo ∈ TB ∧ Cond.selects "NoneWordsModel" y_K_startTwo y_K_startTwo ∈ TB ∧ Cond.initialized "NoneWordsModel" ∈ TB ∧ Cond.code y_K_startTwo b_K_startTwo 4 (none) ∈ TB := ⟨inTB 856 (by decide +kernel) (by decide +kernel), inTB 40 (by decide +kernel) (by decide +kernel), inTB 71 (by decide +kernel) (by decide +kernel), tc_K_startTwo⟩
theorem pd_K_startTwo : y_K_startTwo.cls = "NoneWordsModel" ∧ y_K_startTwo.cls ≠ "java/lang/invoke/MethodHandle" ∧ y_K_startTwo.cls ≠ "java/lang/invoke/VarHandle" ∧ (parseMethodDescriptor y_K_startTwo.desc).map (fun d => d.parameters.length) = some 3 := by decide +kernel
theorem d_K_startTwo_0 : decode b_K_startTwo 0 = .ok (.aload_n 0, 1) := by decide +kernel
theorem d_K_startTwo_1 : decode b_K_startTwo 1 = .ok (.getfield 45, 3) := by decide +kernel
theorem d_K_startTwo_4 : decode b_K_startTwo 4 = .ok (.iload_n 2, 1) := by decide +kernel
theorem d_K_startTwo_5 : decode b_K_startTwo 5 = .ok (.iaload, 1) := by decide +kernel
theorem d_K_startTwo_6 : decode b_K_startTwo 6 = .ok (.ifCond .le 23, 3) := by decide +kernel
theorem d_K_startTwo_9 : decode b_K_startTwo 9 = .ok (.aload_n 0, 1) := by decide +kernel
theorem d_K_startTwo_10 : decode b_K_startTwo 10 = .ok (.getfield 45, 3) := by decide +kernel
theorem d_K_startTwo_13 : decode b_K_startTwo 13 = .ok (.iload_n 3, 1) := by decide +kernel
theorem d_K_startTwo_14 : decode b_K_startTwo 14 = .ok (.iaload, 1) := by decide +kernel
theorem d_K_startTwo_15 : decode b_K_startTwo 15 = .ok (.ifCond .le 14, 3) := by decide +kernel
theorem d_K_startTwo_18 : decode b_K_startTwo 18 = .ok (.aload_n 0, 1) := by decide +kernel
theorem d_K_startTwo_19 : decode b_K_startTwo 19 = .ok (.iconst 0, 1) := by decide +kernel
theorem d_K_startTwo_20 : decode b_K_startTwo 20 = .ok (.iload_n 2, 1) := by decide +kernel
theorem d_K_startTwo_21 : decode b_K_startTwo 21 = .ok (.iload_n 3, 1) := by decide +kernel
theorem d_K_startTwo_22 : decode b_K_startTwo 22 = .ok (.iload_n 1, 1) := by decide +kernel
theorem d_K_startTwo_23 : decode b_K_startTwo 23 = .ok (.invokevirtual 231, 3) := by decide +kernel
theorem d_K_startTwo_26 : decode b_K_startTwo 26 = .ok (.goto 74, 3) := by decide +kernel
theorem d_K_startTwo_29 : decode b_K_startTwo 29 = .ok (.aload_n 0, 1) := by decide +kernel
theorem d_K_startTwo_30 : decode b_K_startTwo 30 = .ok (.getfield 45, 3) := by decide +kernel
theorem d_K_startTwo_33 : decode b_K_startTwo 33 = .ok (.iload_n 2, 1) := by decide +kernel
theorem d_K_startTwo_34 : decode b_K_startTwo 34 = .ok (.iaload, 1) := by decide +kernel
theorem d_K_startTwo_35 : decode b_K_startTwo 35 = .ok (.ifCond .le 13, 3) := by decide +kernel
theorem d_K_startTwo_38 : decode b_K_startTwo 38 = .ok (.aload_n 0, 1) := by decide +kernel
theorem d_K_startTwo_39 : decode b_K_startTwo 39 = .ok (.iconst 2, 1) := by decide +kernel
theorem d_K_startTwo_40 : decode b_K_startTwo 40 = .ok (.iload_n 2, 1) := by decide +kernel
theorem d_K_startTwo_41 : decode b_K_startTwo 41 = .ok (.iload_n 3, 1) := by decide +kernel
theorem d_K_startTwo_42 : decode b_K_startTwo 42 = .ok (.invokevirtual 252, 3) := by decide +kernel
theorem d_K_startTwo_45 : decode b_K_startTwo 45 = .ok (.goto 55, 3) := by decide +kernel
theorem d_K_startTwo_48 : decode b_K_startTwo 48 = .ok (.aload_n 0, 1) := by decide +kernel
theorem d_K_startTwo_49 : decode b_K_startTwo 49 = .ok (.getfield 45, 3) := by decide +kernel
theorem d_K_startTwo_52 : decode b_K_startTwo 52 = .ok (.iload_n 3, 1) := by decide +kernel
theorem d_K_startTwo_53 : decode b_K_startTwo 53 = .ok (.iaload, 1) := by decide +kernel
theorem d_K_startTwo_54 : decode b_K_startTwo 54 = .ok (.ifCond .le 13, 3) := by decide +kernel
theorem d_K_startTwo_57 : decode b_K_startTwo 57 = .ok (.aload_n 0, 1) := by decide +kernel
theorem d_K_startTwo_58 : decode b_K_startTwo 58 = .ok (.iconst 2, 1) := by decide +kernel
theorem d_K_startTwo_59 : decode b_K_startTwo 59 = .ok (.iload_n 3, 1) := by decide +kernel
theorem d_K_startTwo_60 : decode b_K_startTwo 60 = .ok (.iload_n 2, 1) := by decide +kernel
theorem d_K_startTwo_61 : decode b_K_startTwo 61 = .ok (.invokevirtual 252, 3) := by decide +kernel
theorem d_K_startTwo_64 : decode b_K_startTwo 64 = .ok (.goto 36, 3) := by decide +kernel
theorem d_K_startTwo_67 : decode b_K_startTwo 67 = .ok (.aload_n 0, 1) := by decide +kernel
theorem d_K_startTwo_68 : decode b_K_startTwo 68 = .ok (.iload_n 3, 1) := by decide +kernel
theorem d_K_startTwo_69 : decode b_K_startTwo 69 = .ok (.invokevirtual 238, 3) := by decide +kernel
theorem d_K_startTwo_72 : decode b_K_startTwo 72 = .ok (.ifCond .ne 21, 3) := by decide +kernel
theorem d_K_startTwo_75 : decode b_K_startTwo 75 = .ok (.aload_n 0, 1) := by decide +kernel
theorem d_K_startTwo_76 : decode b_K_startTwo 76 = .ok (.iload_n 2, 1) := by decide +kernel
theorem d_K_startTwo_77 : decode b_K_startTwo 77 = .ok (.invokevirtual 238, 3) := by decide +kernel
theorem d_K_startTwo_80 : decode b_K_startTwo 80 = .ok (.ifCond .eq 13, 3) := by decide +kernel
theorem d_K_startTwo_83 : decode b_K_startTwo 83 = .ok (.aload_n 0, 1) := by decide +kernel
theorem d_K_startTwo_84 : decode b_K_startTwo 84 = .ok (.iconst 3, 1) := by decide +kernel
theorem d_K_startTwo_85 : decode b_K_startTwo 85 = .ok (.iload_n 3, 1) := by decide +kernel
theorem d_K_startTwo_86 : decode b_K_startTwo 86 = .ok (.iload_n 3, 1) := by decide +kernel
theorem d_K_startTwo_87 : decode b_K_startTwo 87 = .ok (.invokevirtual 252, 3) := by decide +kernel
theorem d_K_startTwo_90 : decode b_K_startTwo 90 = .ok (.goto 10, 3) := by decide +kernel
theorem d_K_startTwo_93 : decode b_K_startTwo 93 = .ok (.aload_n 0, 1) := by decide +kernel
theorem d_K_startTwo_94 : decode b_K_startTwo 94 = .ok (.iconst 3, 1) := by decide +kernel
theorem d_K_startTwo_95 : decode b_K_startTwo 95 = .ok (.iload_n 2, 1) := by decide +kernel
theorem d_K_startTwo_96 : decode b_K_startTwo 96 = .ok (.iload_n 2, 1) := by decide +kernel
theorem d_K_startTwo_97 : decode b_K_startTwo 97 = .ok (.invokevirtual 252, 3) := by decide +kernel
theorem d_K_startTwo_100 : decode b_K_startTwo 100 = .ok (.return_, 1) := by decide +kernel
abbrev rm_K_startTwo : Room := { frames := 9, cells := 0, slots := 0, locals := 206 }
def f_K_startTwo_93 (x2 : Int32) (M : Mem) : Option Mem :=
  om (f_K_later (3 : Int32) x2 x2 M) fun M97 => some M97
set_option maxRecDepth 100000 in
theorem g_K_startTwo_93 {M' : Mem} (C : GC p s m args meth c b_K_startTwo 4 (none) "NoneWordsModel" TB D vwCl (tysW cI cZ cC) A Z) {x2 : Int32} {M : Mem} (hf : f_K_startTwo_93 x2 M = some M') : GW p l e rm_K_startTwo s m args below meth c (MQ below (QW D vwCl (tysW cI cZ cC) A none (wk ad cI cZ cC M')) args s 0 0 A) D vwCl A 4 0 0 (wk ad cI cZ cC M) 93 [(0, .ref (ad 0)), (2, .int x2)] [] := by
  unfold f_K_startTwo_93 at hf
  refine gw_aload_n C 0 d_K_startTwo_93 rfl rfl ?_
  refine gw_iconst (v := (3 : Int32)) C d_K_startTwo_94 (by decide) ?_
  refine gw_iload_n C 1 d_K_startTwo_95 rfl rfl ?_
  refine gw_iload_n C 1 d_K_startTwo_96 rfl rfl ?_
  obtain ⟨M97, hc97, hf⟩ := om_some hf
  refine gw_callVv (rest := []) C 0 wkg_0 clg_5 (c_K_later C.2.2.2.2.2.2.2.2.2.2 hc97) (cwV 3 C.2.2.2.2.1 (gTB_V tw_932 mv_K_later) rfl rfl rfl pd_K_later ⟨Nat.le_of_ble_eq_true rfl, Nat.le_of_ble_eq_true rfl⟩) rfl rfl (Nat.le_of_ble_eq_true rfl) d_K_startTwo_97 ⟨Nat.le_of_ble_eq_true rfl, Nat.le_of_ble_eq_true rfl⟩ ?_
  exact gw_vreti C d_K_startTwo_100 (wk ad cI cZ cC) hf
def f_K_startTwo_29 (x2 : Int32) (x3 : Int32) (M : Mem) : Option Mem :=
  gd (inb x2 120) (if (M 12 x2.toNatClampNeg) ≤ 0 then gd (inb x3 120) (if (M 12 x3.toNatClampNeg) ≤ 0 then ob (f_K_isSimple x3 M) fun r69 M69 => if r69 = 0 then ob (f_K_isSimple x2 M69) fun r77 M77 => if r77 = 0 then f_K_startTwo_93 x2 M77 else om (f_K_later (3 : Int32) x3 x3 M77) fun M87 => some M87 else f_K_startTwo_93 x2 M69 else om (f_K_later (2 : Int32) x3 x2 M) fun M61 => some M61) else om (f_K_later (2 : Int32) x2 x3 M) fun M42 => some M42)
set_option maxRecDepth 100000 in
theorem g_K_startTwo_29 {M' : Mem} (C : GC p s m args meth c b_K_startTwo 4 (none) "NoneWordsModel" TB D vwCl (tysW cI cZ cC) A Z) {x2 : Int32} {x3 : Int32} {M : Mem} (hf : f_K_startTwo_29 x2 x3 M = some M') : GW p l e rm_K_startTwo s m args below meth c (MQ below (QW D vwCl (tysW cI cZ cC) A none (wk ad cI cZ cC M')) args s 0 0 A) D vwCl A 4 0 0 (wk ad cI cZ cC M) 29 [(0, .ref (ad 0)), (2, .int x2), (3, .int x3)] [] := by
  unfold f_K_startTwo_29 at hf
  refine gw_aload_n C 0 d_K_startTwo_29 rfl rfl ?_
  refine gw_get C in_K 0 wkg_0 clg_5 14 (by decide) tw_700 rfl rfl d_K_startTwo_30 ?_
  refine gw_iload_n C 1 d_K_startTwo_33 rfl rfl ?_
  obtain ⟨hb34, hf⟩ := gd_some hf
  refine gw_iald C 12 0 wkg_12 rfl hb34 d_K_startTwo_34 ?_
  refine gw_if_le (tgt := 48) C d_K_startTwo_35 (by decide) (fun c => ?_) (fun c => ?_)
  · have hf := (if_pos c).symm.trans hf
    refine gw_aload_n C 0 d_K_startTwo_48 rfl rfl ?_
    refine gw_get C in_K 0 wkg_0 clg_5 14 (by decide) tw_700 rfl rfl d_K_startTwo_49 ?_
    refine gw_iload_n C 2 d_K_startTwo_52 rfl rfl ?_
    obtain ⟨hb53, hf⟩ := gd_some hf
    refine gw_iald C 12 0 wkg_12 rfl hb53 d_K_startTwo_53 ?_
    refine gw_if_le (tgt := 67) C d_K_startTwo_54 (by decide) (fun c => ?_) (fun c => ?_)
    · have hf := (if_pos c).symm.trans hf
      refine gw_aload_n C 0 d_K_startTwo_67 rfl rfl ?_
      refine gw_iload_n C 2 d_K_startTwo_68 rfl rfl ?_
      obtain ⟨r69, M69, hc69, hf⟩ := ob_some hf
      refine gw_callVr (rest := []) C 0 wkg_0 clg_5 (c_K_isSimple C.2.2.2.2.2.2.2.2.2.2 hc69) (cwV 1 C.2.2.2.2.1 (gTB_V tw_936 mv_K_isSimple) rfl rfl rfl pd_K_isSimple ⟨Nat.le_of_ble_eq_true rfl, Nat.le_of_ble_eq_true rfl⟩) rfl rfl (Nat.le_of_ble_eq_true rfl) d_K_startTwo_69 ⟨Nat.le_of_ble_eq_true rfl, Nat.le_of_ble_eq_true rfl⟩ ?_
      refine gw_if_ne (tgt := 93) C d_K_startTwo_72 (by decide) (fun c => ?_) (fun c => ?_)
      · have hf := (if_neg c).symm.trans hf
        exact gw_sub [0, 1] rfl (g_K_startTwo_93 C hf)
      · have hf := (if_pos c).symm.trans hf
        refine gw_aload_n C 0 d_K_startTwo_75 rfl rfl ?_
        refine gw_iload_n C 1 d_K_startTwo_76 rfl rfl ?_
        obtain ⟨r77, M77, hc77, hf⟩ := ob_some hf
        refine gw_callVr (rest := []) C 0 wkg_0 clg_5 (c_K_isSimple C.2.2.2.2.2.2.2.2.2.2 hc77) (cwV 1 C.2.2.2.2.1 (gTB_V tw_936 mv_K_isSimple) rfl rfl rfl pd_K_isSimple ⟨Nat.le_of_ble_eq_true rfl, Nat.le_of_ble_eq_true rfl⟩) rfl rfl (Nat.le_of_ble_eq_true rfl) d_K_startTwo_77 ⟨Nat.le_of_ble_eq_true rfl, Nat.le_of_ble_eq_true rfl⟩ ?_
        refine gw_if_eq (tgt := 93) C d_K_startTwo_80 (by decide) (fun c => ?_) (fun c => ?_)
        · have hf := (if_pos c).symm.trans hf
          exact gw_sub [0, 1] rfl (g_K_startTwo_93 C hf)
        · have hf := (if_neg c).symm.trans hf
          refine gw_aload_n C 0 d_K_startTwo_83 rfl rfl ?_
          refine gw_iconst (v := (3 : Int32)) C d_K_startTwo_84 (by decide) ?_
          refine gw_iload_n C 2 d_K_startTwo_85 rfl rfl ?_
          refine gw_iload_n C 2 d_K_startTwo_86 rfl rfl ?_
          obtain ⟨M87, hc87, hf⟩ := om_some hf
          refine gw_callVv (rest := []) C 0 wkg_0 clg_5 (c_K_later C.2.2.2.2.2.2.2.2.2.2 hc87) (cwV 3 C.2.2.2.2.1 (gTB_V tw_932 mv_K_later) rfl rfl rfl pd_K_later ⟨Nat.le_of_ble_eq_true rfl, Nat.le_of_ble_eq_true rfl⟩) rfl rfl (Nat.le_of_ble_eq_true rfl) d_K_startTwo_87 ⟨Nat.le_of_ble_eq_true rfl, Nat.le_of_ble_eq_true rfl⟩ ?_
          refine gw_goto (tgt := 100) C d_K_startTwo_90 (by decide) ?_
          exact gw_vreti C d_K_startTwo_100 (wk ad cI cZ cC) hf
    · have hf := (if_neg c).symm.trans hf
      refine gw_aload_n C 0 d_K_startTwo_57 rfl rfl ?_
      refine gw_iconst (v := (2 : Int32)) C d_K_startTwo_58 (by decide) ?_
      refine gw_iload_n C 2 d_K_startTwo_59 rfl rfl ?_
      refine gw_iload_n C 1 d_K_startTwo_60 rfl rfl ?_
      obtain ⟨M61, hc61, hf⟩ := om_some hf
      refine gw_callVv (rest := []) C 0 wkg_0 clg_5 (c_K_later C.2.2.2.2.2.2.2.2.2.2 hc61) (cwV 3 C.2.2.2.2.1 (gTB_V tw_932 mv_K_later) rfl rfl rfl pd_K_later ⟨Nat.le_of_ble_eq_true rfl, Nat.le_of_ble_eq_true rfl⟩) rfl rfl (Nat.le_of_ble_eq_true rfl) d_K_startTwo_61 ⟨Nat.le_of_ble_eq_true rfl, Nat.le_of_ble_eq_true rfl⟩ ?_
      refine gw_goto (tgt := 100) C d_K_startTwo_64 (by decide) ?_
      exact gw_vreti C d_K_startTwo_100 (wk ad cI cZ cC) hf
  · have hf := (if_neg c).symm.trans hf
    refine gw_aload_n C 0 d_K_startTwo_38 rfl rfl ?_
    refine gw_iconst (v := (2 : Int32)) C d_K_startTwo_39 (by decide) ?_
    refine gw_iload_n C 1 d_K_startTwo_40 rfl rfl ?_
    refine gw_iload_n C 2 d_K_startTwo_41 rfl rfl ?_
    obtain ⟨M42, hc42, hf⟩ := om_some hf
    refine gw_callVv (rest := []) C 0 wkg_0 clg_5 (c_K_later C.2.2.2.2.2.2.2.2.2.2 hc42) (cwV 3 C.2.2.2.2.1 (gTB_V tw_932 mv_K_later) rfl rfl rfl pd_K_later ⟨Nat.le_of_ble_eq_true rfl, Nat.le_of_ble_eq_true rfl⟩) rfl rfl (Nat.le_of_ble_eq_true rfl) d_K_startTwo_42 ⟨Nat.le_of_ble_eq_true rfl, Nat.le_of_ble_eq_true rfl⟩ ?_
    refine gw_goto (tgt := 100) C d_K_startTwo_45 (by decide) ?_
    exact gw_vreti C d_K_startTwo_100 (wk ad cI cZ cC) hf
def f_K_startTwo (x1 : Int32) (x2 : Int32) (x3 : Int32) (M : Mem) : Option Mem :=
  gd (inb x2 120) (if (M 12 x2.toNatClampNeg) ≤ 0 then f_K_startTwo_29 x2 x3 M else gd (inb x3 120) (if (M 12 x3.toNatClampNeg) ≤ 0 then f_K_startTwo_29 x2 x3 M else om (f_K_endWith (0 : Int32) x2 x3 x1 M) fun M23 => some M23))
set_option maxRecDepth 100000 in
theorem g_K_startTwo {M' : Mem} (C : GC p s m args meth c b_K_startTwo 4 (none) "NoneWordsModel" TB D vwCl (tysW cI cZ cC) A Z) {x1 : Int32} {x2 : Int32} {x3 : Int32} {M : Mem} (hf : f_K_startTwo x1 x2 x3 M = some M') : GW p l e rm_K_startTwo s m args below meth c (MQ below (QW D vwCl (tysW cI cZ cC) A none (wk ad cI cZ cC M')) args s 0 0 A) D vwCl A 4 0 0 (wk ad cI cZ cC M) 0 [(0, .ref (ad 0)), (1, .int x1), (2, .int x2), (3, .int x3)] [] := by
  unfold f_K_startTwo at hf
  refine gw_aload_n C 0 d_K_startTwo_0 rfl rfl ?_
  refine gw_get C in_K 0 wkg_0 clg_5 14 (by decide) tw_700 rfl rfl d_K_startTwo_1 ?_
  refine gw_iload_n C 2 d_K_startTwo_4 rfl rfl ?_
  obtain ⟨hb5, hf⟩ := gd_some hf
  refine gw_iald C 12 0 wkg_12 rfl hb5 d_K_startTwo_5 ?_
  refine gw_if_le (tgt := 29) C d_K_startTwo_6 (by decide) (fun c => ?_) (fun c => ?_)
  · have hf := (if_pos c).symm.trans hf
    exact gw_sub [0, 2, 3] rfl (g_K_startTwo_29 C hf)
  · have hf := (if_neg c).symm.trans hf
    refine gw_aload_n C 0 d_K_startTwo_9 rfl rfl ?_
    refine gw_get C in_K 0 wkg_0 clg_5 14 (by decide) tw_700 rfl rfl d_K_startTwo_10 ?_
    refine gw_iload_n C 3 d_K_startTwo_13 rfl rfl ?_
    obtain ⟨hb14, hf⟩ := gd_some hf
    refine gw_iald C 12 0 wkg_12 rfl hb14 d_K_startTwo_14 ?_
    refine gw_if_le (tgt := 29) C d_K_startTwo_15 (by decide) (fun c => ?_) (fun c => ?_)
    · have hf := (if_pos c).symm.trans hf
      exact gw_sub [0, 2, 3] rfl (g_K_startTwo_29 C hf)
    · have hf := (if_neg c).symm.trans hf
      refine gw_aload_n C 0 d_K_startTwo_18 rfl rfl ?_
      refine gw_iconst (v := (0 : Int32)) C d_K_startTwo_19 (by decide) ?_
      refine gw_iload_n C 2 d_K_startTwo_20 rfl rfl ?_
      refine gw_iload_n C 3 d_K_startTwo_21 rfl rfl ?_
      refine gw_iload_n C 1 d_K_startTwo_22 rfl rfl ?_
      obtain ⟨M23, hc23, hf⟩ := om_some hf
      refine gw_callVv (rest := []) C 0 wkg_0 clg_5 (c_K_endWith C.2.2.2.2.2.2.2.2.2.2 hc23) (cwV 4 C.2.2.2.2.1 (gTB_V tw_858 mv_K_endWith) rfl rfl rfl pd_K_endWith ⟨Nat.le_of_ble_eq_true rfl, Nat.le_of_ble_eq_true rfl⟩) rfl rfl (Nat.le_of_ble_eq_true rfl) d_K_startTwo_23 ⟨Nat.le_of_ble_eq_true rfl, Nat.le_of_ble_eq_true rfl⟩ ?_
      refine gw_goto (tgt := 100) C d_K_startTwo_26 (by decide) ?_
      exact gw_vreti C d_K_startTwo_100 (wk ad cI cZ cC) hf
theorem c_K_startTwo (hZ : gw_ZOK Z) {x1 : Int32} {x2 : Int32} {x3 : Int32} {M : Mem} {M' : Mem} (hf : f_K_startTwo x1 x2 x3 M = some M') : CW l y_K_startTwo ws_K_startTwo rm_K_startTwo D vwCl (tysW cI cZ cC) Z [.ref (ad 0), .int x1, .int x2, .int x3] (wk ad cI cZ cC M) none (wk ad cI cZ cC M') 0 0 :=
  CW.ofG hZ (by decide) rfl (Nat.le_of_ble_eq_true rfl) (fun _ _ _ _ _ _ _ _ C _ => g_K_startTwo C hf)
abbrev b_K_goOn : ByteArray := prog_7_method_42_code
def y_K_goOn : MethodName := ⟨"NoneWordsModel", "goOn", "(III)V"⟩
abbrev ws_K_goOn : List Cond := Cond.code y_K_goOn b_K_goOn 4 (none) :: TB
set_option maxRecDepth 100000 in
theorem tc_K_goOn : Cond.code y_K_goOn b_K_goOn 4 (none) ∈ TB := inTB 947 rfl rfl
theorem mv_K_goOn : Cond.instanceMethod y_K_goOn ∈ TB ∧ Cond.selects "NoneWordsModel" y_K_goOn y_K_goOn ∈ TB ∧ Cond.initialized "NoneWordsModel" ∈ TB ∧ Cond.code y_K_goOn b_K_goOn 4 (none) ∈ TB := ⟨inTB 946 (by decide +kernel) (by decide +kernel), inTB 57 (by decide +kernel) (by decide +kernel), inTB 71 (by decide +kernel) (by decide +kernel), tc_K_goOn⟩
theorem pd_K_goOn : y_K_goOn.cls = "NoneWordsModel" ∧ y_K_goOn.cls ≠ "java/lang/invoke/MethodHandle" ∧ y_K_goOn.cls ≠ "java/lang/invoke/VarHandle" ∧ (parseMethodDescriptor y_K_goOn.desc).map (fun d => d.parameters.length) = some 3 := by decide +kernel
theorem d_K_goOn_0 : decode b_K_goOn 0 = .ok (.aload_n 0, 1) := by decide +kernel
theorem d_K_goOn_1 : decode b_K_goOn 1 = .ok (.iload_n 2, 1) := by decide +kernel
theorem d_K_goOn_2 : decode b_K_goOn 2 = .ok (.invokevirtual 238, 3) := by decide +kernel
theorem d_K_goOn_5 : decode b_K_goOn 5 = .ok (.ifCond .ne 16, 3) := by decide +kernel
theorem d_K_goOn_8 : decode b_K_goOn 8 = .ok (.aload_n 0, 1) := by decide +kernel
theorem d_K_goOn_9 : decode b_K_goOn 9 = .ok (.iload_n 3, 1) := by decide +kernel
theorem d_K_goOn_10 : decode b_K_goOn 10 = .ok (.invokevirtual 238, 3) := by decide +kernel
theorem d_K_goOn_13 : decode b_K_goOn 13 = .ok (.ifCond .ne 8, 3) := by decide +kernel
theorem d_K_goOn_16 : decode b_K_goOn 16 = .ok (.aload_n 0, 1) := by decide +kernel
theorem d_K_goOn_17 : decode b_K_goOn 17 = .ok (.iload_n 2, 1) := by decide +kernel
theorem d_K_goOn_18 : decode b_K_goOn 18 = .ok (.invokevirtual 215, 3) := by decide +kernel
theorem d_K_goOn_21 : decode b_K_goOn 21 = .ok (.aload_n 0, 1) := by decide +kernel
theorem d_K_goOn_22 : decode b_K_goOn 22 = .ok (.getfield 45, 3) := by decide +kernel
theorem d_K_goOn_25 : decode b_K_goOn 25 = .ok (.iload_n 3, 1) := by decide +kernel
theorem d_K_goOn_26 : decode b_K_goOn 26 = .ok (.iaload, 1) := by decide +kernel
theorem d_K_goOn_27 : decode b_K_goOn 27 = .ok (.ifCond .le 14, 3) := by decide +kernel
theorem d_K_goOn_30 : decode b_K_goOn 30 = .ok (.aload_n 0, 1) := by decide +kernel
theorem d_K_goOn_31 : decode b_K_goOn 31 = .ok (.iconst 1, 1) := by decide +kernel
theorem d_K_goOn_32 : decode b_K_goOn 32 = .ok (.iload_n 3, 1) := by decide +kernel
theorem d_K_goOn_33 : decode b_K_goOn 33 = .ok (.iconst (-1), 1) := by decide +kernel
theorem d_K_goOn_34 : decode b_K_goOn 34 = .ok (.iload_n 1, 1) := by decide +kernel
theorem d_K_goOn_35 : decode b_K_goOn 35 = .ok (.invokevirtual 231, 3) := by decide +kernel
theorem d_K_goOn_38 : decode b_K_goOn 38 = .ok (.goto 10, 3) := by decide +kernel
theorem d_K_goOn_41 : decode b_K_goOn 41 = .ok (.aload_n 0, 1) := by decide +kernel
theorem d_K_goOn_42 : decode b_K_goOn 42 = .ok (.iconst 4, 1) := by decide +kernel
theorem d_K_goOn_43 : decode b_K_goOn 43 = .ok (.iload_n 2, 1) := by decide +kernel
theorem d_K_goOn_44 : decode b_K_goOn 44 = .ok (.iload_n 3, 1) := by decide +kernel
theorem d_K_goOn_45 : decode b_K_goOn 45 = .ok (.invokevirtual 252, 3) := by decide +kernel
theorem d_K_goOn_48 : decode b_K_goOn 48 = .ok (.return_, 1) := by decide +kernel
abbrev rm_K_goOn : Room := { frames := 9, cells := 0, slots := 0, locals := 206 }
def f_K_goOn_21 (x1 : Int32) (x2 : Int32) (x3 : Int32) (M : Mem) : Option Mem :=
  gd (inb x3 120) (if (M 12 x3.toNatClampNeg) ≤ 0 then om (f_K_later (4 : Int32) x2 x3 M) fun M45 => some M45 else om (f_K_endWith (1 : Int32) x3 (-1 : Int32) x1 M) fun M35 => some M35)
set_option maxRecDepth 100000 in
theorem g_K_goOn_21 {M' : Mem} (C : GC p s m args meth c b_K_goOn 4 (none) "NoneWordsModel" TB D vwCl (tysW cI cZ cC) A Z) {x1 : Int32} {x2 : Int32} {x3 : Int32} {M : Mem} (hf : f_K_goOn_21 x1 x2 x3 M = some M') : GW p l e rm_K_goOn s m args below meth c (MQ below (QW D vwCl (tysW cI cZ cC) A none (wk ad cI cZ cC M')) args s 0 0 A) D vwCl A 4 0 0 (wk ad cI cZ cC M) 21 [(0, .ref (ad 0)), (1, .int x1), (2, .int x2), (3, .int x3)] [] := by
  unfold f_K_goOn_21 at hf
  refine gw_aload_n C 0 d_K_goOn_21 rfl rfl ?_
  refine gw_get C in_K 0 wkg_0 clg_5 14 (by decide) tw_700 rfl rfl d_K_goOn_22 ?_
  refine gw_iload_n C 3 d_K_goOn_25 rfl rfl ?_
  obtain ⟨hb26, hf⟩ := gd_some hf
  refine gw_iald C 12 0 wkg_12 rfl hb26 d_K_goOn_26 ?_
  refine gw_if_le (tgt := 41) C d_K_goOn_27 (by decide) (fun c => ?_) (fun c => ?_)
  · have hf := (if_pos c).symm.trans hf
    refine gw_aload_n C 0 d_K_goOn_41 rfl rfl ?_
    refine gw_iconst (v := (4 : Int32)) C d_K_goOn_42 (by decide) ?_
    refine gw_iload_n C 2 d_K_goOn_43 rfl rfl ?_
    refine gw_iload_n C 3 d_K_goOn_44 rfl rfl ?_
    obtain ⟨M45, hc45, hf⟩ := om_some hf
    refine gw_callVv (rest := []) C 0 wkg_0 clg_5 (c_K_later C.2.2.2.2.2.2.2.2.2.2 hc45) (cwV 3 C.2.2.2.2.1 (gTB_V tw_932 mv_K_later) rfl rfl rfl pd_K_later ⟨Nat.le_of_ble_eq_true rfl, Nat.le_of_ble_eq_true rfl⟩) rfl rfl (Nat.le_of_ble_eq_true rfl) d_K_goOn_45 ⟨Nat.le_of_ble_eq_true rfl, Nat.le_of_ble_eq_true rfl⟩ ?_
    exact gw_vreti C d_K_goOn_48 (wk ad cI cZ cC) hf
  · have hf := (if_neg c).symm.trans hf
    refine gw_aload_n C 0 d_K_goOn_30 rfl rfl ?_
    refine gw_iconst (v := (1 : Int32)) C d_K_goOn_31 (by decide) ?_
    refine gw_iload_n C 3 d_K_goOn_32 rfl rfl ?_
    refine gw_iconst (v := (-1 : Int32)) C d_K_goOn_33 (by decide) ?_
    refine gw_iload_n C 1 d_K_goOn_34 rfl rfl ?_
    obtain ⟨M35, hc35, hf⟩ := om_some hf
    refine gw_callVv (rest := []) C 0 wkg_0 clg_5 (c_K_endWith C.2.2.2.2.2.2.2.2.2.2 hc35) (cwV 4 C.2.2.2.2.1 (gTB_V tw_858 mv_K_endWith) rfl rfl rfl pd_K_endWith ⟨Nat.le_of_ble_eq_true rfl, Nat.le_of_ble_eq_true rfl⟩) rfl rfl (Nat.le_of_ble_eq_true rfl) d_K_goOn_35 ⟨Nat.le_of_ble_eq_true rfl, Nat.le_of_ble_eq_true rfl⟩ ?_
    refine gw_goto (tgt := 48) C d_K_goOn_38 (by decide) ?_
    exact gw_vreti C d_K_goOn_48 (wk ad cI cZ cC) hf
def f_K_goOn (x1 : Int32) (x2 : Int32) (x3 : Int32) (M : Mem) : Option Mem :=
  ob (f_K_isSimple x2 M) fun r2 M2 => if r2 = 0 then ob (f_K_isSimple x3 M2) fun r10 M10 => if r10 = 0 then om (f_K_give x2 M10) fun M18 => f_K_goOn_21 x1 x2 x3 M18 else f_K_goOn_21 x1 x2 x3 M10 else f_K_goOn_21 x1 x2 x3 M2
set_option maxRecDepth 100000 in
theorem g_K_goOn {M' : Mem} (C : GC p s m args meth c b_K_goOn 4 (none) "NoneWordsModel" TB D vwCl (tysW cI cZ cC) A Z) {x1 : Int32} {x2 : Int32} {x3 : Int32} {M : Mem} (hf : f_K_goOn x1 x2 x3 M = some M') : GW p l e rm_K_goOn s m args below meth c (MQ below (QW D vwCl (tysW cI cZ cC) A none (wk ad cI cZ cC M')) args s 0 0 A) D vwCl A 4 0 0 (wk ad cI cZ cC M) 0 [(0, .ref (ad 0)), (1, .int x1), (2, .int x2), (3, .int x3)] [] := by
  unfold f_K_goOn at hf
  refine gw_aload_n C 0 d_K_goOn_0 rfl rfl ?_
  refine gw_iload_n C 2 d_K_goOn_1 rfl rfl ?_
  obtain ⟨r2, M2, hc2, hf⟩ := ob_some hf
  refine gw_callVr (rest := []) C 0 wkg_0 clg_5 (c_K_isSimple C.2.2.2.2.2.2.2.2.2.2 hc2) (cwV 1 C.2.2.2.2.1 (gTB_V tw_936 mv_K_isSimple) rfl rfl rfl pd_K_isSimple ⟨Nat.le_of_ble_eq_true rfl, Nat.le_of_ble_eq_true rfl⟩) rfl rfl (Nat.le_of_ble_eq_true rfl) d_K_goOn_2 ⟨Nat.le_of_ble_eq_true rfl, Nat.le_of_ble_eq_true rfl⟩ ?_
  refine gw_if_ne (tgt := 21) C d_K_goOn_5 (by decide) (fun c => ?_) (fun c => ?_)
  · have hf := (if_neg c).symm.trans hf
    exact gw_sub [0, 1, 2, 3] rfl (g_K_goOn_21 C hf)
  · have hf := (if_pos c).symm.trans hf
    refine gw_aload_n C 0 d_K_goOn_8 rfl rfl ?_
    refine gw_iload_n C 3 d_K_goOn_9 rfl rfl ?_
    obtain ⟨r10, M10, hc10, hf⟩ := ob_some hf
    refine gw_callVr (rest := []) C 0 wkg_0 clg_5 (c_K_isSimple C.2.2.2.2.2.2.2.2.2.2 hc10) (cwV 1 C.2.2.2.2.1 (gTB_V tw_936 mv_K_isSimple) rfl rfl rfl pd_K_isSimple ⟨Nat.le_of_ble_eq_true rfl, Nat.le_of_ble_eq_true rfl⟩) rfl rfl (Nat.le_of_ble_eq_true rfl) d_K_goOn_10 ⟨Nat.le_of_ble_eq_true rfl, Nat.le_of_ble_eq_true rfl⟩ ?_
    refine gw_if_ne (tgt := 21) C d_K_goOn_13 (by decide) (fun c => ?_) (fun c => ?_)
    · have hf := (if_neg c).symm.trans hf
      exact gw_sub [0, 1, 2, 3] rfl (g_K_goOn_21 C hf)
    · have hf := (if_pos c).symm.trans hf
      refine gw_aload_n C 0 d_K_goOn_16 rfl rfl ?_
      refine gw_iload_n C 2 d_K_goOn_17 rfl rfl ?_
      obtain ⟨M18, hc18, hf⟩ := om_some hf
      refine gw_callVv (rest := []) C 0 wkg_0 clg_5 (c_K_give C.2.2.2.2.2.2.2.2.2.2 hc18) (cwV 1 C.2.2.2.2.1 (gTB_V tw_928 mv_K_give) rfl rfl rfl pd_K_give ⟨Nat.le_of_ble_eq_true rfl, Nat.le_of_ble_eq_true rfl⟩) rfl rfl (Nat.le_of_ble_eq_true rfl) d_K_goOn_18 ⟨Nat.le_of_ble_eq_true rfl, Nat.le_of_ble_eq_true rfl⟩ ?_
      exact gw_sub [0, 1, 2, 3] rfl (g_K_goOn_21 C hf)
theorem c_K_goOn (hZ : gw_ZOK Z) {x1 : Int32} {x2 : Int32} {x3 : Int32} {M : Mem} {M' : Mem} (hf : f_K_goOn x1 x2 x3 M = some M') : CW l y_K_goOn ws_K_goOn rm_K_goOn D vwCl (tysW cI cZ cC) Z [.ref (ad 0), .int x1, .int x2, .int x3] (wk ad cI cZ cC M) none (wk ad cI cZ cC M') 0 0 :=
  CW.ofG hZ (by decide) rfl (Nat.le_of_ble_eq_true rfl) (fun _ _ _ _ _ _ _ _ C _ => g_K_goOn C hf)
abbrev b_K_go : ByteArray := prog_7_method_37_code
def y_K_go : MethodName := ⟨"NoneWordsModel", "go", "()V"⟩
abbrev ws_K_go : List Cond := Cond.code y_K_go b_K_go 6 (none) :: TB
set_option maxRecDepth 100000 in
theorem tc_K_go : Cond.code y_K_go b_K_go 6 (none) ∈ TB := inTB 853 rfl rfl
theorem mv_K_go : Cond.instanceMethod y_K_go ∈ TB ∧ Cond.selects "NoneWordsModel" y_K_go y_K_go ∈ TB ∧ Cond.initialized "NoneWordsModel" ∈ TB ∧ Cond.code y_K_go b_K_go 6 (none) ∈ TB := ⟨inTB 852 (by decide +kernel) (by decide +kernel), inTB 39 (by decide +kernel) (by decide +kernel), inTB 71 (by decide +kernel) (by decide +kernel), tc_K_go⟩
theorem pd_K_go : y_K_go.cls = "NoneWordsModel" ∧ y_K_go.cls ≠ "java/lang/invoke/MethodHandle" ∧ y_K_go.cls ≠ "java/lang/invoke/VarHandle" ∧ (parseMethodDescriptor y_K_go.desc).map (fun d => d.parameters.length) = some 0 := by decide +kernel
theorem d_K_go_0 : decode b_K_go 0 = .ok (.aload_n 0, 1) := by decide +kernel
theorem d_K_go_1 : decode b_K_go 1 = .ok (.getfield 54, 3) := by decide +kernel
theorem d_K_go_4 : decode b_K_go 4 = .ok (.aload_n 0, 1) := by decide +kernel
theorem d_K_go_5 : decode b_K_go 5 = .ok (.getfield 209, 3) := by decide +kernel
theorem d_K_go_8 : decode b_K_go 8 = .ok (.iconst 1, 1) := by decide +kernel
theorem d_K_go_9 : decode b_K_go 9 = .ok (.isub, 1) := by decide +kernel
theorem d_K_go_10 : decode b_K_go 10 = .ok (.iaload, 1) := by decide +kernel
theorem d_K_go_11 : decode b_K_go 11 = .ok (.istore_n 1, 1) := by decide +kernel
theorem d_K_go_12 : decode b_K_go 12 = .ok (.aload_n 0, 1) := by decide +kernel
theorem d_K_go_13 : decode b_K_go 13 = .ok (.getfield 57, 3) := by decide +kernel
theorem d_K_go_16 : decode b_K_go 16 = .ok (.aload_n 0, 1) := by decide +kernel
theorem d_K_go_17 : decode b_K_go 17 = .ok (.getfield 209, 3) := by decide +kernel
theorem d_K_go_20 : decode b_K_go 20 = .ok (.iconst 1, 1) := by decide +kernel
theorem d_K_go_21 : decode b_K_go 21 = .ok (.isub, 1) := by decide +kernel
theorem d_K_go_22 : decode b_K_go 22 = .ok (.iaload, 1) := by decide +kernel
theorem d_K_go_23 : decode b_K_go 23 = .ok (.istore_n 2, 1) := by decide +kernel
theorem d_K_go_24 : decode b_K_go 24 = .ok (.aload_n 0, 1) := by decide +kernel
theorem d_K_go_25 : decode b_K_go 25 = .ok (.getfield 60, 3) := by decide +kernel
theorem d_K_go_28 : decode b_K_go 28 = .ok (.aload_n 0, 1) := by decide +kernel
theorem d_K_go_29 : decode b_K_go 29 = .ok (.getfield 209, 3) := by decide +kernel
theorem d_K_go_32 : decode b_K_go 32 = .ok (.iconst 1, 1) := by decide +kernel
theorem d_K_go_33 : decode b_K_go 33 = .ok (.isub, 1) := by decide +kernel
theorem d_K_go_34 : decode b_K_go 34 = .ok (.iaload, 1) := by decide +kernel
theorem d_K_go_35 : decode b_K_go 35 = .ok (.istore_n 3, 1) := by decide +kernel
theorem d_K_go_36 : decode b_K_go 36 = .ok (.aload_n 0, 1) := by decide +kernel
theorem d_K_go_37 : decode b_K_go 37 = .ok (.getfield 16, 3) := by decide +kernel
theorem d_K_go_40 : decode b_K_go 40 = .ok (.iload_n 1, 1) := by decide +kernel
theorem d_K_go_41 : decode b_K_go 41 = .ok (.iaload, 1) := by decide +kernel
theorem d_K_go_42 : decode b_K_go 42 = .ok (.istore 4, 2) := by decide +kernel
theorem d_K_go_44 : decode b_K_go 44 = .ok (.aload_n 0, 1) := by decide +kernel
theorem d_K_go_45 : decode b_K_go 45 = .ok (.getfield 22, 3) := by decide +kernel
theorem d_K_go_48 : decode b_K_go 48 = .ok (.iload_n 1, 1) := by decide +kernel
theorem d_K_go_49 : decode b_K_go 49 = .ok (.iaload, 1) := by decide +kernel
theorem d_K_go_50 : decode b_K_go 50 = .ok (.istore 5, 2) := by decide +kernel
theorem d_K_go_52 : decode b_K_go 52 = .ok (.iload_n 2, 1) := by decide +kernel
theorem d_K_go_53 : decode b_K_go 53 = .ok (.ifCond .ne 138, 3) := by decide +kernel
theorem d_K_go_56 : decode b_K_go 56 = .ok (.aload_n 0, 1) := by decide +kernel
theorem d_K_go_57 : decode b_K_go 57 = .ok (.getfield 45, 3) := by decide +kernel
theorem d_K_go_60 : decode b_K_go 60 = .ok (.iload_n 1, 1) := by decide +kernel
theorem d_K_go_61 : decode b_K_go 61 = .ok (.iaload, 1) := by decide +kernel
theorem d_K_go_62 : decode b_K_go 62 = .ok (.ifCond .le 16, 3) := by decide +kernel
theorem d_K_go_65 : decode b_K_go 65 = .ok (.aload_n 0, 1) := by decide +kernel
theorem d_K_go_66 : decode b_K_go 66 = .ok (.dup, 1) := by decide +kernel
theorem d_K_go_67 : decode b_K_go 67 = .ok (.getfield 209, 3) := by decide +kernel
theorem d_K_go_70 : decode b_K_go 70 = .ok (.iconst 1, 1) := by decide +kernel
theorem d_K_go_71 : decode b_K_go 71 = .ok (.isub, 1) := by decide +kernel
theorem d_K_go_72 : decode b_K_go 72 = .ok (.putfield 209, 3) := by decide +kernel
theorem d_K_go_75 : decode b_K_go 75 = .ok (.goto 231, 3) := by decide +kernel
theorem d_K_go_78 : decode b_K_go 78 = .ok (.aload_n 0, 1) := by decide +kernel
theorem d_K_go_79 : decode b_K_go 79 = .ok (.getfield 13, 3) := by decide +kernel
theorem d_K_go_82 : decode b_K_go 82 = .ok (.iload 4, 2) := by decide +kernel
theorem d_K_go_84 : decode b_K_go 84 = .ok (.iaload, 1) := by decide +kernel
theorem d_K_go_85 : decode b_K_go 85 = .ok (.iconst 4, 1) := by decide +kernel
theorem d_K_go_86 : decode b_K_go 86 = .ok (.if_icmp .ne 26, 3) := by decide +kernel
theorem d_K_go_89 : decode b_K_go 89 = .ok (.aload_n 0, 1) := by decide +kernel
theorem d_K_go_90 : decode b_K_go 90 = .ok (.getfield 13, 3) := by decide +kernel
theorem d_K_go_93 : decode b_K_go 93 = .ok (.iload 5, 2) := by decide +kernel
theorem d_K_go_95 : decode b_K_go 95 = .ok (.iaload, 1) := by decide +kernel
theorem d_K_go_96 : decode b_K_go 96 = .ok (.iconst 4, 1) := by decide +kernel
theorem d_K_go_97 : decode b_K_go 97 = .ok (.if_icmp .ne 15, 3) := by decide +kernel
theorem d_K_go_100 : decode b_K_go 100 = .ok (.aload_n 0, 1) := by decide +kernel
theorem d_K_go_101 : decode b_K_go 101 = .ok (.iload_n 1, 1) := by decide +kernel
theorem d_K_go_102 : decode b_K_go 102 = .ok (.iload 4, 2) := by decide +kernel
theorem d_K_go_104 : decode b_K_go 104 = .ok (.iload 5, 2) := by decide +kernel
theorem d_K_go_106 : decode b_K_go 106 = .ok (.invokevirtual 224, 3) := by decide +kernel
theorem d_K_go_109 : decode b_K_go 109 = .ok (.goto 197, 3) := by decide +kernel
theorem d_K_go_112 : decode b_K_go 112 = .ok (.aload_n 0, 1) := by decide +kernel
theorem d_K_go_113 : decode b_K_go 113 = .ok (.getfield 13, 3) := by decide +kernel
theorem d_K_go_116 : decode b_K_go 116 = .ok (.iload 4, 2) := by decide +kernel
theorem d_K_go_118 : decode b_K_go 118 = .ok (.iaload, 1) := by decide +kernel
theorem d_K_go_119 : decode b_K_go 119 = .ok (.iconst 4, 1) := by decide +kernel
theorem d_K_go_120 : decode b_K_go 120 = .ok (.if_icmp .eq 14, 3) := by decide +kernel
theorem d_K_go_123 : decode b_K_go 123 = .ok (.aload_n 0, 1) := by decide +kernel
theorem d_K_go_124 : decode b_K_go 124 = .ok (.getfield 13, 3) := by decide +kernel
theorem d_K_go_127 : decode b_K_go 127 = .ok (.iload 5, 2) := by decide +kernel
theorem d_K_go_129 : decode b_K_go 129 = .ok (.iaload, 1) := by decide +kernel
theorem d_K_go_130 : decode b_K_go 130 = .ok (.iconst 4, 1) := by decide +kernel
theorem d_K_go_131 : decode b_K_go 131 = .ok (.if_icmp .ne 47, 3) := by decide +kernel
theorem d_K_go_134 : decode b_K_go 134 = .ok (.aload_n 0, 1) := by decide +kernel
theorem d_K_go_135 : decode b_K_go 135 = .ok (.iload_n 1, 1) := by decide +kernel
theorem d_K_go_136 : decode b_K_go 136 = .ok (.aload_n 0, 1) := by decide +kernel
theorem d_K_go_137 : decode b_K_go 137 = .ok (.getfield 13, 3) := by decide +kernel
theorem d_K_go_140 : decode b_K_go 140 = .ok (.iload 4, 2) := by decide +kernel
theorem d_K_go_142 : decode b_K_go 142 = .ok (.iaload, 1) := by decide +kernel
theorem d_K_go_143 : decode b_K_go 143 = .ok (.iconst 4, 1) := by decide +kernel
theorem d_K_go_144 : decode b_K_go 144 = .ok (.if_icmp .ne 8, 3) := by decide +kernel
theorem d_K_go_147 : decode b_K_go 147 = .ok (.iload 5, 2) := by decide +kernel
theorem d_K_go_149 : decode b_K_go 149 = .ok (.goto 5, 3) := by decide +kernel
theorem d_K_go_152 : decode b_K_go 152 = .ok (.iload 4, 2) := by decide +kernel
theorem d_K_go_154 : decode b_K_go 154 = .ok (.aload_n 0, 1) := by decide +kernel
theorem d_K_go_155 : decode b_K_go 155 = .ok (.getfield 13, 3) := by decide +kernel
theorem d_K_go_158 : decode b_K_go 158 = .ok (.iload 4, 2) := by decide +kernel
theorem d_K_go_160 : decode b_K_go 160 = .ok (.iaload, 1) := by decide +kernel
theorem d_K_go_161 : decode b_K_go 161 = .ok (.iconst 4, 1) := by decide +kernel
theorem d_K_go_162 : decode b_K_go 162 = .ok (.if_icmp .ne 8, 3) := by decide +kernel
theorem d_K_go_165 : decode b_K_go 165 = .ok (.iload 4, 2) := by decide +kernel
theorem d_K_go_167 : decode b_K_go 167 = .ok (.goto 5, 3) := by decide +kernel
theorem d_K_go_170 : decode b_K_go 170 = .ok (.iload 5, 2) := by decide +kernel
theorem d_K_go_172 : decode b_K_go 172 = .ok (.invokevirtual 228, 3) := by decide +kernel
theorem d_K_go_175 : decode b_K_go 175 = .ok (.goto 131, 3) := by decide +kernel
theorem d_K_go_178 : decode b_K_go 178 = .ok (.aload_n 0, 1) := by decide +kernel
theorem d_K_go_179 : decode b_K_go 179 = .ok (.iconst 0, 1) := by decide +kernel
theorem d_K_go_180 : decode b_K_go 180 = .ok (.iload 4, 2) := by decide +kernel
theorem d_K_go_182 : decode b_K_go 182 = .ok (.iload 5, 2) := by decide +kernel
theorem d_K_go_184 : decode b_K_go 184 = .ok (.iload_n 1, 1) := by decide +kernel
theorem d_K_go_185 : decode b_K_go 185 = .ok (.invokevirtual 231, 3) := by decide +kernel
theorem d_K_go_188 : decode b_K_go 188 = .ok (.goto 118, 3) := by decide +kernel
theorem d_K_go_191 : decode b_K_go 191 = .ok (.iload_n 2, 1) := by decide +kernel
theorem d_K_go_192 : decode b_K_go 192 = .ok (.iconst 1, 1) := by decide +kernel
theorem d_K_go_193 : decode b_K_go 193 = .ok (.if_icmp .ne 31, 3) := by decide +kernel
theorem d_K_go_196 : decode b_K_go 196 = .ok (.aload_n 0, 1) := by decide +kernel
theorem d_K_go_197 : decode b_K_go 197 = .ok (.iconst 1, 1) := by decide +kernel
theorem d_K_go_198 : decode b_K_go 198 = .ok (.iload_n 3, 1) := by decide +kernel
theorem d_K_go_199 : decode b_K_go 199 = .ok (.aload_n 0, 1) := by decide +kernel
theorem d_K_go_200 : decode b_K_go 200 = .ok (.getfield 13, 3) := by decide +kernel
theorem d_K_go_203 : decode b_K_go 203 = .ok (.iload 4, 2) := by decide +kernel
theorem d_K_go_205 : decode b_K_go 205 = .ok (.iaload, 1) := by decide +kernel
theorem d_K_go_206 : decode b_K_go 206 = .ok (.iconst 4, 1) := by decide +kernel
theorem d_K_go_207 : decode b_K_go 207 = .ok (.if_icmp .ne 8, 3) := by decide +kernel
theorem d_K_go_210 : decode b_K_go 210 = .ok (.iload 5, 2) := by decide +kernel
theorem d_K_go_212 : decode b_K_go 212 = .ok (.goto 5, 3) := by decide +kernel
theorem d_K_go_215 : decode b_K_go 215 = .ok (.iload 4, 2) := by decide +kernel
theorem d_K_go_217 : decode b_K_go 217 = .ok (.iload_n 1, 1) := by decide +kernel
theorem d_K_go_218 : decode b_K_go 218 = .ok (.invokevirtual 231, 3) := by decide +kernel
theorem d_K_go_221 : decode b_K_go 221 = .ok (.goto 85, 3) := by decide +kernel
theorem d_K_go_224 : decode b_K_go 224 = .ok (.iload_n 2, 1) := by decide +kernel
theorem d_K_go_225 : decode b_K_go 225 = .ok (.iconst 2, 1) := by decide +kernel
theorem d_K_go_226 : decode b_K_go 226 = .ok (.if_icmp .ne 14, 3) := by decide +kernel
theorem d_K_go_229 : decode b_K_go 229 = .ok (.aload_n 0, 1) := by decide +kernel
theorem d_K_go_230 : decode b_K_go 230 = .ok (.iconst 1, 1) := by decide +kernel
theorem d_K_go_231 : decode b_K_go 231 = .ok (.iload_n 3, 1) := by decide +kernel
theorem d_K_go_232 : decode b_K_go 232 = .ok (.iconst (-1), 1) := by decide +kernel
theorem d_K_go_233 : decode b_K_go 233 = .ok (.iload_n 1, 1) := by decide +kernel
theorem d_K_go_234 : decode b_K_go 234 = .ok (.invokevirtual 231, 3) := by decide +kernel
theorem d_K_go_237 : decode b_K_go 237 = .ok (.goto 69, 3) := by decide +kernel
theorem d_K_go_240 : decode b_K_go 240 = .ok (.iload_n 2, 1) := by decide +kernel
theorem d_K_go_241 : decode b_K_go 241 = .ok (.iconst 3, 1) := by decide +kernel
theorem d_K_go_242 : decode b_K_go 242 = .ok (.if_icmp .ne 25, 3) := by decide +kernel
theorem d_K_go_245 : decode b_K_go 245 = .ok (.aload_n 0, 1) := by decide +kernel
theorem d_K_go_246 : decode b_K_go 246 = .ok (.iload_n 1, 1) := by decide +kernel
theorem d_K_go_247 : decode b_K_go 247 = .ok (.iload_n 3, 1) := by decide +kernel
theorem d_K_go_248 : decode b_K_go 248 = .ok (.iload 4, 2) := by decide +kernel
theorem d_K_go_250 : decode b_K_go 250 = .ok (.iload_n 3, 1) := by decide +kernel
theorem d_K_go_251 : decode b_K_go 251 = .ok (.if_icmp .ne 8, 3) := by decide +kernel
theorem d_K_go_254 : decode b_K_go 254 = .ok (.iload 5, 2) := by decide +kernel
theorem d_K_go_256 : decode b_K_go 256 = .ok (.goto 5, 3) := by decide +kernel
theorem d_K_go_259 : decode b_K_go 259 = .ok (.iload 4, 2) := by decide +kernel
theorem d_K_go_261 : decode b_K_go 261 = .ok (.invokevirtual 235, 3) := by decide +kernel
theorem d_K_go_264 : decode b_K_go 264 = .ok (.goto 42, 3) := by decide +kernel
theorem d_K_go_267 : decode b_K_go 267 = .ok (.aload_n 0, 1) := by decide +kernel
theorem d_K_go_268 : decode b_K_go 268 = .ok (.iload 4, 2) := by decide +kernel
theorem d_K_go_270 : decode b_K_go 270 = .ok (.invokevirtual 238, 3) := by decide +kernel
theorem d_K_go_273 : decode b_K_go 273 = .ok (.ifCond .ne 12, 3) := by decide +kernel
theorem d_K_go_276 : decode b_K_go 276 = .ok (.aload_n 0, 1) := by decide +kernel
theorem d_K_go_277 : decode b_K_go 277 = .ok (.iload 5, 2) := by decide +kernel
theorem d_K_go_279 : decode b_K_go 279 = .ok (.invokevirtual 238, 3) := by decide +kernel
theorem d_K_go_282 : decode b_K_go 282 = .ok (.ifCond .eq 11, 3) := by decide +kernel
theorem d_K_go_285 : decode b_K_go 285 = .ok (.aload_n 0, 1) := by decide +kernel
theorem d_K_go_286 : decode b_K_go 286 = .ok (.iload_n 1, 1) := by decide +kernel
theorem d_K_go_287 : decode b_K_go 287 = .ok (.invokevirtual 241, 3) := by decide +kernel
theorem d_K_go_290 : decode b_K_go 290 = .ok (.goto 11, 3) := by decide +kernel
theorem d_K_go_293 : decode b_K_go 293 = .ok (.aload_n 0, 1) := by decide +kernel
theorem d_K_go_294 : decode b_K_go 294 = .ok (.iconst 1, 1) := by decide +kernel
theorem d_K_go_295 : decode b_K_go 295 = .ok (.iload_n 3, 1) := by decide +kernel
theorem d_K_go_296 : decode b_K_go 296 = .ok (.iconst (-1), 1) := by decide +kernel
theorem d_K_go_297 : decode b_K_go 297 = .ok (.iload_n 1, 1) := by decide +kernel
theorem d_K_go_298 : decode b_K_go 298 = .ok (.invokevirtual 244, 3) := by decide +kernel
theorem d_K_go_301 : decode b_K_go 301 = .ok (.aload_n 0, 1) := by decide +kernel
theorem d_K_go_302 : decode b_K_go 302 = .ok (.iload_n 1, 1) := by decide +kernel
theorem d_K_go_303 : decode b_K_go 303 = .ok (.invokevirtual 247, 3) := by decide +kernel
theorem d_K_go_306 : decode b_K_go 306 = .ok (.return_, 1) := by decide +kernel
abbrev rm_K_go : Room := { frames := 10, cells := 0, slots := 0, locals := 233 }
def f_K_go_301 (x1 : Int32) (M : Mem) : Option Mem :=
  om (f_K_end x1 M) fun M303 => some M303
set_option maxRecDepth 100000 in
theorem g_K_go_301 {M' : Mem} (C : GC p s m args meth c b_K_go 6 (none) "NoneWordsModel" TB D vwCl (tysW cI cZ cC) A Z) {x1 : Int32} {M : Mem} (hf : f_K_go_301 x1 M = some M') : GW p l e rm_K_go s m args below meth c (MQ below (QW D vwCl (tysW cI cZ cC) A none (wk ad cI cZ cC M')) args s 0 0 A) D vwCl A 6 0 0 (wk ad cI cZ cC M) 301 [(0, .ref (ad 0)), (1, .int x1)] [] := by
  unfold f_K_go_301 at hf
  refine gw_aload_n C 0 d_K_go_301 rfl rfl ?_
  refine gw_iload_n C 1 d_K_go_302 rfl rfl ?_
  obtain ⟨M303, hc303, hf⟩ := om_some hf
  refine gw_callVv (rest := []) C 0 wkg_0 clg_5 (c_K_end C.2.2.2.2.2.2.2.2.2.2 hc303) (cwV 1 C.2.2.2.2.1 (gTB_V tw_924 mv_K_end) rfl rfl rfl pd_K_end ⟨Nat.le_of_ble_eq_true rfl, Nat.le_of_ble_eq_true rfl⟩) rfl rfl (Nat.le_of_ble_eq_true rfl) d_K_go_303 ⟨Nat.le_of_ble_eq_true rfl, Nat.le_of_ble_eq_true rfl⟩ ?_
  exact gw_vreti C d_K_go_306 (wk ad cI cZ cC) hf
def f_K_go_285 (x1 : Int32) (M : Mem) : Option Mem :=
  om (f_K_thus x1 M) fun M287 => f_K_go_301 x1 M287
set_option maxRecDepth 100000 in
theorem g_K_go_285 {M' : Mem} (C : GC p s m args meth c b_K_go 6 (none) "NoneWordsModel" TB D vwCl (tysW cI cZ cC) A Z) {x1 : Int32} {M : Mem} (hf : f_K_go_285 x1 M = some M') : GW p l e rm_K_go s m args below meth c (MQ below (QW D vwCl (tysW cI cZ cC) A none (wk ad cI cZ cC M')) args s 0 0 A) D vwCl A 6 0 0 (wk ad cI cZ cC M) 285 [(0, .ref (ad 0)), (1, .int x1)] [] := by
  unfold f_K_go_285 at hf
  refine gw_aload_n C 0 d_K_go_285 rfl rfl ?_
  refine gw_iload_n C 1 d_K_go_286 rfl rfl ?_
  obtain ⟨M287, hc287, hf⟩ := om_some hf
  refine gw_callVv (rest := []) C 0 wkg_0 clg_5 (c_K_thus C.2.2.2.2.2.2.2.2.2.2 hc287) (cwV 1 C.2.2.2.2.1 (gTB_V tw_948 mv_K_thus) rfl rfl rfl pd_K_thus ⟨Nat.le_of_ble_eq_true rfl, Nat.le_of_ble_eq_true rfl⟩) rfl rfl (Nat.le_of_ble_eq_true rfl) d_K_go_287 ⟨Nat.le_of_ble_eq_true rfl, Nat.le_of_ble_eq_true rfl⟩ ?_
  refine gw_goto (tgt := 301) C d_K_go_290 (by decide) ?_
  exact gw_sub [0, 1] rfl (g_K_go_301 C hf)
def f_K_go_261 (y0 : Int32) (y1 : Int32) (y2 : Int32) (M : Mem) : Option Mem :=
  om (f_K_goOn y2 y1 y0 M) fun M261 => some M261
set_option maxRecDepth 100000 in
theorem g_K_go_261 {M' : Mem} (C : GC p s m args meth c b_K_go 6 (none) "NoneWordsModel" TB D vwCl (tysW cI cZ cC) A Z) {y0 : Int32} {y1 : Int32} {y2 : Int32} {M : Mem} (hf : f_K_go_261 y0 y1 y2 M = some M') : GW p l e rm_K_go s m args below meth c (MQ below (QW D vwCl (tysW cI cZ cC) A none (wk ad cI cZ cC M')) args s 0 0 A) D vwCl A 6 0 0 (wk ad cI cZ cC M) 261 [] [.int y0, .int y1, .int y2, .ref (ad 0)] := by
  unfold f_K_go_261 at hf
  obtain ⟨M261, hc261, hf⟩ := om_some hf
  refine gw_callVv (rest := []) C 0 wkg_0 clg_5 (c_K_goOn C.2.2.2.2.2.2.2.2.2.2 hc261) (cwV 3 C.2.2.2.2.1 (gTB_V tw_944 mv_K_goOn) rfl rfl rfl pd_K_goOn ⟨Nat.le_of_ble_eq_true rfl, Nat.le_of_ble_eq_true rfl⟩) rfl rfl (Nat.le_of_ble_eq_true rfl) d_K_go_261 ⟨Nat.le_of_ble_eq_true rfl, Nat.le_of_ble_eq_true rfl⟩ ?_
  refine gw_goto (tgt := 306) C d_K_go_264 (by decide) ?_
  exact gw_vreti C d_K_go_306 (wk ad cI cZ cC) hf
def f_K_go_217 (x1 : Int32) (y0 : Int32) (y1 : Int32) (y2 : Int32) (M : Mem) : Option Mem :=
  om (f_K_endWith y2 y1 y0 x1 M) fun M218 => some M218
set_option maxRecDepth 100000 in
theorem g_K_go_217 {M' : Mem} (C : GC p s m args meth c b_K_go 6 (none) "NoneWordsModel" TB D vwCl (tysW cI cZ cC) A Z) {x1 : Int32} {y0 : Int32} {y1 : Int32} {y2 : Int32} {M : Mem} (hf : f_K_go_217 x1 y0 y1 y2 M = some M') : GW p l e rm_K_go s m args below meth c (MQ below (QW D vwCl (tysW cI cZ cC) A none (wk ad cI cZ cC M')) args s 0 0 A) D vwCl A 6 0 0 (wk ad cI cZ cC M) 217 [(1, .int x1)] [.int y0, .int y1, .int y2, .ref (ad 0)] := by
  unfold f_K_go_217 at hf
  refine gw_iload_n C 0 d_K_go_217 rfl rfl ?_
  obtain ⟨M218, hc218, hf⟩ := om_some hf
  refine gw_callVv (rest := []) C 0 wkg_0 clg_5 (c_K_endWith C.2.2.2.2.2.2.2.2.2.2 hc218) (cwV 4 C.2.2.2.2.1 (gTB_V tw_858 mv_K_endWith) rfl rfl rfl pd_K_endWith ⟨Nat.le_of_ble_eq_true rfl, Nat.le_of_ble_eq_true rfl⟩) rfl rfl (Nat.le_of_ble_eq_true rfl) d_K_go_218 ⟨Nat.le_of_ble_eq_true rfl, Nat.le_of_ble_eq_true rfl⟩ ?_
  refine gw_goto (tgt := 306) C d_K_go_221 (by decide) ?_
  exact gw_vreti C d_K_go_306 (wk ad cI cZ cC) hf
def f_K_go_172 (y0 : Int32) (y1 : Int32) (y2 : Int32) (M : Mem) : Option Mem :=
  om (f_K_startOne y2 y1 y0 M) fun M172 => some M172
set_option maxRecDepth 100000 in
theorem g_K_go_172 {M' : Mem} (C : GC p s m args meth c b_K_go 6 (none) "NoneWordsModel" TB D vwCl (tysW cI cZ cC) A Z) {y0 : Int32} {y1 : Int32} {y2 : Int32} {M : Mem} (hf : f_K_go_172 y0 y1 y2 M = some M') : GW p l e rm_K_go s m args below meth c (MQ below (QW D vwCl (tysW cI cZ cC) A none (wk ad cI cZ cC M')) args s 0 0 A) D vwCl A 6 0 0 (wk ad cI cZ cC M) 172 [] [.int y0, .int y1, .int y2, .ref (ad 0)] := by
  unfold f_K_go_172 at hf
  obtain ⟨M172, hc172, hf⟩ := om_some hf
  refine gw_callVv (rest := []) C 0 wkg_0 clg_5 (c_K_startOne C.2.2.2.2.2.2.2.2.2.2 hc172) (cwV 3 C.2.2.2.2.1 (gTB_V tw_940 mv_K_startOne) rfl rfl rfl pd_K_startOne ⟨Nat.le_of_ble_eq_true rfl, Nat.le_of_ble_eq_true rfl⟩) rfl rfl (Nat.le_of_ble_eq_true rfl) d_K_go_172 ⟨Nat.le_of_ble_eq_true rfl, Nat.le_of_ble_eq_true rfl⟩ ?_
  refine gw_goto (tgt := 306) C d_K_go_175 (by decide) ?_
  exact gw_vreti C d_K_go_306 (wk ad cI cZ cC) hf
def f_K_go_154 (x4 : Int32) (x5 : Int32) (y0 : Int32) (y1 : Int32) (M : Mem) : Option Mem :=
  gd (inb x4 120) (if (M 2 x4.toNatClampNeg) = (4 : Int32) then f_K_go_172 x4 y0 y1 M else f_K_go_172 x5 y0 y1 M)
set_option maxRecDepth 100000 in
theorem g_K_go_154 {M' : Mem} (C : GC p s m args meth c b_K_go 6 (none) "NoneWordsModel" TB D vwCl (tysW cI cZ cC) A Z) {x4 : Int32} {x5 : Int32} {y0 : Int32} {y1 : Int32} {M : Mem} (hf : f_K_go_154 x4 x5 y0 y1 M = some M') : GW p l e rm_K_go s m args below meth c (MQ below (QW D vwCl (tysW cI cZ cC) A none (wk ad cI cZ cC M')) args s 0 0 A) D vwCl A 6 0 0 (wk ad cI cZ cC M) 154 [(0, .ref (ad 0)), (4, .int x4), (5, .int x5)] [.int y0, .int y1, .ref (ad 0)] := by
  unfold f_K_go_154 at hf
  refine gw_aload_n C 0 d_K_go_154 rfl rfl ?_
  refine gw_get C in_K 0 wkg_0 clg_5 4 (by decide) tw_690 rfl rfl d_K_go_155 ?_
  refine gw_iload C 1 d_K_go_158 rfl ?_
  obtain ⟨hb160, hf⟩ := gd_some hf
  refine gw_iald C 2 0 wkg_2 rfl hb160 d_K_go_160 ?_
  refine gw_iconst (v := (4 : Int32)) C d_K_go_161 (by decide) ?_
  refine gw_icmp_ne (tgt := 170) C d_K_go_162 (by decide) (fun c => ?_) (fun c => ?_)
  · have hf := (if_neg c).symm.trans hf
    refine gw_iload C 2 d_K_go_170 rfl ?_
    exact gw_sub [] rfl (g_K_go_172 C hf)
  · have hf := (if_pos c).symm.trans hf
    refine gw_iload C 1 d_K_go_165 rfl ?_
    refine gw_goto (tgt := 172) C d_K_go_167 (by decide) ?_
    exact gw_sub [] rfl (g_K_go_172 C hf)
def f_K_go_134 (x1 : Int32) (x4 : Int32) (x5 : Int32) (M : Mem) : Option Mem :=
  gd (inb x4 120) (if (M 2 x4.toNatClampNeg) = (4 : Int32) then f_K_go_154 x4 x5 x5 x1 M else f_K_go_154 x4 x5 x4 x1 M)
set_option maxRecDepth 100000 in
theorem g_K_go_134 {M' : Mem} (C : GC p s m args meth c b_K_go 6 (none) "NoneWordsModel" TB D vwCl (tysW cI cZ cC) A Z) {x1 : Int32} {x4 : Int32} {x5 : Int32} {M : Mem} (hf : f_K_go_134 x1 x4 x5 M = some M') : GW p l e rm_K_go s m args below meth c (MQ below (QW D vwCl (tysW cI cZ cC) A none (wk ad cI cZ cC M')) args s 0 0 A) D vwCl A 6 0 0 (wk ad cI cZ cC M) 134 [(0, .ref (ad 0)), (1, .int x1), (4, .int x4), (5, .int x5)] [] := by
  unfold f_K_go_134 at hf
  refine gw_aload_n C 0 d_K_go_134 rfl rfl ?_
  refine gw_iload_n C 1 d_K_go_135 rfl rfl ?_
  refine gw_aload_n C 0 d_K_go_136 rfl rfl ?_
  refine gw_get C in_K 0 wkg_0 clg_5 4 (by decide) tw_690 rfl rfl d_K_go_137 ?_
  refine gw_iload C 2 d_K_go_140 rfl ?_
  obtain ⟨hb142, hf⟩ := gd_some hf
  refine gw_iald C 2 0 wkg_2 rfl hb142 d_K_go_142 ?_
  refine gw_iconst (v := (4 : Int32)) C d_K_go_143 (by decide) ?_
  refine gw_icmp_ne (tgt := 152) C d_K_go_144 (by decide) (fun c => ?_) (fun c => ?_)
  · have hf := (if_neg c).symm.trans hf
    refine gw_iload C 2 d_K_go_152 rfl ?_
    exact gw_sub [0, 2, 3] rfl (g_K_go_154 C hf)
  · have hf := (if_pos c).symm.trans hf
    refine gw_iload C 3 d_K_go_147 rfl ?_
    refine gw_goto (tgt := 154) C d_K_go_149 (by decide) ?_
    exact gw_sub [0, 2, 3] rfl (g_K_go_154 C hf)
def f_K_go_112 (x1 : Int32) (x4 : Int32) (x5 : Int32) (M : Mem) : Option Mem :=
  gd (inb x4 120) (if (M 2 x4.toNatClampNeg) = (4 : Int32) then f_K_go_134 x1 x4 x5 M else gd (inb x5 120) (if (M 2 x5.toNatClampNeg) = (4 : Int32) then f_K_go_134 x1 x4 x5 M else om (f_K_endWith (0 : Int32) x4 x5 x1 M) fun M185 => some M185))
set_option maxRecDepth 100000 in
theorem g_K_go_112 {M' : Mem} (C : GC p s m args meth c b_K_go 6 (none) "NoneWordsModel" TB D vwCl (tysW cI cZ cC) A Z) {x1 : Int32} {x4 : Int32} {x5 : Int32} {M : Mem} (hf : f_K_go_112 x1 x4 x5 M = some M') : GW p l e rm_K_go s m args below meth c (MQ below (QW D vwCl (tysW cI cZ cC) A none (wk ad cI cZ cC M')) args s 0 0 A) D vwCl A 6 0 0 (wk ad cI cZ cC M) 112 [(0, .ref (ad 0)), (1, .int x1), (4, .int x4), (5, .int x5)] [] := by
  unfold f_K_go_112 at hf
  refine gw_aload_n C 0 d_K_go_112 rfl rfl ?_
  refine gw_get C in_K 0 wkg_0 clg_5 4 (by decide) tw_690 rfl rfl d_K_go_113 ?_
  refine gw_iload C 2 d_K_go_116 rfl ?_
  obtain ⟨hb118, hf⟩ := gd_some hf
  refine gw_iald C 2 0 wkg_2 rfl hb118 d_K_go_118 ?_
  refine gw_iconst (v := (4 : Int32)) C d_K_go_119 (by decide) ?_
  refine gw_icmp_eq (tgt := 134) C d_K_go_120 (by decide) (fun c => ?_) (fun c => ?_)
  · have hf := (if_pos c).symm.trans hf
    exact gw_sub [0, 1, 2, 3] rfl (g_K_go_134 C hf)
  · have hf := (if_neg c).symm.trans hf
    refine gw_aload_n C 0 d_K_go_123 rfl rfl ?_
    refine gw_get C in_K 0 wkg_0 clg_5 4 (by decide) tw_690 rfl rfl d_K_go_124 ?_
    refine gw_iload C 3 d_K_go_127 rfl ?_
    obtain ⟨hb129, hf⟩ := gd_some hf
    refine gw_iald C 2 0 wkg_2 rfl hb129 d_K_go_129 ?_
    refine gw_iconst (v := (4 : Int32)) C d_K_go_130 (by decide) ?_
    refine gw_icmp_ne (tgt := 178) C d_K_go_131 (by decide) (fun c => ?_) (fun c => ?_)
    · have hf := (if_neg c).symm.trans hf
      refine gw_aload_n C 0 d_K_go_178 rfl rfl ?_
      refine gw_iconst (v := (0 : Int32)) C d_K_go_179 (by decide) ?_
      refine gw_iload C 2 d_K_go_180 rfl ?_
      refine gw_iload C 3 d_K_go_182 rfl ?_
      refine gw_iload_n C 1 d_K_go_184 rfl rfl ?_
      obtain ⟨M185, hc185, hf⟩ := om_some hf
      refine gw_callVv (rest := []) C 0 wkg_0 clg_5 (c_K_endWith C.2.2.2.2.2.2.2.2.2.2 hc185) (cwV 4 C.2.2.2.2.1 (gTB_V tw_858 mv_K_endWith) rfl rfl rfl pd_K_endWith ⟨Nat.le_of_ble_eq_true rfl, Nat.le_of_ble_eq_true rfl⟩) rfl rfl (Nat.le_of_ble_eq_true rfl) d_K_go_185 ⟨Nat.le_of_ble_eq_true rfl, Nat.le_of_ble_eq_true rfl⟩ ?_
      refine gw_goto (tgt := 306) C d_K_go_188 (by decide) ?_
      exact gw_vreti C d_K_go_306 (wk ad cI cZ cC) hf
    · have hf := (if_pos c).symm.trans hf
      exact gw_sub [0, 1, 2, 3] rfl (g_K_go_134 C hf)
def f_K_go (M : Mem) : Option Mem :=
  gd (inb ((M 0 23) - (1 : Int32)) 130) (gd (inb ((M 0 23) - (1 : Int32)) 130) (gd (inb ((M 0 23) - (1 : Int32)) 130) (gd (inb (M 15 ((M 0 23) - (1 : Int32)).toNatClampNeg) 120) (gd (inb (M 15 ((M 0 23) - (1 : Int32)).toNatClampNeg) 120) (if (M 16 ((M 0 23) - (1 : Int32)).toNatClampNeg) = 0 then gd (inb (M 15 ((M 0 23) - (1 : Int32)).toNatClampNeg) 120) (if (M 12 (M 15 ((M 0 23) - (1 : Int32)).toNatClampNeg).toNatClampNeg) ≤ 0 then gd (inb (M 3 (M 15 ((M 0 23) - (1 : Int32)).toNatClampNeg).toNatClampNeg) 120) (if (M 2 (M 3 (M 15 ((M 0 23) - (1 : Int32)).toNatClampNeg).toNatClampNeg).toNatClampNeg) = (4 : Int32) then gd (inb (M 5 (M 15 ((M 0 23) - (1 : Int32)).toNatClampNeg).toNatClampNeg) 120) (if (M 2 (M 5 (M 15 ((M 0 23) - (1 : Int32)).toNatClampNeg).toNatClampNeg).toNatClampNeg) = (4 : Int32) then om (f_K_startTwo (M 15 ((M 0 23) - (1 : Int32)).toNatClampNeg) (M 3 (M 15 ((M 0 23) - (1 : Int32)).toNatClampNeg).toNatClampNeg) (M 5 (M 15 ((M 0 23) - (1 : Int32)).toNatClampNeg).toNatClampNeg) M) fun M106 => some M106 else f_K_go_112 (M 15 ((M 0 23) - (1 : Int32)).toNatClampNeg) (M 3 (M 15 ((M 0 23) - (1 : Int32)).toNatClampNeg).toNatClampNeg) (M 5 (M 15 ((M 0 23) - (1 : Int32)).toNatClampNeg).toNatClampNeg) M) else f_K_go_112 (M 15 ((M 0 23) - (1 : Int32)).toNatClampNeg) (M 3 (M 15 ((M 0 23) - (1 : Int32)).toNatClampNeg).toNatClampNeg) (M 5 (M 15 ((M 0 23) - (1 : Int32)).toNatClampNeg).toNatClampNeg) M) else some (ms M 0 23 ((M 0 23) - (1 : Int32)))) else if (M 16 ((M 0 23) - (1 : Int32)).toNatClampNeg) = (1 : Int32) then gd (inb (M 3 (M 15 ((M 0 23) - (1 : Int32)).toNatClampNeg).toNatClampNeg) 120) (if (M 2 (M 3 (M 15 ((M 0 23) - (1 : Int32)).toNatClampNeg).toNatClampNeg).toNatClampNeg) = (4 : Int32) then f_K_go_217 (M 15 ((M 0 23) - (1 : Int32)).toNatClampNeg) (M 5 (M 15 ((M 0 23) - (1 : Int32)).toNatClampNeg).toNatClampNeg) (M 17 ((M 0 23) - (1 : Int32)).toNatClampNeg) (1 : Int32) M else f_K_go_217 (M 15 ((M 0 23) - (1 : Int32)).toNatClampNeg) (M 3 (M 15 ((M 0 23) - (1 : Int32)).toNatClampNeg).toNatClampNeg) (M 17 ((M 0 23) - (1 : Int32)).toNatClampNeg) (1 : Int32) M) else if (M 16 ((M 0 23) - (1 : Int32)).toNatClampNeg) = (2 : Int32) then om (f_K_endWith (1 : Int32) (M 17 ((M 0 23) - (1 : Int32)).toNatClampNeg) (-1 : Int32) (M 15 ((M 0 23) - (1 : Int32)).toNatClampNeg) M) fun M234 => some M234 else if (M 16 ((M 0 23) - (1 : Int32)).toNatClampNeg) = (3 : Int32) then if (M 3 (M 15 ((M 0 23) - (1 : Int32)).toNatClampNeg).toNatClampNeg) = (M 17 ((M 0 23) - (1 : Int32)).toNatClampNeg) then f_K_go_261 (M 5 (M 15 ((M 0 23) - (1 : Int32)).toNatClampNeg).toNatClampNeg) (M 17 ((M 0 23) - (1 : Int32)).toNatClampNeg) (M 15 ((M 0 23) - (1 : Int32)).toNatClampNeg) M else f_K_go_261 (M 3 (M 15 ((M 0 23) - (1 : Int32)).toNatClampNeg).toNatClampNeg) (M 17 ((M 0 23) - (1 : Int32)).toNatClampNeg) (M 15 ((M 0 23) - (1 : Int32)).toNatClampNeg) M else ob (f_K_isSimple (M 3 (M 15 ((M 0 23) - (1 : Int32)).toNatClampNeg).toNatClampNeg) M) fun r270 M270 => if r270 = 0 then ob (f_K_isSimple (M 5 (M 15 ((M 0 23) - (1 : Int32)).toNatClampNeg).toNatClampNeg) M270) fun r279 M279 => if r279 = 0 then om (f_K_because (1 : Int32) (M 17 ((M 0 23) - (1 : Int32)).toNatClampNeg) (-1 : Int32) (M 15 ((M 0 23) - (1 : Int32)).toNatClampNeg) M279) fun M298 => f_K_go_301 (M 15 ((M 0 23) - (1 : Int32)).toNatClampNeg) M298 else f_K_go_285 (M 15 ((M 0 23) - (1 : Int32)).toNatClampNeg) M279 else f_K_go_285 (M 15 ((M 0 23) - (1 : Int32)).toNatClampNeg) M270)))))
set_option maxRecDepth 100000 in
theorem g_K_go {M' : Mem} (C : GC p s m args meth c b_K_go 6 (none) "NoneWordsModel" TB D vwCl (tysW cI cZ cC) A Z) {M : Mem} (hf : f_K_go M = some M') : GW p l e rm_K_go s m args below meth c (MQ below (QW D vwCl (tysW cI cZ cC) A none (wk ad cI cZ cC M')) args s 0 0 A) D vwCl A 6 0 0 (wk ad cI cZ cC M) 0 [(0, .ref (ad 0))] [] := by
  unfold f_K_go at hf
  refine gw_aload_n C 0 d_K_go_0 rfl rfl ?_
  refine gw_get C in_K 0 wkg_0 clg_5 20 (by decide) tw_706 rfl rfl d_K_go_1 ?_
  refine gw_aload_n C 0 d_K_go_4 rfl rfl ?_
  refine gw_get C in_K 0 wkg_0 clg_5 23 (by decide) tw_709 rfl rfl d_K_go_5 ?_
  refine gw_iconst (v := (1 : Int32)) C d_K_go_8 (by decide) ?_
  refine gw_isub C d_K_go_9 ?_
  obtain ⟨hb10, hf⟩ := gd_some hf
  refine gw_iald C 15 0 wkg_15 rfl hb10 d_K_go_10 ?_
  refine gw_istore_n (lv' := [(1, .int (M 15 ((M 0 23) - (1 : Int32)).toNatClampNeg)), (0, .ref (ad 0))]) C d_K_go_11 rfl (by decide) rfl ?_
  refine gw_aload_n C 1 d_K_go_12 rfl rfl ?_
  refine gw_get C in_K 0 wkg_0 clg_5 21 (by decide) tw_707 rfl rfl d_K_go_13 ?_
  refine gw_aload_n C 1 d_K_go_16 rfl rfl ?_
  refine gw_get C in_K 0 wkg_0 clg_5 23 (by decide) tw_709 rfl rfl d_K_go_17 ?_
  refine gw_iconst (v := (1 : Int32)) C d_K_go_20 (by decide) ?_
  refine gw_isub C d_K_go_21 ?_
  obtain ⟨hb22, hf⟩ := gd_some hf
  refine gw_iald C 16 0 wkg_16 rfl hb22 d_K_go_22 ?_
  refine gw_istore_n (lv' := [(2, .int (M 16 ((M 0 23) - (1 : Int32)).toNatClampNeg)), (1, .int (M 15 ((M 0 23) - (1 : Int32)).toNatClampNeg)), (0, .ref (ad 0))]) C d_K_go_23 rfl (by decide) rfl ?_
  refine gw_aload_n C 2 d_K_go_24 rfl rfl ?_
  refine gw_get C in_K 0 wkg_0 clg_5 22 (by decide) tw_708 rfl rfl d_K_go_25 ?_
  refine gw_aload_n C 2 d_K_go_28 rfl rfl ?_
  refine gw_get C in_K 0 wkg_0 clg_5 23 (by decide) tw_709 rfl rfl d_K_go_29 ?_
  refine gw_iconst (v := (1 : Int32)) C d_K_go_32 (by decide) ?_
  refine gw_isub C d_K_go_33 ?_
  obtain ⟨hb34, hf⟩ := gd_some hf
  refine gw_iald C 17 0 wkg_17 rfl hb34 d_K_go_34 ?_
  refine gw_istore_n (lv' := [(3, .int (M 17 ((M 0 23) - (1 : Int32)).toNatClampNeg)), (2, .int (M 16 ((M 0 23) - (1 : Int32)).toNatClampNeg)), (1, .int (M 15 ((M 0 23) - (1 : Int32)).toNatClampNeg)), (0, .ref (ad 0))]) C d_K_go_35 rfl (by decide) rfl ?_
  refine gw_aload_n C 3 d_K_go_36 rfl rfl ?_
  refine gw_get C in_K 0 wkg_0 clg_5 5 (by decide) tw_691 rfl rfl d_K_go_37 ?_
  refine gw_iload_n C 2 d_K_go_40 rfl rfl ?_
  obtain ⟨hb41, hf⟩ := gd_some hf
  refine gw_iald C 3 0 wkg_3 rfl hb41 d_K_go_41 ?_
  refine gw_istore (lv' := [(4, .int (M 3 (M 15 ((M 0 23) - (1 : Int32)).toNatClampNeg).toNatClampNeg)), (3, .int (M 17 ((M 0 23) - (1 : Int32)).toNatClampNeg)), (2, .int (M 16 ((M 0 23) - (1 : Int32)).toNatClampNeg)), (1, .int (M 15 ((M 0 23) - (1 : Int32)).toNatClampNeg)), (0, .ref (ad 0))]) C d_K_go_42 (by decide) rfl ?_
  refine gw_aload_n C 4 d_K_go_44 rfl rfl ?_
  refine gw_get C in_K 0 wkg_0 clg_5 7 (by decide) tw_693 rfl rfl d_K_go_45 ?_
  refine gw_iload_n C 3 d_K_go_48 rfl rfl ?_
  obtain ⟨hb49, hf⟩ := gd_some hf
  refine gw_iald C 5 0 wkg_5 rfl hb49 d_K_go_49 ?_
  refine gw_istore (lv' := [(5, .int (M 5 (M 15 ((M 0 23) - (1 : Int32)).toNatClampNeg).toNatClampNeg)), (4, .int (M 3 (M 15 ((M 0 23) - (1 : Int32)).toNatClampNeg).toNatClampNeg)), (3, .int (M 17 ((M 0 23) - (1 : Int32)).toNatClampNeg)), (2, .int (M 16 ((M 0 23) - (1 : Int32)).toNatClampNeg)), (1, .int (M 15 ((M 0 23) - (1 : Int32)).toNatClampNeg)), (0, .ref (ad 0))]) C d_K_go_50 (by decide) rfl ?_
  refine gw_iload_n C 3 d_K_go_52 rfl rfl ?_
  refine gw_if_ne (tgt := 191) C d_K_go_53 (by decide) (fun c => ?_) (fun c => ?_)
  · have hf := (if_neg c).symm.trans hf
    refine gw_iload_n C 3 d_K_go_191 rfl rfl ?_
    refine gw_iconst (v := (1 : Int32)) C d_K_go_192 (by decide) ?_
    refine gw_icmp_ne (tgt := 224) C d_K_go_193 (by decide) (fun c => ?_) (fun c => ?_)
    · have hf := (if_neg c).symm.trans hf
      refine gw_iload_n C 3 d_K_go_224 rfl rfl ?_
      refine gw_iconst (v := (2 : Int32)) C d_K_go_225 (by decide) ?_
      refine gw_icmp_ne (tgt := 240) C d_K_go_226 (by decide) (fun c => ?_) (fun c => ?_)
      · have hf := (if_neg c).symm.trans hf
        refine gw_iload_n C 3 d_K_go_240 rfl rfl ?_
        refine gw_iconst (v := (3 : Int32)) C d_K_go_241 (by decide) ?_
        refine gw_icmp_ne (tgt := 267) C d_K_go_242 (by decide) (fun c => ?_) (fun c => ?_)
        · have hf := (if_neg c).symm.trans hf
          refine gw_aload_n C 5 d_K_go_267 rfl rfl ?_
          refine gw_iload C 1 d_K_go_268 rfl ?_
          obtain ⟨r270, M270, hc270, hf⟩ := ob_some hf
          refine gw_callVr (rest := []) C 0 wkg_0 clg_5 (c_K_isSimple C.2.2.2.2.2.2.2.2.2.2 hc270) (cwV 1 C.2.2.2.2.1 (gTB_V tw_936 mv_K_isSimple) rfl rfl rfl pd_K_isSimple ⟨Nat.le_of_ble_eq_true rfl, Nat.le_of_ble_eq_true rfl⟩) rfl rfl (Nat.le_of_ble_eq_true rfl) d_K_go_270 ⟨Nat.le_of_ble_eq_true rfl, Nat.le_of_ble_eq_true rfl⟩ ?_
          refine gw_if_ne (tgt := 285) C d_K_go_273 (by decide) (fun c => ?_) (fun c => ?_)
          · have hf := (if_neg c).symm.trans hf
            exact gw_sub [5, 4] rfl (g_K_go_285 C hf)
          · have hf := (if_pos c).symm.trans hf
            refine gw_aload_n C 5 d_K_go_276 rfl rfl ?_
            refine gw_iload C 0 d_K_go_277 rfl ?_
            obtain ⟨r279, M279, hc279, hf⟩ := ob_some hf
            refine gw_callVr (rest := []) C 0 wkg_0 clg_5 (c_K_isSimple C.2.2.2.2.2.2.2.2.2.2 hc279) (cwV 1 C.2.2.2.2.1 (gTB_V tw_936 mv_K_isSimple) rfl rfl rfl pd_K_isSimple ⟨Nat.le_of_ble_eq_true rfl, Nat.le_of_ble_eq_true rfl⟩) rfl rfl (Nat.le_of_ble_eq_true rfl) d_K_go_279 ⟨Nat.le_of_ble_eq_true rfl, Nat.le_of_ble_eq_true rfl⟩ ?_
            refine gw_if_eq (tgt := 293) C d_K_go_282 (by decide) (fun c => ?_) (fun c => ?_)
            · have hf := (if_pos c).symm.trans hf
              refine gw_aload_n C 5 d_K_go_293 rfl rfl ?_
              refine gw_iconst (v := (1 : Int32)) C d_K_go_294 (by decide) ?_
              refine gw_iload_n C 2 d_K_go_295 rfl rfl ?_
              refine gw_iconst (v := (-1 : Int32)) C d_K_go_296 (by decide) ?_
              refine gw_iload_n C 4 d_K_go_297 rfl rfl ?_
              obtain ⟨M298, hc298, hf⟩ := om_some hf
              refine gw_callVv (rest := []) C 0 wkg_0 clg_5 (c_K_because C.2.2.2.2.2.2.2.2.2.2 hc298) (cwV 4 C.2.2.2.2.1 (gTB_V tw_862 mv_K_because) rfl rfl rfl pd_K_because ⟨Nat.le_of_ble_eq_true rfl, Nat.le_of_ble_eq_true rfl⟩) rfl rfl (Nat.le_of_ble_eq_true rfl) d_K_go_298 ⟨Nat.le_of_ble_eq_true rfl, Nat.le_of_ble_eq_true rfl⟩ ?_
              exact gw_sub [5, 4] rfl (g_K_go_301 C hf)
            · have hf := (if_neg c).symm.trans hf
              exact gw_sub [5, 4] rfl (g_K_go_285 C hf)
        · have hf := (if_pos c).symm.trans hf
          refine gw_aload_n C 5 d_K_go_245 rfl rfl ?_
          refine gw_iload_n C 4 d_K_go_246 rfl rfl ?_
          refine gw_iload_n C 2 d_K_go_247 rfl rfl ?_
          refine gw_iload C 1 d_K_go_248 rfl ?_
          refine gw_iload_n C 2 d_K_go_250 rfl rfl ?_
          refine gw_icmp_ne (tgt := 259) C d_K_go_251 (by decide) (fun c => ?_) (fun c => ?_)
          · have hf := (if_neg c).symm.trans hf
            refine gw_iload C 1 d_K_go_259 rfl ?_
            exact gw_sub [] rfl (g_K_go_261 C hf)
          · have hf := (if_pos c).symm.trans hf
            refine gw_iload C 0 d_K_go_254 rfl ?_
            refine gw_goto (tgt := 261) C d_K_go_256 (by decide) ?_
            exact gw_sub [] rfl (g_K_go_261 C hf)
      · have hf := (if_pos c).symm.trans hf
        refine gw_aload_n C 5 d_K_go_229 rfl rfl ?_
        refine gw_iconst (v := (1 : Int32)) C d_K_go_230 (by decide) ?_
        refine gw_iload_n C 2 d_K_go_231 rfl rfl ?_
        refine gw_iconst (v := (-1 : Int32)) C d_K_go_232 (by decide) ?_
        refine gw_iload_n C 4 d_K_go_233 rfl rfl ?_
        obtain ⟨M234, hc234, hf⟩ := om_some hf
        refine gw_callVv (rest := []) C 0 wkg_0 clg_5 (c_K_endWith C.2.2.2.2.2.2.2.2.2.2 hc234) (cwV 4 C.2.2.2.2.1 (gTB_V tw_858 mv_K_endWith) rfl rfl rfl pd_K_endWith ⟨Nat.le_of_ble_eq_true rfl, Nat.le_of_ble_eq_true rfl⟩) rfl rfl (Nat.le_of_ble_eq_true rfl) d_K_go_234 ⟨Nat.le_of_ble_eq_true rfl, Nat.le_of_ble_eq_true rfl⟩ ?_
        refine gw_goto (tgt := 306) C d_K_go_237 (by decide) ?_
        exact gw_vreti C d_K_go_306 (wk ad cI cZ cC) hf
    · have hf := (if_pos c).symm.trans hf
      refine gw_aload_n C 5 d_K_go_196 rfl rfl ?_
      refine gw_iconst (v := (1 : Int32)) C d_K_go_197 (by decide) ?_
      refine gw_iload_n C 2 d_K_go_198 rfl rfl ?_
      refine gw_aload_n C 5 d_K_go_199 rfl rfl ?_
      refine gw_get C in_K 0 wkg_0 clg_5 4 (by decide) tw_690 rfl rfl d_K_go_200 ?_
      refine gw_iload C 1 d_K_go_203 rfl ?_
      obtain ⟨hb205, hf⟩ := gd_some hf
      refine gw_iald C 2 0 wkg_2 rfl hb205 d_K_go_205 ?_
      refine gw_iconst (v := (4 : Int32)) C d_K_go_206 (by decide) ?_
      refine gw_icmp_ne (tgt := 215) C d_K_go_207 (by decide) (fun c => ?_) (fun c => ?_)
      · have hf := (if_neg c).symm.trans hf
        refine gw_iload C 1 d_K_go_215 rfl ?_
        exact gw_sub [4] rfl (g_K_go_217 C hf)
      · have hf := (if_pos c).symm.trans hf
        refine gw_iload C 0 d_K_go_210 rfl ?_
        refine gw_goto (tgt := 217) C d_K_go_212 (by decide) ?_
        exact gw_sub [4] rfl (g_K_go_217 C hf)
  · have hf := (if_pos c).symm.trans hf
    refine gw_aload_n C 5 d_K_go_56 rfl rfl ?_
    refine gw_get C in_K 0 wkg_0 clg_5 14 (by decide) tw_700 rfl rfl d_K_go_57 ?_
    refine gw_iload_n C 4 d_K_go_60 rfl rfl ?_
    obtain ⟨hb61, hf⟩ := gd_some hf
    refine gw_iald C 12 0 wkg_12 rfl hb61 d_K_go_61 ?_
    refine gw_if_le (tgt := 78) C d_K_go_62 (by decide) (fun c => ?_) (fun c => ?_)
    · have hf := (if_pos c).symm.trans hf
      refine gw_aload_n C 5 d_K_go_78 rfl rfl ?_
      refine gw_get C in_K 0 wkg_0 clg_5 4 (by decide) tw_690 rfl rfl d_K_go_79 ?_
      refine gw_iload C 1 d_K_go_82 rfl ?_
      obtain ⟨hb84, hf⟩ := gd_some hf
      refine gw_iald C 2 0 wkg_2 rfl hb84 d_K_go_84 ?_
      refine gw_iconst (v := (4 : Int32)) C d_K_go_85 (by decide) ?_
      refine gw_icmp_ne (tgt := 112) C d_K_go_86 (by decide) (fun c => ?_) (fun c => ?_)
      · have hf := (if_neg c).symm.trans hf
        exact gw_sub [5, 4, 1, 0] rfl (g_K_go_112 C hf)
      · have hf := (if_pos c).symm.trans hf
        refine gw_aload_n C 5 d_K_go_89 rfl rfl ?_
        refine gw_get C in_K 0 wkg_0 clg_5 4 (by decide) tw_690 rfl rfl d_K_go_90 ?_
        refine gw_iload C 0 d_K_go_93 rfl ?_
        obtain ⟨hb95, hf⟩ := gd_some hf
        refine gw_iald C 2 0 wkg_2 rfl hb95 d_K_go_95 ?_
        refine gw_iconst (v := (4 : Int32)) C d_K_go_96 (by decide) ?_
        refine gw_icmp_ne (tgt := 112) C d_K_go_97 (by decide) (fun c => ?_) (fun c => ?_)
        · have hf := (if_neg c).symm.trans hf
          exact gw_sub [5, 4, 1, 0] rfl (g_K_go_112 C hf)
        · have hf := (if_pos c).symm.trans hf
          refine gw_aload_n C 5 d_K_go_100 rfl rfl ?_
          refine gw_iload_n C 4 d_K_go_101 rfl rfl ?_
          refine gw_iload C 1 d_K_go_102 rfl ?_
          refine gw_iload C 0 d_K_go_104 rfl ?_
          obtain ⟨M106, hc106, hf⟩ := om_some hf
          refine gw_callVv (rest := []) C 0 wkg_0 clg_5 (c_K_startTwo C.2.2.2.2.2.2.2.2.2.2 hc106) (cwV 3 C.2.2.2.2.1 (gTB_V tw_854 mv_K_startTwo) rfl rfl rfl pd_K_startTwo ⟨Nat.le_of_ble_eq_true rfl, Nat.le_of_ble_eq_true rfl⟩) rfl rfl (Nat.le_of_ble_eq_true rfl) d_K_go_106 ⟨Nat.le_of_ble_eq_true rfl, Nat.le_of_ble_eq_true rfl⟩ ?_
          refine gw_goto (tgt := 306) C d_K_go_109 (by decide) ?_
          exact gw_vreti C d_K_go_306 (wk ad cI cZ cC) hf
    · have hf := (if_neg c).symm.trans hf
      refine gw_aload_n C 5 d_K_go_65 rfl rfl ?_
      refine gw_dup C d_K_go_66 rfl ?_
      refine gw_get C in_K 0 wkg_0 clg_5 23 (by decide) tw_709 rfl rfl d_K_go_67 ?_
      refine gw_iconst (v := (1 : Int32)) C d_K_go_70 (by decide) ?_
      refine gw_isub C d_K_go_71 ?_
      refine gw_put C in_K ty_K tk_K nm_K 0 wkg_0 clg_5 23 (by decide) tw_709 rfl rfl rfl rfl (Nat.le_of_ble_eq_true rfl) d_K_go_72 wkf_0_23 ?_
      refine gw_goto (tgt := 306) C d_K_go_75 (by decide) ?_
      exact gw_vreti C d_K_go_306 (wk ad cI cZ cC) hf
theorem c_K_go (hZ : gw_ZOK Z) {M : Mem} {M' : Mem} (hf : f_K_go M = some M') : CW l y_K_go ws_K_go rm_K_go D vwCl (tysW cI cZ cC) Z [.ref (ad 0)] (wk ad cI cZ cC M) none (wk ad cI cZ cC M') 0 0 :=
  CW.ofG hZ (by decide) rfl (Nat.le_of_ble_eq_true rfl) (fun _ _ _ _ _ _ _ _ C _ => g_K_go C hf)
abbrev b_K_write : ByteArray := prog_7_method_36_code
def y_K_write : MethodName := ⟨"NoneWordsModel", "write", "(I)I"⟩
abbrev ws_K_write : List Cond := Cond.code y_K_write b_K_write 3 (some (FieldType.int)) :: TB
set_option maxRecDepth 100000 in
theorem tc_K_write : Cond.code y_K_write b_K_write 3 (some (FieldType.int)) ∈ TB := inTB 841 rfl rfl
theorem mv_K_write : Cond.instanceMethod y_K_write ∈ TB ∧ Cond.selects "NoneWordsModel" y_K_write y_K_write ∈ TB ∧ Cond.initialized "NoneWordsModel" ∈ TB ∧ Cond.code y_K_write b_K_write 3 (some (FieldType.int)) ∈ TB := ⟨inTB 839 (by decide +kernel) (by decide +kernel), inTB 840 (by decide +kernel) (by decide +kernel), inTB 71 (by decide +kernel) (by decide +kernel), tc_K_write⟩
theorem pd_K_write : y_K_write.cls = "NoneWordsModel" ∧ y_K_write.cls ≠ "java/lang/invoke/MethodHandle" ∧ y_K_write.cls ≠ "java/lang/invoke/VarHandle" ∧ (parseMethodDescriptor y_K_write.desc).map (fun d => d.parameters.length) = some 1 := by decide +kernel
theorem d_K_write_0 : decode b_K_write 0 = .ok (.aload_n 0, 1) := by decide +kernel
theorem d_K_write_1 : decode b_K_write 1 = .ok (.iconst 0, 1) := by decide +kernel
theorem d_K_write_2 : decode b_K_write 2 = .ok (.putfield 72, 3) := by decide +kernel
theorem d_K_write_5 : decode b_K_write 5 = .ok (.aload_n 0, 1) := by decide +kernel
theorem d_K_write_6 : decode b_K_write 6 = .ok (.iload_n 1, 1) := by decide +kernel
theorem d_K_write_7 : decode b_K_write 7 = .ok (.invokevirtual 112, 3) := by decide +kernel
theorem d_K_write_10 : decode b_K_write 10 = .ok (.ifCond .ne 5, 3) := by decide +kernel
theorem d_K_write_13 : decode b_K_write 13 = .ok (.iconst (-1), 1) := by decide +kernel
theorem d_K_write_14 : decode b_K_write 14 = .ok (.ireturn, 1) := by decide +kernel
theorem d_K_write_15 : decode b_K_write 15 = .ok (.aload_n 0, 1) := by decide +kernel
theorem d_K_write_16 : decode b_K_write 16 = .ok (.iconst 0, 1) := by decide +kernel
theorem d_K_write_17 : decode b_K_write 17 = .ok (.putfield 126, 3) := by decide +kernel
theorem d_K_write_20 : decode b_K_write 20 = .ok (.aload_n 0, 1) := by decide +kernel
theorem d_K_write_21 : decode b_K_write 21 = .ok (.iconst 0, 1) := by decide +kernel
theorem d_K_write_22 : decode b_K_write 22 = .ok (.putfield 191, 3) := by decide +kernel
theorem d_K_write_25 : decode b_K_write 25 = .ok (.aload_n 0, 1) := by decide +kernel
theorem d_K_write_26 : decode b_K_write 26 = .ok (.iconst 0, 1) := by decide +kernel
theorem d_K_write_27 : decode b_K_write 27 = .ok (.putfield 206, 3) := by decide +kernel
theorem d_K_write_30 : decode b_K_write 30 = .ok (.aload_n 0, 1) := by decide +kernel
theorem d_K_write_31 : decode b_K_write 31 = .ok (.iconst 0, 1) := by decide +kernel
theorem d_K_write_32 : decode b_K_write 32 = .ok (.putfield 209, 3) := by decide +kernel
theorem d_K_write_35 : decode b_K_write 35 = .ok (.iconst 0, 1) := by decide +kernel
theorem d_K_write_36 : decode b_K_write 36 = .ok (.istore_n 2, 1) := by decide +kernel
theorem d_K_write_37 : decode b_K_write 37 = .ok (.iload_n 2, 1) := by decide +kernel
theorem d_K_write_38 : decode b_K_write 38 = .ok (.bipush 120, 2) := by decide +kernel
theorem d_K_write_40 : decode b_K_write 40 = .ok (.if_icmp .ge 16, 3) := by decide +kernel
theorem d_K_write_43 : decode b_K_write 43 = .ok (.aload_n 0, 1) := by decide +kernel
theorem d_K_write_44 : decode b_K_write 44 = .ok (.getfield 45, 3) := by decide +kernel
theorem d_K_write_47 : decode b_K_write 47 = .ok (.iload_n 2, 1) := by decide +kernel
theorem d_K_write_48 : decode b_K_write 48 = .ok (.iconst 0, 1) := by decide +kernel
theorem d_K_write_49 : decode b_K_write 49 = .ok (.iastore, 1) := by decide +kernel
theorem d_K_write_50 : decode b_K_write 50 = .ok (.iinc 2 1, 3) := by decide +kernel
theorem d_K_write_53 : decode b_K_write 53 = .ok (.goto (-16), 3) := by decide +kernel
theorem d_K_write_56 : decode b_K_write 56 = .ok (.aload_n 0, 1) := by decide +kernel
theorem d_K_write_57 : decode b_K_write 57 = .ok (.iload_n 1, 1) := by decide +kernel
theorem d_K_write_58 : decode b_K_write 58 = .ok (.invokevirtual 218, 3) := by decide +kernel
theorem d_K_write_61 : decode b_K_write 61 = .ok (.aload_n 0, 1) := by decide +kernel
theorem d_K_write_62 : decode b_K_write 62 = .ok (.getfield 13, 3) := by decide +kernel
theorem d_K_write_65 : decode b_K_write 65 = .ok (.iload_n 1, 1) := by decide +kernel
theorem d_K_write_66 : decode b_K_write 66 = .ok (.iaload, 1) := by decide +kernel
theorem d_K_write_67 : decode b_K_write 67 = .ok (.iconst 4, 1) := by decide +kernel
theorem d_K_write_68 : decode b_K_write 68 = .ok (.if_icmp .ne 22, 3) := by decide +kernel
theorem d_K_write_71 : decode b_K_write 71 = .ok (.aload_n 0, 1) := by decide +kernel
theorem d_K_write_72 : decode b_K_write 72 = .ok (.iload_n 1, 1) := by decide +kernel
theorem d_K_write_73 : decode b_K_write 73 = .ok (.invokevirtual 212, 3) := by decide +kernel
theorem d_K_write_76 : decode b_K_write 76 = .ok (.aload_n 0, 1) := by decide +kernel
theorem d_K_write_77 : decode b_K_write 77 = .ok (.getfield 209, 3) := by decide +kernel
theorem d_K_write_80 : decode b_K_write 80 = .ok (.ifCond .le 25, 3) := by decide +kernel
theorem d_K_write_83 : decode b_K_write 83 = .ok (.aload_n 0, 1) := by decide +kernel
theorem d_K_write_84 : decode b_K_write 84 = .ok (.invokevirtual 221, 3) := by decide +kernel
theorem d_K_write_87 : decode b_K_write 87 = .ok (.goto (-11), 3) := by decide +kernel
theorem d_K_write_90 : decode b_K_write 90 = .ok (.aload_n 0, 1) := by decide +kernel
theorem d_K_write_91 : decode b_K_write 91 = .ok (.invokevirtual 194, 3) := by decide +kernel
theorem d_K_write_94 : decode b_K_write 94 = .ok (.aload_n 0, 1) := by decide +kernel
theorem d_K_write_95 : decode b_K_write 95 = .ok (.iload_n 1, 1) := by decide +kernel
theorem d_K_write_96 : decode b_K_write 96 = .ok (.invokevirtual 203, 3) := by decide +kernel
theorem d_K_write_99 : decode b_K_write 99 = .ok (.aload_n 0, 1) := by decide +kernel
theorem d_K_write_100 : decode b_K_write 100 = .ok (.bipush 46, 2) := by decide +kernel
theorem d_K_write_102 : decode b_K_write 102 = .ok (.invokevirtual 131, 3) := by decide +kernel
theorem d_K_write_105 : decode b_K_write 105 = .ok (.aload_n 0, 1) := by decide +kernel
theorem d_K_write_106 : decode b_K_write 106 = .ok (.getfield 39, 3) := by decide +kernel
theorem d_K_write_109 : decode b_K_write 109 = .ok (.aload_n 0, 1) := by decide +kernel
theorem d_K_write_110 : decode b_K_write 110 = .ok (.getfield 191, 3) := by decide +kernel
theorem d_K_write_113 : decode b_K_write 113 = .ok (.aload_n 0, 1) := by decide +kernel
theorem d_K_write_114 : decode b_K_write 114 = .ok (.getfield 126, 3) := by decide +kernel
theorem d_K_write_117 : decode b_K_write 117 = .ok (.iastore, 1) := by decide +kernel
theorem d_K_write_118 : decode b_K_write 118 = .ok (.aload_n 0, 1) := by decide +kernel
theorem d_K_write_119 : decode b_K_write 119 = .ok (.getfield 191, 3) := by decide +kernel
theorem d_K_write_122 : decode b_K_write 122 = .ok (.ireturn, 1) := by decide +kernel
abbrev rm_K_write : Room := { frames := 11, cells := 0, slots := 0, locals := 258 }
def f_K_write_105 (M : Mem) : Option (Int32 × Mem) :=
  gd (inb (M 0 17) 400) (some ((ms M 10 (M 0 17).toNatClampNeg (M 0 16)) 0 17, ms M 10 (M 0 17).toNatClampNeg (M 0 16)))
set_option maxRecDepth 100000 in
theorem g_K_write_105 {r : Int32} {M' : Mem} (C : GC p s m args meth c b_K_write 3 (some (FieldType.int)) "NoneWordsModel" TB D vwCl (tysW cI cZ cC) A Z) {M : Mem} (hf : f_K_write_105 M = some (r, M')) : GW p l e rm_K_write s m args below meth c (MQ below (QW D vwCl (tysW cI cZ cC) A (some (.int r)) (wk ad cI cZ cC M')) args s 0 0 A) D vwCl A 3 0 0 (wk ad cI cZ cC M) 105 [(0, .ref (ad 0))] [] := by
  unfold f_K_write_105 at hf
  refine gw_aload_n C 0 d_K_write_105 rfl rfl ?_
  refine gw_get C in_K 0 wkg_0 clg_5 12 (by decide) tw_698 rfl rfl d_K_write_106 ?_
  refine gw_aload_n C 0 d_K_write_109 rfl rfl ?_
  refine gw_get C in_K 0 wkg_0 clg_5 17 (by decide) tw_703 rfl rfl d_K_write_110 ?_
  refine gw_aload_n C 0 d_K_write_113 rfl rfl ?_
  refine gw_get C in_K 0 wkg_0 clg_5 16 (by decide) tw_702 rfl rfl d_K_write_114 ?_
  obtain ⟨hb117, hf⟩ := gd_some hf
  refine gw_iast C 10 0 wkg_10 rfl hb117 d_K_write_117 wka_10 ?_
  refine gw_aload_n C 0 d_K_write_118 rfl rfl ?_
  refine gw_get C in_K 0 wkg_0 clg_5 17 (by decide) tw_703 rfl rfl d_K_write_119 ?_
  exact gw_ireti C d_K_write_122 (wk ad cI cZ cC) hf
def f_K_write_76 : Nat → Mem → Option (Int32 × Mem)
  | 0, _ => none
  | n + 1, M => if (M 0 23) ≤ 0 then f_K_write_105 M else om (f_K_go M) fun M84 => (f_K_write_76 n) M84
set_option maxRecDepth 100000 in
theorem g_K_write_76 {r : Int32} {M' : Mem} (C : GC p s m args meth c b_K_write 3 (some (FieldType.int)) "NoneWordsModel" TB D vwCl (tysW cI cZ cC) A Z) : ∀ (n : Nat) (M : Mem), f_K_write_76 n M = some (r, M') → GW p l e rm_K_write s m args below meth c (MQ below (QW D vwCl (tysW cI cZ cC) A (some (.int r)) (wk ad cI cZ cC M')) args s 0 0 A) D vwCl A 3 0 0 (wk ad cI cZ cC M) 76 [(0, .ref (ad 0))] [] := by
  intro n
  induction n with
  | zero => intro _ hf; cases hf
  | succ n ih =>
    intro M hf
    rw [f_K_write_76] at hf
    refine gw_aload_n C 0 d_K_write_76 rfl rfl ?_
    refine gw_get C in_K 0 wkg_0 clg_5 23 (by decide) tw_709 rfl rfl d_K_write_77 ?_
    refine gw_if_le (tgt := 105) C d_K_write_80 (by decide) (fun c => ?_) (fun c => ?_)
    · have hf := (if_pos c).symm.trans hf
      exact gw_sub [0] rfl (g_K_write_105 C hf)
    · have hf := (if_neg c).symm.trans hf
      refine gw_aload_n C 0 d_K_write_83 rfl rfl ?_
      obtain ⟨M84, hc84, hf⟩ := om_some hf
      refine gw_callVv (rest := []) C 0 wkg_0 clg_5 (c_K_go C.2.2.2.2.2.2.2.2.2.2 hc84) (cwV 0 C.2.2.2.2.1 (gTB_V tw_850 mv_K_go) rfl rfl rfl pd_K_go ⟨Nat.le_of_ble_eq_true rfl, Nat.le_of_ble_eq_true rfl⟩) rfl rfl (Nat.le_of_ble_eq_true rfl) d_K_write_84 ⟨Nat.le_of_ble_eq_true rfl, Nat.le_of_ble_eq_true rfl⟩ ?_
      refine gw_goto (tgt := 76) C d_K_write_87 (by decide) ?_
      exact gw_sub [0] rfl (ih _ hf)
def f_K_write_37 : Nat → Int32 → Int32 → Mem → Option (Int32 × Mem)
  | 0, _, _, _ => none
  | n + 1, x1, x2, M => if (120 : Int32) ≤ x2 then om (f_K_countUses x1 M) fun M58 => gd (inb x1 120) (if (M58 2 x1.toNatClampNeg) = (4 : Int32) then om (f_K_push x1 M58) fun M73 => f_K_write_76 100000 M73 else om (f_K_begin M58) fun M91 => om (f_K_told x1 M91) fun M96 => om (f_K_put (46 : Int32) M96) fun M102 => f_K_write_105 M102) else gd (inb x2 120) ((f_K_write_37 n) x1 (x2 + (1 : Int32)) (ms M 12 x2.toNatClampNeg (0 : Int32)))
set_option maxRecDepth 100000 in
theorem g_K_write_37 {r : Int32} {M' : Mem} (C : GC p s m args meth c b_K_write 3 (some (FieldType.int)) "NoneWordsModel" TB D vwCl (tysW cI cZ cC) A Z) : ∀ (n : Nat) (x1 : Int32) (x2 : Int32) (M : Mem), f_K_write_37 n x1 x2 M = some (r, M') → GW p l e rm_K_write s m args below meth c (MQ below (QW D vwCl (tysW cI cZ cC) A (some (.int r)) (wk ad cI cZ cC M')) args s 0 0 A) D vwCl A 3 0 0 (wk ad cI cZ cC M) 37 [(0, .ref (ad 0)), (1, .int x1), (2, .int x2)] [] := by
  intro n
  induction n with
  | zero => intro _ _ _ hf; cases hf
  | succ n ih =>
    intro x1 x2 M hf
    rw [f_K_write_37] at hf
    refine gw_iload_n C 2 d_K_write_37 rfl rfl ?_
    refine gw_bipush (v := (120 : Int32)) C d_K_write_38 (by decide) ?_
    refine gw_icmp_ge (tgt := 56) C d_K_write_40 (by decide) (fun c => ?_) (fun c => ?_)
    · have hf := (if_pos c).symm.trans hf
      refine gw_aload_n C 0 d_K_write_56 rfl rfl ?_
      refine gw_iload_n C 1 d_K_write_57 rfl rfl ?_
      obtain ⟨M58, hc58, hf⟩ := om_some hf
      refine gw_callVv (rest := []) C 0 wkg_0 clg_5 (c_K_countUses C.2.2.2.2.2.2.2.2.2.2 hc58) (cwV 1 C.2.2.2.2.1 (gTB_V tw_842 mv_K_countUses) rfl rfl rfl pd_K_countUses ⟨Nat.le_of_ble_eq_true rfl, Nat.le_of_ble_eq_true rfl⟩) rfl rfl (Nat.le_of_ble_eq_true rfl) d_K_write_58 ⟨Nat.le_of_ble_eq_true rfl, Nat.le_of_ble_eq_true rfl⟩ ?_
      refine gw_aload_n C 0 d_K_write_61 rfl rfl ?_
      refine gw_get C in_K 0 wkg_0 clg_5 4 (by decide) tw_690 rfl rfl d_K_write_62 ?_
      refine gw_iload_n C 1 d_K_write_65 rfl rfl ?_
      obtain ⟨hb66, hf⟩ := gd_some hf
      refine gw_iald C 2 0 wkg_2 rfl hb66 d_K_write_66 ?_
      refine gw_iconst (v := (4 : Int32)) C d_K_write_67 (by decide) ?_
      refine gw_icmp_ne (tgt := 90) C d_K_write_68 (by decide) (fun c => ?_) (fun c => ?_)
      · have hf := (if_neg c).symm.trans hf
        refine gw_aload_n C 0 d_K_write_90 rfl rfl ?_
        obtain ⟨M91, hc91, hf⟩ := om_some hf
        refine gw_callVv (rest := []) C 0 wkg_0 clg_5 (c_K_begin C.2.2.2.2.2.2.2.2.2.2 hc91) (cwV 0 C.2.2.2.2.1 (gTB_V tw_866 mv_K_begin) rfl rfl rfl pd_K_begin ⟨Nat.le_of_ble_eq_true rfl, Nat.le_of_ble_eq_true rfl⟩) rfl rfl (Nat.le_of_ble_eq_true rfl) d_K_write_91 ⟨Nat.le_of_ble_eq_true rfl, Nat.le_of_ble_eq_true rfl⟩ ?_
        refine gw_aload_n C 0 d_K_write_94 rfl rfl ?_
        refine gw_iload_n C 1 d_K_write_95 rfl rfl ?_
        obtain ⟨M96, hc96, hf⟩ := om_some hf
        refine gw_callVv (rest := []) C 0 wkg_0 clg_5 (c_K_told C.2.2.2.2.2.2.2.2.2.2 hc96) (cwV 1 C.2.2.2.2.1 (gTB_V tw_882 mv_K_told) rfl rfl rfl pd_K_told ⟨Nat.le_of_ble_eq_true rfl, Nat.le_of_ble_eq_true rfl⟩) rfl rfl (Nat.le_of_ble_eq_true rfl) d_K_write_96 ⟨Nat.le_of_ble_eq_true rfl, Nat.le_of_ble_eq_true rfl⟩ ?_
        refine gw_aload_n C 0 d_K_write_99 rfl rfl ?_
        refine gw_bipush (v := (46 : Int32)) C d_K_write_100 (by decide) ?_
        obtain ⟨M102, hc102, hf⟩ := om_some hf
        refine gw_callVv (rest := []) C 0 wkg_0 clg_5 (c_K_put C.2.2.2.2.2.2.2.2.2.2 hc102) (cwV 1 C.2.2.2.2.1 (gTB_V tw_876 mv_K_put) rfl rfl rfl pd_K_put ⟨Nat.le_of_ble_eq_true rfl, Nat.le_of_ble_eq_true rfl⟩) rfl rfl (Nat.le_of_ble_eq_true rfl) d_K_write_102 ⟨Nat.le_of_ble_eq_true rfl, Nat.le_of_ble_eq_true rfl⟩ ?_
        exact gw_sub [0] rfl (g_K_write_105 C hf)
      · have hf := (if_pos c).symm.trans hf
        refine gw_aload_n C 0 d_K_write_71 rfl rfl ?_
        refine gw_iload_n C 1 d_K_write_72 rfl rfl ?_
        obtain ⟨M73, hc73, hf⟩ := om_some hf
        refine gw_callVv (rest := []) C 0 wkg_0 clg_5 (c_K_push C.2.2.2.2.2.2.2.2.2.2 hc73) (cwV 1 C.2.2.2.2.1 (gTB_V tw_846 mv_K_push) rfl rfl rfl pd_K_push ⟨Nat.le_of_ble_eq_true rfl, Nat.le_of_ble_eq_true rfl⟩) rfl rfl (Nat.le_of_ble_eq_true rfl) d_K_write_73 ⟨Nat.le_of_ble_eq_true rfl, Nat.le_of_ble_eq_true rfl⟩ ?_
        exact gw_sub [0] rfl (g_K_write_76 C _ _ hf)
    · have hf := (if_neg c).symm.trans hf
      refine gw_aload_n C 0 d_K_write_43 rfl rfl ?_
      refine gw_get C in_K 0 wkg_0 clg_5 14 (by decide) tw_700 rfl rfl d_K_write_44 ?_
      refine gw_iload_n C 2 d_K_write_47 rfl rfl ?_
      refine gw_iconst (v := (0 : Int32)) C d_K_write_48 (by decide) ?_
      obtain ⟨hb49, hf⟩ := gd_some hf
      refine gw_iast C 12 0 wkg_12 rfl hb49 d_K_write_49 wka_12 ?_
      refine gw_iinc (v := x2 + (1 : Int32)) (lv' := [(2, .int (x2 + (1 : Int32))), (0, .ref (ad 0)), (1, .int x1)]) C 2 d_K_write_50 rfl rfl (by decide) rfl ?_
      refine gw_goto (tgt := 37) C d_K_write_53 (by decide) ?_
      exact gw_sub [1, 2, 0] rfl (ih _ _ _ hf)
def f_K_write (x1 : Int32) (M : Mem) : Option (Int32 × Mem) :=
  ob (f_K_isNode x1 (ms M 0 0 (0 : Int32))) fun r7 M7 => if r7 = 0 then some ((-1 : Int32), M7) else f_K_write_37 100000 x1 (0 : Int32) (ms (ms (ms (ms M7 0 16 (0 : Int32)) 0 17 (0 : Int32)) 0 18 (0 : Int32)) 0 23 (0 : Int32))
set_option maxRecDepth 100000 in
theorem g_K_write {r : Int32} {M' : Mem} (C : GC p s m args meth c b_K_write 3 (some (FieldType.int)) "NoneWordsModel" TB D vwCl (tysW cI cZ cC) A Z) {x1 : Int32} {M : Mem} (hf : f_K_write x1 M = some (r, M')) : GW p l e rm_K_write s m args below meth c (MQ below (QW D vwCl (tysW cI cZ cC) A (some (.int r)) (wk ad cI cZ cC M')) args s 0 0 A) D vwCl A 3 0 0 (wk ad cI cZ cC M) 0 [(0, .ref (ad 0)), (1, .int x1)] [] := by
  unfold f_K_write at hf
  refine gw_aload_n C 0 d_K_write_0 rfl rfl ?_
  refine gw_iconst (v := (0 : Int32)) C d_K_write_1 (by decide) ?_
  refine gw_put C in_K ty_K tk_K nm_K 0 wkg_0 clg_5 0 (by decide) tw_686 rfl rfl rfl rfl (Nat.le_of_ble_eq_true rfl) d_K_write_2 wkf_0_0 ?_
  refine gw_aload_n C 0 d_K_write_5 rfl rfl ?_
  refine gw_iload_n C 1 d_K_write_6 rfl rfl ?_
  obtain ⟨r7, M7, hc7, hf⟩ := ob_some hf
  refine gw_callVr (rest := []) C 0 wkg_0 clg_5 (c_K_isNode C.2.2.2.2.2.2.2.2.2.2 hc7) (cwV 1 C.2.2.2.2.1 (gTB_V tw_814 mv_K_isNode) rfl rfl rfl pd_K_isNode ⟨Nat.le_of_ble_eq_true rfl, Nat.le_of_ble_eq_true rfl⟩) rfl rfl (Nat.le_of_ble_eq_true rfl) d_K_write_7 ⟨Nat.le_of_ble_eq_true rfl, Nat.le_of_ble_eq_true rfl⟩ ?_
  refine gw_if_ne (tgt := 15) C d_K_write_10 (by decide) (fun c => ?_) (fun c => ?_)
  · have hf := (if_neg c).symm.trans hf
    refine gw_aload_n C 0 d_K_write_15 rfl rfl ?_
    refine gw_iconst (v := (0 : Int32)) C d_K_write_16 (by decide) ?_
    refine gw_put C in_K ty_K tk_K nm_K 0 wkg_0 clg_5 16 (by decide) tw_702 rfl rfl rfl rfl (Nat.le_of_ble_eq_true rfl) d_K_write_17 wkf_0_16 ?_
    refine gw_aload_n C 0 d_K_write_20 rfl rfl ?_
    refine gw_iconst (v := (0 : Int32)) C d_K_write_21 (by decide) ?_
    refine gw_put C in_K ty_K tk_K nm_K 0 wkg_0 clg_5 17 (by decide) tw_703 rfl rfl rfl rfl (Nat.le_of_ble_eq_true rfl) d_K_write_22 wkf_0_17 ?_
    refine gw_aload_n C 0 d_K_write_25 rfl rfl ?_
    refine gw_iconst (v := (0 : Int32)) C d_K_write_26 (by decide) ?_
    refine gw_put C in_K ty_K tk_K nm_K 0 wkg_0 clg_5 18 (by decide) tw_704 rfl rfl rfl rfl (Nat.le_of_ble_eq_true rfl) d_K_write_27 wkf_0_18 ?_
    refine gw_aload_n C 0 d_K_write_30 rfl rfl ?_
    refine gw_iconst (v := (0 : Int32)) C d_K_write_31 (by decide) ?_
    refine gw_put C in_K ty_K tk_K nm_K 0 wkg_0 clg_5 23 (by decide) tw_709 rfl rfl rfl rfl (Nat.le_of_ble_eq_true rfl) d_K_write_32 wkf_0_23 ?_
    refine gw_iconst (v := (0 : Int32)) C d_K_write_35 (by decide) ?_
    refine gw_istore_n (lv' := [(2, .int (0 : Int32)), (0, .ref (ad 0)), (1, .int x1)]) C d_K_write_36 rfl (by decide) rfl ?_
    exact gw_sub [1, 2, 0] rfl (g_K_write_37 C _ _ _ _ hf)
  · have hf := (if_pos c).symm.trans hf
    refine gw_iconst (v := (-1 : Int32)) C d_K_write_13 (by decide) ?_
    exact gw_ireti C d_K_write_14 (wk ad cI cZ cC) hf
theorem c_K_write (hZ : gw_ZOK Z) {x1 : Int32} {M : Mem} {r : Int32} {M' : Mem} (hf : f_K_write x1 M = some (r, M')) : CW l y_K_write ws_K_write rm_K_write D vwCl (tysW cI cZ cC) Z [.ref (ad 0), .int x1] (wk ad cI cZ cC M) (some (.int r)) (wk ad cI cZ cC M') 0 0 :=
  CW.ofG hZ (by decide) rfl (Nat.le_of_ble_eq_true rfl) (fun _ _ _ _ _ _ _ _ C _ => g_K_write C hf)
abbrev b_K_isSentence : ByteArray := prog_7_method_43_code
def y_K_isSentence : MethodName := ⟨"NoneWordsModel", "isSentence", "(I)Z"⟩
abbrev ws_K_isSentence : List Cond := Cond.code y_K_isSentence b_K_isSentence 2 (some (FieldType.boolean)) :: TB
set_option maxRecDepth 100000 in
theorem tc_K_isSentence : Cond.code y_K_isSentence b_K_isSentence 2 (some (FieldType.boolean)) ∈ TB := inTB 960 rfl rfl
theorem mv_K_isSentence : Cond.instanceMethod y_K_isSentence ∈ TB ∧ Cond.selects "NoneWordsModel" y_K_isSentence y_K_isSentence ∈ TB ∧ Cond.initialized "NoneWordsModel" ∈ TB ∧ Cond.code y_K_isSentence b_K_isSentence 2 (some (FieldType.boolean)) ∈ TB := ⟨inTB 959 (by decide +kernel) (by decide +kernel), inTB 59 (by decide +kernel) (by decide +kernel), inTB 71 (by decide +kernel) (by decide +kernel), tc_K_isSentence⟩
theorem pd_K_isSentence : y_K_isSentence.cls = "NoneWordsModel" ∧ y_K_isSentence.cls ≠ "java/lang/invoke/MethodHandle" ∧ y_K_isSentence.cls ≠ "java/lang/invoke/VarHandle" ∧ (parseMethodDescriptor y_K_isSentence.desc).map (fun d => d.parameters.length) = some 1 := by decide +kernel
theorem d_K_isSentence_0 : decode b_K_isSentence 0 = .ok (.iload_n 1, 1) := by decide +kernel
theorem d_K_isSentence_1 : decode b_K_isSentence 1 = .ok (.ifCond .lt 15, 3) := by decide +kernel
theorem d_K_isSentence_4 : decode b_K_isSentence 4 = .ok (.iload_n 1, 1) := by decide +kernel
theorem d_K_isSentence_5 : decode b_K_isSentence 5 = .ok (.aload_n 0, 1) := by decide +kernel
theorem d_K_isSentence_6 : decode b_K_isSentence 6 = .ok (.getfield 191, 3) := by decide +kernel
theorem d_K_isSentence_9 : decode b_K_isSentence 9 = .ok (.if_icmp .ge 7, 3) := by decide +kernel
theorem d_K_isSentence_12 : decode b_K_isSentence 12 = .ok (.iconst 1, 1) := by decide +kernel
theorem d_K_isSentence_13 : decode b_K_isSentence 13 = .ok (.goto 4, 3) := by decide +kernel
theorem d_K_isSentence_16 : decode b_K_isSentence 16 = .ok (.iconst 0, 1) := by decide +kernel
theorem d_K_isSentence_17 : decode b_K_isSentence 17 = .ok (.ireturn, 1) := by decide +kernel
abbrev rm_K_isSentence : Room := { frames := 0, cells := 0, slots := 0, locals := 0 }
def f_K_isSentence (x1 : Int32) (M : Mem) : Option (Int32 × Mem) :=
  if x1 < 0 then some ((0 : Int32), M) else if (M 0 17) ≤ x1 then some ((0 : Int32), M) else some ((1 : Int32), M)
set_option maxRecDepth 100000 in
theorem g_K_isSentence {r : Int32} {M' : Mem} (C : GC p s m args meth c b_K_isSentence 2 (some (FieldType.boolean)) "NoneWordsModel" TB D vwCl (tysW cI cZ cC) A Z) {x1 : Int32} {M : Mem} (hf : f_K_isSentence x1 M = some (r, M')) : GW p l e rm_K_isSentence s m args below meth c (MQ below (QW D vwCl (tysW cI cZ cC) A (some (.int r)) (wk ad cI cZ cC M')) args s 0 0 A) D vwCl A 2 0 0 (wk ad cI cZ cC M) 0 [(0, .ref (ad 0)), (1, .int x1)] [] := by
  unfold f_K_isSentence at hf
  refine gw_iload_n C 1 d_K_isSentence_0 rfl rfl ?_
  refine gw_if_lt (tgt := 16) C d_K_isSentence_1 (by decide) (fun c => ?_) (fun c => ?_)
  · have hf := (if_pos c).symm.trans hf
    refine gw_iconst (v := (0 : Int32)) C d_K_isSentence_16 (by decide) ?_
    exact gw_zreti C d_K_isSentence_17 (wk ad cI cZ cC) (by decide) hf
  · have hf := (if_neg c).symm.trans hf
    refine gw_iload_n C 1 d_K_isSentence_4 rfl rfl ?_
    refine gw_aload_n C 0 d_K_isSentence_5 rfl rfl ?_
    refine gw_get C in_K 0 wkg_0 clg_5 17 (by decide) tw_703 rfl rfl d_K_isSentence_6 ?_
    refine gw_icmp_ge (tgt := 16) C d_K_isSentence_9 (by decide) (fun c => ?_) (fun c => ?_)
    · have hf := (if_pos c).symm.trans hf
      refine gw_iconst (v := (0 : Int32)) C d_K_isSentence_16 (by decide) ?_
      exact gw_zreti C d_K_isSentence_17 (wk ad cI cZ cC) (by decide) hf
    · have hf := (if_neg c).symm.trans hf
      refine gw_iconst (v := (1 : Int32)) C d_K_isSentence_12 (by decide) ?_
      refine gw_goto (tgt := 17) C d_K_isSentence_13 (by decide) ?_
      exact gw_zreti C d_K_isSentence_17 (wk ad cI cZ cC) (by decide) hf
theorem c_K_isSentence (hZ : gw_ZOK Z) {x1 : Int32} {M : Mem} {r : Int32} {M' : Mem} (hf : f_K_isSentence x1 M = some (r, M')) : CW l y_K_isSentence ws_K_isSentence rm_K_isSentence D vwCl (tysW cI cZ cC) Z [.ref (ad 0), .int x1] (wk ad cI cZ cC M) (some (.int r)) (wk ad cI cZ cC M') 0 0 :=
  CW.ofG hZ (by decide) rfl (Nat.le_of_ble_eq_true rfl) (fun _ _ _ _ _ _ _ _ C _ => g_K_isSentence C hf)
abbrev b_K_sentence : ByteArray := prog_7_method_44_code
def y_K_sentence : MethodName := ⟨"NoneWordsModel", "sentence", "(I)I"⟩
abbrev ws_K_sentence : List Cond := Cond.code y_K_sentence b_K_sentence 2 (some (FieldType.int)) :: TB
set_option maxRecDepth 100000 in
theorem tc_K_sentence : Cond.code y_K_sentence b_K_sentence 2 (some (FieldType.int)) ∈ TB := inTB 956 rfl rfl
theorem mv_K_sentence : Cond.instanceMethod y_K_sentence ∈ TB ∧ Cond.selects "NoneWordsModel" y_K_sentence y_K_sentence ∈ TB ∧ Cond.initialized "NoneWordsModel" ∈ TB ∧ Cond.code y_K_sentence b_K_sentence 2 (some (FieldType.int)) ∈ TB := ⟨inTB 954 (by decide +kernel) (by decide +kernel), inTB 955 (by decide +kernel) (by decide +kernel), inTB 71 (by decide +kernel) (by decide +kernel), tc_K_sentence⟩
theorem pd_K_sentence : y_K_sentence.cls = "NoneWordsModel" ∧ y_K_sentence.cls ≠ "java/lang/invoke/MethodHandle" ∧ y_K_sentence.cls ≠ "java/lang/invoke/VarHandle" ∧ (parseMethodDescriptor y_K_sentence.desc).map (fun d => d.parameters.length) = some 1 := by decide +kernel
theorem d_K_sentence_0 : decode b_K_sentence 0 = .ok (.aload_n 0, 1) := by decide +kernel
theorem d_K_sentence_1 : decode b_K_sentence 1 = .ok (.iconst 0, 1) := by decide +kernel
theorem d_K_sentence_2 : decode b_K_sentence 2 = .ok (.putfield 72, 3) := by decide +kernel
theorem d_K_sentence_5 : decode b_K_sentence 5 = .ok (.aload_n 0, 1) := by decide +kernel
theorem d_K_sentence_6 : decode b_K_sentence 6 = .ok (.iload_n 1, 1) := by decide +kernel
theorem d_K_sentence_7 : decode b_K_sentence 7 = .ok (.invokevirtual 255, 3) := by decide +kernel
theorem d_K_sentence_10 : decode b_K_sentence 10 = .ok (.ifCond .eq 21, 3) := by decide +kernel
theorem d_K_sentence_13 : decode b_K_sentence 13 = .ok (.aload_n 0, 1) := by decide +kernel
theorem d_K_sentence_14 : decode b_K_sentence 14 = .ok (.getfield 39, 3) := by decide +kernel
theorem d_K_sentence_17 : decode b_K_sentence 17 = .ok (.iload_n 1, 1) := by decide +kernel
theorem d_K_sentence_18 : decode b_K_sentence 18 = .ok (.iconst 1, 1) := by decide +kernel
theorem d_K_sentence_19 : decode b_K_sentence 19 = .ok (.iadd, 1) := by decide +kernel
theorem d_K_sentence_20 : decode b_K_sentence 20 = .ok (.iaload, 1) := by decide +kernel
theorem d_K_sentence_21 : decode b_K_sentence 21 = .ok (.aload_n 0, 1) := by decide +kernel
theorem d_K_sentence_22 : decode b_K_sentence 22 = .ok (.getfield 39, 3) := by decide +kernel
theorem d_K_sentence_25 : decode b_K_sentence 25 = .ok (.iload_n 1, 1) := by decide +kernel
theorem d_K_sentence_26 : decode b_K_sentence 26 = .ok (.iaload, 1) := by decide +kernel
theorem d_K_sentence_27 : decode b_K_sentence 27 = .ok (.isub, 1) := by decide +kernel
theorem d_K_sentence_28 : decode b_K_sentence 28 = .ok (.goto 4, 3) := by decide +kernel
theorem d_K_sentence_31 : decode b_K_sentence 31 = .ok (.iconst (-1), 1) := by decide +kernel
theorem d_K_sentence_32 : decode b_K_sentence 32 = .ok (.ireturn, 1) := by decide +kernel
abbrev rm_K_sentence : Room := { frames := 1, cells := 0, slots := 0, locals := 21 }
def f_K_sentence (x1 : Int32) (M : Mem) : Option (Int32 × Mem) :=
  ob (f_K_isSentence x1 (ms M 0 0 (0 : Int32))) fun r7 M7 => if r7 = 0 then some ((-1 : Int32), M7) else gd (inb (x1 + (1 : Int32)) 400) (gd (inb x1 400) (some ((M7 10 (x1 + (1 : Int32)).toNatClampNeg) - (M7 10 x1.toNatClampNeg), M7)))
set_option maxRecDepth 100000 in
theorem g_K_sentence {r : Int32} {M' : Mem} (C : GC p s m args meth c b_K_sentence 2 (some (FieldType.int)) "NoneWordsModel" TB D vwCl (tysW cI cZ cC) A Z) {x1 : Int32} {M : Mem} (hf : f_K_sentence x1 M = some (r, M')) : GW p l e rm_K_sentence s m args below meth c (MQ below (QW D vwCl (tysW cI cZ cC) A (some (.int r)) (wk ad cI cZ cC M')) args s 0 0 A) D vwCl A 2 0 0 (wk ad cI cZ cC M) 0 [(0, .ref (ad 0)), (1, .int x1)] [] := by
  unfold f_K_sentence at hf
  refine gw_aload_n C 0 d_K_sentence_0 rfl rfl ?_
  refine gw_iconst (v := (0 : Int32)) C d_K_sentence_1 (by decide) ?_
  refine gw_put C in_K ty_K tk_K nm_K 0 wkg_0 clg_5 0 (by decide) tw_686 rfl rfl rfl rfl (Nat.le_of_ble_eq_true rfl) d_K_sentence_2 wkf_0_0 ?_
  refine gw_aload_n C 0 d_K_sentence_5 rfl rfl ?_
  refine gw_iload_n C 1 d_K_sentence_6 rfl rfl ?_
  obtain ⟨r7, M7, hc7, hf⟩ := ob_some hf
  refine gw_callVr (rest := []) C 0 wkg_0 clg_5 (c_K_isSentence C.2.2.2.2.2.2.2.2.2.2 hc7) (cwV 1 C.2.2.2.2.1 (gTB_V tw_957 mv_K_isSentence) rfl rfl rfl pd_K_isSentence ⟨Nat.le_of_ble_eq_true rfl, Nat.le_of_ble_eq_true rfl⟩) rfl rfl (Nat.le_of_ble_eq_true rfl) d_K_sentence_7 ⟨Nat.le_of_ble_eq_true rfl, Nat.le_of_ble_eq_true rfl⟩ ?_
  refine gw_if_eq (tgt := 31) C d_K_sentence_10 (by decide) (fun c => ?_) (fun c => ?_)
  · have hf := (if_pos c).symm.trans hf
    refine gw_iconst (v := (-1 : Int32)) C d_K_sentence_31 (by decide) ?_
    exact gw_ireti C d_K_sentence_32 (wk ad cI cZ cC) hf
  · have hf := (if_neg c).symm.trans hf
    refine gw_aload_n C 0 d_K_sentence_13 rfl rfl ?_
    refine gw_get C in_K 0 wkg_0 clg_5 12 (by decide) tw_698 rfl rfl d_K_sentence_14 ?_
    refine gw_iload_n C 1 d_K_sentence_17 rfl rfl ?_
    refine gw_iconst (v := (1 : Int32)) C d_K_sentence_18 (by decide) ?_
    refine gw_iadd C d_K_sentence_19 ?_
    obtain ⟨hb20, hf⟩ := gd_some hf
    refine gw_iald C 10 0 wkg_10 rfl hb20 d_K_sentence_20 ?_
    refine gw_aload_n C 0 d_K_sentence_21 rfl rfl ?_
    refine gw_get C in_K 0 wkg_0 clg_5 12 (by decide) tw_698 rfl rfl d_K_sentence_22 ?_
    refine gw_iload_n C 1 d_K_sentence_25 rfl rfl ?_
    obtain ⟨hb26, hf⟩ := gd_some hf
    refine gw_iald C 10 0 wkg_10 rfl hb26 d_K_sentence_26 ?_
    refine gw_isub C d_K_sentence_27 ?_
    refine gw_goto (tgt := 32) C d_K_sentence_28 (by decide) ?_
    exact gw_ireti C d_K_sentence_32 (wk ad cI cZ cC) hf
theorem c_K_sentence (hZ : gw_ZOK Z) {x1 : Int32} {M : Mem} {r : Int32} {M' : Mem} (hf : f_K_sentence x1 M = some (r, M')) : CW l y_K_sentence ws_K_sentence rm_K_sentence D vwCl (tysW cI cZ cC) Z [.ref (ad 0), .int x1] (wk ad cI cZ cC M) (some (.int r)) (wk ad cI cZ cC M') 0 0 :=
  CW.ofG hZ (by decide) rfl (Nat.le_of_ble_eq_true rfl) (fun _ _ _ _ _ _ _ _ C _ => g_K_sentence C hf)
abbrev b_K_letter : ByteArray := prog_7_method_45_code
def y_K_letter : MethodName := ⟨"NoneWordsModel", "letter", "(II)I"⟩
abbrev ws_K_letter : List Cond := Cond.code y_K_letter b_K_letter 3 (some (FieldType.int)) :: TB
set_option maxRecDepth 100000 in
theorem tc_K_letter : Cond.code y_K_letter b_K_letter 3 (some (FieldType.int)) ∈ TB := inTB 964 rfl rfl
theorem mv_K_letter : Cond.instanceMethod y_K_letter ∈ TB ∧ Cond.selects "NoneWordsModel" y_K_letter y_K_letter ∈ TB ∧ Cond.initialized "NoneWordsModel" ∈ TB ∧ Cond.code y_K_letter b_K_letter 3 (some (FieldType.int)) ∈ TB := ⟨inTB 962 (by decide +kernel) (by decide +kernel), inTB 963 (by decide +kernel) (by decide +kernel), inTB 71 (by decide +kernel) (by decide +kernel), tc_K_letter⟩
theorem pd_K_letter : y_K_letter.cls = "NoneWordsModel" ∧ y_K_letter.cls ≠ "java/lang/invoke/MethodHandle" ∧ y_K_letter.cls ≠ "java/lang/invoke/VarHandle" ∧ (parseMethodDescriptor y_K_letter.desc).map (fun d => d.parameters.length) = some 2 := by decide +kernel
theorem d_K_letter_0 : decode b_K_letter 0 = .ok (.aload_n 0, 1) := by decide +kernel
theorem d_K_letter_1 : decode b_K_letter 1 = .ok (.iconst 0, 1) := by decide +kernel
theorem d_K_letter_2 : decode b_K_letter 2 = .ok (.putfield 72, 3) := by decide +kernel
theorem d_K_letter_5 : decode b_K_letter 5 = .ok (.aload_n 0, 1) := by decide +kernel
theorem d_K_letter_6 : decode b_K_letter 6 = .ok (.iload_n 1, 1) := by decide +kernel
theorem d_K_letter_7 : decode b_K_letter 7 = .ok (.invokevirtual 255, 3) := by decide +kernel
theorem d_K_letter_10 : decode b_K_letter 10 = .ok (.ifCond .eq 26, 3) := by decide +kernel
theorem d_K_letter_13 : decode b_K_letter 13 = .ok (.iload_n 2, 1) := by decide +kernel
theorem d_K_letter_14 : decode b_K_letter 14 = .ok (.ifCond .lt 22, 3) := by decide +kernel
theorem d_K_letter_17 : decode b_K_letter 17 = .ok (.iload_n 2, 1) := by decide +kernel
theorem d_K_letter_18 : decode b_K_letter 18 = .ok (.aload_n 0, 1) := by decide +kernel
theorem d_K_letter_19 : decode b_K_letter 19 = .ok (.getfield 39, 3) := by decide +kernel
theorem d_K_letter_22 : decode b_K_letter 22 = .ok (.iload_n 1, 1) := by decide +kernel
theorem d_K_letter_23 : decode b_K_letter 23 = .ok (.iconst 1, 1) := by decide +kernel
theorem d_K_letter_24 : decode b_K_letter 24 = .ok (.iadd, 1) := by decide +kernel
theorem d_K_letter_25 : decode b_K_letter 25 = .ok (.iaload, 1) := by decide +kernel
theorem d_K_letter_26 : decode b_K_letter 26 = .ok (.aload_n 0, 1) := by decide +kernel
theorem d_K_letter_27 : decode b_K_letter 27 = .ok (.getfield 39, 3) := by decide +kernel
theorem d_K_letter_30 : decode b_K_letter 30 = .ok (.iload_n 1, 1) := by decide +kernel
theorem d_K_letter_31 : decode b_K_letter 31 = .ok (.iaload, 1) := by decide +kernel
theorem d_K_letter_32 : decode b_K_letter 32 = .ok (.isub, 1) := by decide +kernel
theorem d_K_letter_33 : decode b_K_letter 33 = .ok (.if_icmp .lt 7, 3) := by decide +kernel
theorem d_K_letter_36 : decode b_K_letter 36 = .ok (.iconst (-1), 1) := by decide +kernel
theorem d_K_letter_37 : decode b_K_letter 37 = .ok (.goto 16, 3) := by decide +kernel
theorem d_K_letter_40 : decode b_K_letter 40 = .ok (.aload_n 0, 1) := by decide +kernel
theorem d_K_letter_41 : decode b_K_letter 41 = .ok (.getfield 36, 3) := by decide +kernel
theorem d_K_letter_44 : decode b_K_letter 44 = .ok (.aload_n 0, 1) := by decide +kernel
theorem d_K_letter_45 : decode b_K_letter 45 = .ok (.getfield 39, 3) := by decide +kernel
theorem d_K_letter_48 : decode b_K_letter 48 = .ok (.iload_n 1, 1) := by decide +kernel
theorem d_K_letter_49 : decode b_K_letter 49 = .ok (.iaload, 1) := by decide +kernel
theorem d_K_letter_50 : decode b_K_letter 50 = .ok (.iload_n 2, 1) := by decide +kernel
theorem d_K_letter_51 : decode b_K_letter 51 = .ok (.iadd, 1) := by decide +kernel
theorem d_K_letter_52 : decode b_K_letter 52 = .ok (.iaload, 1) := by decide +kernel
theorem d_K_letter_53 : decode b_K_letter 53 = .ok (.ireturn, 1) := by decide +kernel
abbrev rm_K_letter : Room := { frames := 1, cells := 0, slots := 0, locals := 21 }
def f_K_letter (x1 : Int32) (x2 : Int32) (M : Mem) : Option (Int32 × Mem) :=
  ob (f_K_isSentence x1 (ms M 0 0 (0 : Int32))) fun r7 M7 => if r7 = 0 then some ((-1 : Int32), M7) else if x2 < 0 then some ((-1 : Int32), M7) else gd (inb (x1 + (1 : Int32)) 400) (gd (inb x1 400) (if x2 < ((M7 10 (x1 + (1 : Int32)).toNatClampNeg) - (M7 10 x1.toNatClampNeg)) then gd (inb x1 400) (gd (inb ((M7 10 x1.toNatClampNeg) + x2) 60000) (some (M7 9 ((M7 10 x1.toNatClampNeg) + x2).toNatClampNeg, M7))) else some ((-1 : Int32), M7)))
set_option maxRecDepth 100000 in
theorem g_K_letter {r : Int32} {M' : Mem} (C : GC p s m args meth c b_K_letter 3 (some (FieldType.int)) "NoneWordsModel" TB D vwCl (tysW cI cZ cC) A Z) {x1 : Int32} {x2 : Int32} {M : Mem} (hf : f_K_letter x1 x2 M = some (r, M')) : GW p l e rm_K_letter s m args below meth c (MQ below (QW D vwCl (tysW cI cZ cC) A (some (.int r)) (wk ad cI cZ cC M')) args s 0 0 A) D vwCl A 3 0 0 (wk ad cI cZ cC M) 0 [(0, .ref (ad 0)), (1, .int x1), (2, .int x2)] [] := by
  unfold f_K_letter at hf
  refine gw_aload_n C 0 d_K_letter_0 rfl rfl ?_
  refine gw_iconst (v := (0 : Int32)) C d_K_letter_1 (by decide) ?_
  refine gw_put C in_K ty_K tk_K nm_K 0 wkg_0 clg_5 0 (by decide) tw_686 rfl rfl rfl rfl (Nat.le_of_ble_eq_true rfl) d_K_letter_2 wkf_0_0 ?_
  refine gw_aload_n C 0 d_K_letter_5 rfl rfl ?_
  refine gw_iload_n C 1 d_K_letter_6 rfl rfl ?_
  obtain ⟨r7, M7, hc7, hf⟩ := ob_some hf
  refine gw_callVr (rest := []) C 0 wkg_0 clg_5 (c_K_isSentence C.2.2.2.2.2.2.2.2.2.2 hc7) (cwV 1 C.2.2.2.2.1 (gTB_V tw_957 mv_K_isSentence) rfl rfl rfl pd_K_isSentence ⟨Nat.le_of_ble_eq_true rfl, Nat.le_of_ble_eq_true rfl⟩) rfl rfl (Nat.le_of_ble_eq_true rfl) d_K_letter_7 ⟨Nat.le_of_ble_eq_true rfl, Nat.le_of_ble_eq_true rfl⟩ ?_
  refine gw_if_eq (tgt := 36) C d_K_letter_10 (by decide) (fun c => ?_) (fun c => ?_)
  · have hf := (if_pos c).symm.trans hf
    refine gw_iconst (v := (-1 : Int32)) C d_K_letter_36 (by decide) ?_
    refine gw_goto (tgt := 53) C d_K_letter_37 (by decide) ?_
    exact gw_ireti C d_K_letter_53 (wk ad cI cZ cC) hf
  · have hf := (if_neg c).symm.trans hf
    refine gw_iload_n C 2 d_K_letter_13 rfl rfl ?_
    refine gw_if_lt (tgt := 36) C d_K_letter_14 (by decide) (fun c => ?_) (fun c => ?_)
    · have hf := (if_pos c).symm.trans hf
      refine gw_iconst (v := (-1 : Int32)) C d_K_letter_36 (by decide) ?_
      refine gw_goto (tgt := 53) C d_K_letter_37 (by decide) ?_
      exact gw_ireti C d_K_letter_53 (wk ad cI cZ cC) hf
    · have hf := (if_neg c).symm.trans hf
      refine gw_iload_n C 2 d_K_letter_17 rfl rfl ?_
      refine gw_aload_n C 0 d_K_letter_18 rfl rfl ?_
      refine gw_get C in_K 0 wkg_0 clg_5 12 (by decide) tw_698 rfl rfl d_K_letter_19 ?_
      refine gw_iload_n C 1 d_K_letter_22 rfl rfl ?_
      refine gw_iconst (v := (1 : Int32)) C d_K_letter_23 (by decide) ?_
      refine gw_iadd C d_K_letter_24 ?_
      obtain ⟨hb25, hf⟩ := gd_some hf
      refine gw_iald C 10 0 wkg_10 rfl hb25 d_K_letter_25 ?_
      refine gw_aload_n C 0 d_K_letter_26 rfl rfl ?_
      refine gw_get C in_K 0 wkg_0 clg_5 12 (by decide) tw_698 rfl rfl d_K_letter_27 ?_
      refine gw_iload_n C 1 d_K_letter_30 rfl rfl ?_
      obtain ⟨hb31, hf⟩ := gd_some hf
      refine gw_iald C 10 0 wkg_10 rfl hb31 d_K_letter_31 ?_
      refine gw_isub C d_K_letter_32 ?_
      refine gw_icmp_lt (tgt := 40) C d_K_letter_33 (by decide) (fun c => ?_) (fun c => ?_)
      · have hf := (if_pos c).symm.trans hf
        refine gw_aload_n C 0 d_K_letter_40 rfl rfl ?_
        refine gw_get C in_K 0 wkg_0 clg_5 11 (by decide) tw_697 rfl rfl d_K_letter_41 ?_
        refine gw_aload_n C 0 d_K_letter_44 rfl rfl ?_
        refine gw_get C in_K 0 wkg_0 clg_5 12 (by decide) tw_698 rfl rfl d_K_letter_45 ?_
        refine gw_iload_n C 1 d_K_letter_48 rfl rfl ?_
        obtain ⟨hb49, hf⟩ := gd_some hf
        refine gw_iald C 10 0 wkg_10 rfl hb49 d_K_letter_49 ?_
        refine gw_iload_n C 2 d_K_letter_50 rfl rfl ?_
        refine gw_iadd C d_K_letter_51 ?_
        obtain ⟨hb52, hf⟩ := gd_some hf
        refine gw_iald C 9 0 wkg_9 rfl hb52 d_K_letter_52 ?_
        exact gw_ireti C d_K_letter_53 (wk ad cI cZ cC) hf
      · have hf := (if_neg c).symm.trans hf
        refine gw_iconst (v := (-1 : Int32)) C d_K_letter_36 (by decide) ?_
        refine gw_goto (tgt := 53) C d_K_letter_37 (by decide) ?_
        exact gw_ireti C d_K_letter_53 (wk ad cI cZ cC) hf
theorem c_K_letter (hZ : gw_ZOK Z) {x1 : Int32} {x2 : Int32} {M : Mem} {r : Int32} {M' : Mem} (hf : f_K_letter x1 x2 M = some (r, M')) : CW l y_K_letter ws_K_letter rm_K_letter D vwCl (tysW cI cZ cC) Z [.ref (ad 0), .int x1, .int x2] (wk ad cI cZ cC M) (some (.int r)) (wk ad cI cZ cC M') 0 0 :=
  CW.ofG hZ (by decide) rfl (Nat.le_of_ble_eq_true rfl) (fun _ _ _ _ _ _ _ _ C _ => g_K_letter C hf)
abbrev b_K_line : ByteArray := prog_7_method_46_code
def y_K_line : MethodName := ⟨"NoneWordsModel", "line", "(I)I"⟩
abbrev ws_K_line : List Cond := Cond.code y_K_line b_K_line 2 (some (FieldType.int)) :: TB
set_option maxRecDepth 100000 in
theorem tc_K_line : Cond.code y_K_line b_K_line 2 (some (FieldType.int)) ∈ TB := inTB 968 rfl rfl
theorem mv_K_line : Cond.instanceMethod y_K_line ∈ TB ∧ Cond.selects "NoneWordsModel" y_K_line y_K_line ∈ TB ∧ Cond.initialized "NoneWordsModel" ∈ TB ∧ Cond.code y_K_line b_K_line 2 (some (FieldType.int)) ∈ TB := ⟨inTB 966 (by decide +kernel) (by decide +kernel), inTB 967 (by decide +kernel) (by decide +kernel), inTB 71 (by decide +kernel) (by decide +kernel), tc_K_line⟩
theorem pd_K_line : y_K_line.cls = "NoneWordsModel" ∧ y_K_line.cls ≠ "java/lang/invoke/MethodHandle" ∧ y_K_line.cls ≠ "java/lang/invoke/VarHandle" ∧ (parseMethodDescriptor y_K_line.desc).map (fun d => d.parameters.length) = some 1 := by decide +kernel
theorem d_K_line_0 : decode b_K_line 0 = .ok (.aload_n 0, 1) := by decide +kernel
theorem d_K_line_1 : decode b_K_line 1 = .ok (.iconst 0, 1) := by decide +kernel
theorem d_K_line_2 : decode b_K_line 2 = .ok (.putfield 72, 3) := by decide +kernel
theorem d_K_line_5 : decode b_K_line 5 = .ok (.aload_n 0, 1) := by decide +kernel
theorem d_K_line_6 : decode b_K_line 6 = .ok (.iload_n 1, 1) := by decide +kernel
theorem d_K_line_7 : decode b_K_line 7 = .ok (.invokevirtual 255, 3) := by decide +kernel
theorem d_K_line_10 : decode b_K_line 10 = .ok (.ifCond .eq 12, 3) := by decide +kernel
theorem d_K_line_13 : decode b_K_line 13 = .ok (.aload_n 0, 1) := by decide +kernel
theorem d_K_line_14 : decode b_K_line 14 = .ok (.getfield 42, 3) := by decide +kernel
theorem d_K_line_17 : decode b_K_line 17 = .ok (.iload_n 1, 1) := by decide +kernel
theorem d_K_line_18 : decode b_K_line 18 = .ok (.iaload, 1) := by decide +kernel
theorem d_K_line_19 : decode b_K_line 19 = .ok (.goto 4, 3) := by decide +kernel
theorem d_K_line_22 : decode b_K_line 22 = .ok (.iconst 0, 1) := by decide +kernel
theorem d_K_line_23 : decode b_K_line 23 = .ok (.ireturn, 1) := by decide +kernel
abbrev rm_K_line : Room := { frames := 1, cells := 0, slots := 0, locals := 21 }
def f_K_line (x1 : Int32) (M : Mem) : Option (Int32 × Mem) :=
  ob (f_K_isSentence x1 (ms M 0 0 (0 : Int32))) fun r7 M7 => if r7 = 0 then some ((0 : Int32), M7) else gd (inb x1 400) (some (M7 11 x1.toNatClampNeg, M7))
set_option maxRecDepth 100000 in
theorem g_K_line {r : Int32} {M' : Mem} (C : GC p s m args meth c b_K_line 2 (some (FieldType.int)) "NoneWordsModel" TB D vwCl (tysW cI cZ cC) A Z) {x1 : Int32} {M : Mem} (hf : f_K_line x1 M = some (r, M')) : GW p l e rm_K_line s m args below meth c (MQ below (QW D vwCl (tysW cI cZ cC) A (some (.int r)) (wk ad cI cZ cC M')) args s 0 0 A) D vwCl A 2 0 0 (wk ad cI cZ cC M) 0 [(0, .ref (ad 0)), (1, .int x1)] [] := by
  unfold f_K_line at hf
  refine gw_aload_n C 0 d_K_line_0 rfl rfl ?_
  refine gw_iconst (v := (0 : Int32)) C d_K_line_1 (by decide) ?_
  refine gw_put C in_K ty_K tk_K nm_K 0 wkg_0 clg_5 0 (by decide) tw_686 rfl rfl rfl rfl (Nat.le_of_ble_eq_true rfl) d_K_line_2 wkf_0_0 ?_
  refine gw_aload_n C 0 d_K_line_5 rfl rfl ?_
  refine gw_iload_n C 1 d_K_line_6 rfl rfl ?_
  obtain ⟨r7, M7, hc7, hf⟩ := ob_some hf
  refine gw_callVr (rest := []) C 0 wkg_0 clg_5 (c_K_isSentence C.2.2.2.2.2.2.2.2.2.2 hc7) (cwV 1 C.2.2.2.2.1 (gTB_V tw_957 mv_K_isSentence) rfl rfl rfl pd_K_isSentence ⟨Nat.le_of_ble_eq_true rfl, Nat.le_of_ble_eq_true rfl⟩) rfl rfl (Nat.le_of_ble_eq_true rfl) d_K_line_7 ⟨Nat.le_of_ble_eq_true rfl, Nat.le_of_ble_eq_true rfl⟩ ?_
  refine gw_if_eq (tgt := 22) C d_K_line_10 (by decide) (fun c => ?_) (fun c => ?_)
  · have hf := (if_pos c).symm.trans hf
    refine gw_iconst (v := (0 : Int32)) C d_K_line_22 (by decide) ?_
    exact gw_ireti C d_K_line_23 (wk ad cI cZ cC) hf
  · have hf := (if_neg c).symm.trans hf
    refine gw_aload_n C 0 d_K_line_13 rfl rfl ?_
    refine gw_get C in_K 0 wkg_0 clg_5 13 (by decide) tw_699 rfl rfl d_K_line_14 ?_
    refine gw_iload_n C 1 d_K_line_17 rfl rfl ?_
    obtain ⟨hb18, hf⟩ := gd_some hf
    refine gw_iald C 11 0 wkg_11 rfl hb18 d_K_line_18 ?_
    refine gw_goto (tgt := 23) C d_K_line_19 (by decide) ?_
    exact gw_ireti C d_K_line_23 (wk ad cI cZ cC) hf
theorem c_K_line (hZ : gw_ZOK Z) {x1 : Int32} {M : Mem} {r : Int32} {M' : Mem} (hf : f_K_line x1 M = some (r, M')) : CW l y_K_line ws_K_line rm_K_line D vwCl (tysW cI cZ cC) Z [.ref (ad 0), .int x1] (wk ad cI cZ cC M) (some (.int r)) (wk ad cI cZ cC M') 0 0 :=
  CW.ofG hZ (by decide) rfl (Nat.le_of_ble_eq_true rfl) (fun _ _ _ _ _ _ _ _ C _ => g_K_line C hf)
abbrev b_K_numbered : ByteArray := prog_7_method_47_code
def y_K_numbered : MethodName := ⟨"NoneWordsModel", "numbered", "(I)I"⟩
abbrev ws_K_numbered : List Cond := Cond.code y_K_numbered b_K_numbered 2 (some (FieldType.int)) :: TB
set_option maxRecDepth 100000 in
theorem tc_K_numbered : Cond.code y_K_numbered b_K_numbered 2 (some (FieldType.int)) ∈ TB := inTB 972 rfl rfl
theorem mv_K_numbered : Cond.instanceMethod y_K_numbered ∈ TB ∧ Cond.selects "NoneWordsModel" y_K_numbered y_K_numbered ∈ TB ∧ Cond.initialized "NoneWordsModel" ∈ TB ∧ Cond.code y_K_numbered b_K_numbered 2 (some (FieldType.int)) ∈ TB := ⟨inTB 970 (by decide +kernel) (by decide +kernel), inTB 971 (by decide +kernel) (by decide +kernel), inTB 71 (by decide +kernel) (by decide +kernel), tc_K_numbered⟩
theorem pd_K_numbered : y_K_numbered.cls = "NoneWordsModel" ∧ y_K_numbered.cls ≠ "java/lang/invoke/MethodHandle" ∧ y_K_numbered.cls ≠ "java/lang/invoke/VarHandle" ∧ (parseMethodDescriptor y_K_numbered.desc).map (fun d => d.parameters.length) = some 1 := by decide +kernel
theorem d_K_numbered_0 : decode b_K_numbered 0 = .ok (.aload_n 0, 1) := by decide +kernel
theorem d_K_numbered_1 : decode b_K_numbered 1 = .ok (.iconst 0, 1) := by decide +kernel
theorem d_K_numbered_2 : decode b_K_numbered 2 = .ok (.putfield 72, 3) := by decide +kernel
theorem d_K_numbered_5 : decode b_K_numbered 5 = .ok (.aload_n 0, 1) := by decide +kernel
theorem d_K_numbered_6 : decode b_K_numbered 6 = .ok (.iload_n 1, 1) := by decide +kernel
theorem d_K_numbered_7 : decode b_K_numbered 7 = .ok (.invokevirtual 112, 3) := by decide +kernel
theorem d_K_numbered_10 : decode b_K_numbered 10 = .ok (.ifCond .eq 12, 3) := by decide +kernel
theorem d_K_numbered_13 : decode b_K_numbered 13 = .ok (.aload_n 0, 1) := by decide +kernel
theorem d_K_numbered_14 : decode b_K_numbered 14 = .ok (.getfield 45, 3) := by decide +kernel
theorem d_K_numbered_17 : decode b_K_numbered 17 = .ok (.iload_n 1, 1) := by decide +kernel
theorem d_K_numbered_18 : decode b_K_numbered 18 = .ok (.iaload, 1) := by decide +kernel
theorem d_K_numbered_19 : decode b_K_numbered 19 = .ok (.goto 4, 3) := by decide +kernel
theorem d_K_numbered_22 : decode b_K_numbered 22 = .ok (.iconst 0, 1) := by decide +kernel
theorem d_K_numbered_23 : decode b_K_numbered 23 = .ok (.ireturn, 1) := by decide +kernel
abbrev rm_K_numbered : Room := { frames := 1, cells := 0, slots := 0, locals := 21 }
def f_K_numbered (x1 : Int32) (M : Mem) : Option (Int32 × Mem) :=
  ob (f_K_isNode x1 (ms M 0 0 (0 : Int32))) fun r7 M7 => if r7 = 0 then some ((0 : Int32), M7) else gd (inb x1 120) (some (M7 12 x1.toNatClampNeg, M7))
set_option maxRecDepth 100000 in
theorem g_K_numbered {r : Int32} {M' : Mem} (C : GC p s m args meth c b_K_numbered 2 (some (FieldType.int)) "NoneWordsModel" TB D vwCl (tysW cI cZ cC) A Z) {x1 : Int32} {M : Mem} (hf : f_K_numbered x1 M = some (r, M')) : GW p l e rm_K_numbered s m args below meth c (MQ below (QW D vwCl (tysW cI cZ cC) A (some (.int r)) (wk ad cI cZ cC M')) args s 0 0 A) D vwCl A 2 0 0 (wk ad cI cZ cC M) 0 [(0, .ref (ad 0)), (1, .int x1)] [] := by
  unfold f_K_numbered at hf
  refine gw_aload_n C 0 d_K_numbered_0 rfl rfl ?_
  refine gw_iconst (v := (0 : Int32)) C d_K_numbered_1 (by decide) ?_
  refine gw_put C in_K ty_K tk_K nm_K 0 wkg_0 clg_5 0 (by decide) tw_686 rfl rfl rfl rfl (Nat.le_of_ble_eq_true rfl) d_K_numbered_2 wkf_0_0 ?_
  refine gw_aload_n C 0 d_K_numbered_5 rfl rfl ?_
  refine gw_iload_n C 1 d_K_numbered_6 rfl rfl ?_
  obtain ⟨r7, M7, hc7, hf⟩ := ob_some hf
  refine gw_callVr (rest := []) C 0 wkg_0 clg_5 (c_K_isNode C.2.2.2.2.2.2.2.2.2.2 hc7) (cwV 1 C.2.2.2.2.1 (gTB_V tw_814 mv_K_isNode) rfl rfl rfl pd_K_isNode ⟨Nat.le_of_ble_eq_true rfl, Nat.le_of_ble_eq_true rfl⟩) rfl rfl (Nat.le_of_ble_eq_true rfl) d_K_numbered_7 ⟨Nat.le_of_ble_eq_true rfl, Nat.le_of_ble_eq_true rfl⟩ ?_
  refine gw_if_eq (tgt := 22) C d_K_numbered_10 (by decide) (fun c => ?_) (fun c => ?_)
  · have hf := (if_pos c).symm.trans hf
    refine gw_iconst (v := (0 : Int32)) C d_K_numbered_22 (by decide) ?_
    exact gw_ireti C d_K_numbered_23 (wk ad cI cZ cC) hf
  · have hf := (if_neg c).symm.trans hf
    refine gw_aload_n C 0 d_K_numbered_13 rfl rfl ?_
    refine gw_get C in_K 0 wkg_0 clg_5 14 (by decide) tw_700 rfl rfl d_K_numbered_14 ?_
    refine gw_iload_n C 1 d_K_numbered_17 rfl rfl ?_
    obtain ⟨hb18, hf⟩ := gd_some hf
    refine gw_iald C 12 0 wkg_12 rfl hb18 d_K_numbered_18 ?_
    refine gw_goto (tgt := 23) C d_K_numbered_19 (by decide) ?_
    exact gw_ireti C d_K_numbered_23 (wk ad cI cZ cC) hf
theorem c_K_numbered (hZ : gw_ZOK Z) {x1 : Int32} {M : Mem} {r : Int32} {M' : Mem} (hf : f_K_numbered x1 M = some (r, M')) : CW l y_K_numbered ws_K_numbered rm_K_numbered D vwCl (tysW cI cZ cC) Z [.ref (ad 0), .int x1] (wk ad cI cZ cC M) (some (.int r)) (wk ad cI cZ cC M') 0 0 :=
  CW.ofG hZ (by decide) rfl (Nat.le_of_ble_eq_true rfl) (fun _ _ _ _ _ _ _ _ C _ => g_K_numbered C hf)
abbrev b_K_isKept : ByteArray := prog_7_method_48_code
def y_K_isKept : MethodName := ⟨"NoneWordsModel", "isKept", "(I)Z"⟩
abbrev ws_K_isKept : List Cond := Cond.code y_K_isKept b_K_isKept 4 (some (FieldType.boolean)) :: TB
set_option maxRecDepth 100000 in
theorem tc_K_isKept : Cond.code y_K_isKept b_K_isKept 4 (some (FieldType.boolean)) ∈ TB := inTB 988 rfl rfl
theorem mv_K_isKept : Cond.instanceMethod y_K_isKept ∈ TB ∧ Cond.selects "NoneWordsModel" y_K_isKept y_K_isKept ∈ TB ∧ Cond.initialized "NoneWordsModel" ∈ TB ∧ Cond.code y_K_isKept b_K_isKept 4 (some (FieldType.boolean)) ∈ TB := ⟨inTB 987 (by decide +kernel) (by decide +kernel), inTB 62 (by decide +kernel) (by decide +kernel), inTB 71 (by decide +kernel) (by decide +kernel), tc_K_isKept⟩
theorem pd_K_isKept : y_K_isKept.cls = "NoneWordsModel" ∧ y_K_isKept.cls ≠ "java/lang/invoke/MethodHandle" ∧ y_K_isKept.cls ≠ "java/lang/invoke/VarHandle" ∧ (parseMethodDescriptor y_K_isKept.desc).map (fun d => d.parameters.length) = some 1 := by decide +kernel
theorem d_K_isKept_0 : decode b_K_isKept 0 = .ok (.iconst 1, 1) := by decide +kernel
theorem d_K_isKept_1 : decode b_K_isKept 1 = .ok (.istore_n 2, 1) := by decide +kernel
theorem d_K_isKept_2 : decode b_K_isKept 2 = .ok (.iconst 0, 1) := by decide +kernel
theorem d_K_isKept_3 : decode b_K_isKept 3 = .ok (.istore_n 3, 1) := by decide +kernel
theorem d_K_isKept_4 : decode b_K_isKept 4 = .ok (.iload_n 3, 1) := by decide +kernel
theorem d_K_isKept_5 : decode b_K_isKept 5 = .ok (.aload_n 0, 1) := by decide +kernel
theorem d_K_isKept_6 : decode b_K_isKept 6 = .ok (.getfield 76, 3) := by decide +kernel
theorem d_K_isKept_9 : decode b_K_isKept 9 = .ok (.if_icmp .ge 47, 3) := by decide +kernel
theorem d_K_isKept_12 : decode b_K_isKept 12 = .ok (.iload_n 2, 1) := by decide +kernel
theorem d_K_isKept_13 : decode b_K_isKept 13 = .ok (.ifCond .eq 35, 3) := by decide +kernel
theorem d_K_isKept_16 : decode b_K_isKept 16 = .ok (.aload_n 0, 1) := by decide +kernel
theorem d_K_isKept_17 : decode b_K_isKept 17 = .ok (.getfield 28, 3) := by decide +kernel
theorem d_K_isKept_20 : decode b_K_isKept 20 = .ok (.iload_n 1, 1) := by decide +kernel
theorem d_K_isKept_21 : decode b_K_isKept 21 = .ok (.iload_n 3, 1) := by decide +kernel
theorem d_K_isKept_22 : decode b_K_isKept 22 = .ok (.invokestatic 82, 3) := by decide +kernel
theorem d_K_isKept_25 : decode b_K_isKept 25 = .ok (.baload, 1) := by decide +kernel
theorem d_K_isKept_26 : decode b_K_isKept 26 = .ok (.ifCond .eq 18, 3) := by decide +kernel
theorem d_K_isKept_29 : decode b_K_isKept 29 = .ok (.aload_n 0, 1) := by decide +kernel
theorem d_K_isKept_30 : decode b_K_isKept 30 = .ok (.iload_n 1, 1) := by decide +kernel
theorem d_K_isKept_31 : decode b_K_isKept 31 = .ok (.iload_n 3, 1) := by decide +kernel
theorem d_K_isKept_32 : decode b_K_isKept 32 = .ok (.aload_n 0, 1) := by decide +kernel
theorem d_K_isKept_33 : decode b_K_isKept 33 = .ok (.getfield 63, 3) := by decide +kernel
theorem d_K_isKept_36 : decode b_K_isKept 36 = .ok (.iload_n 3, 1) := by decide +kernel
theorem d_K_isKept_37 : decode b_K_isKept 37 = .ok (.iaload, 1) := by decide +kernel
theorem d_K_isKept_38 : decode b_K_isKept 38 = .ok (.invokevirtual 86, 3) := by decide +kernel
theorem d_K_isKept_41 : decode b_K_isKept 41 = .ok (.ifCond .eq 7, 3) := by decide +kernel
theorem d_K_isKept_44 : decode b_K_isKept 44 = .ok (.iconst 1, 1) := by decide +kernel
theorem d_K_isKept_45 : decode b_K_isKept 45 = .ok (.goto 4, 3) := by decide +kernel
theorem d_K_isKept_48 : decode b_K_isKept 48 = .ok (.iconst 0, 1) := by decide +kernel
theorem d_K_isKept_49 : decode b_K_isKept 49 = .ok (.istore_n 2, 1) := by decide +kernel
theorem d_K_isKept_50 : decode b_K_isKept 50 = .ok (.iinc 3 1, 3) := by decide +kernel
theorem d_K_isKept_53 : decode b_K_isKept 53 = .ok (.goto (-49), 3) := by decide +kernel
theorem d_K_isKept_56 : decode b_K_isKept 56 = .ok (.iload_n 2, 1) := by decide +kernel
theorem d_K_isKept_57 : decode b_K_isKept 57 = .ok (.ifCond .ne 7, 3) := by decide +kernel
theorem d_K_isKept_60 : decode b_K_isKept 60 = .ok (.iconst 1, 1) := by decide +kernel
theorem d_K_isKept_61 : decode b_K_isKept 61 = .ok (.goto 4, 3) := by decide +kernel
theorem d_K_isKept_64 : decode b_K_isKept 64 = .ok (.iconst 0, 1) := by decide +kernel
theorem d_K_isKept_65 : decode b_K_isKept 65 = .ok (.ireturn, 1) := by decide +kernel
abbrev rm_K_isKept : Room := { frames := 2, cells := 0, slots := 0, locals := 44 }
def f_K_isKept_4 : Nat → Int32 → Int32 → Int32 → Mem → Option (Int32 × Mem)
  | 0, _, _, _, _ => none
  | n + 1, x1, x2, x3, M => if (M 0 2) ≤ x3 then if x2 = 0 then some ((1 : Int32), M) else some ((0 : Int32), M) else if x2 = 0 then (f_K_isKept_4 n) x1 (0 : Int32) (x3 + (1 : Int32)) M else ob (f_K_place x1 x3 M) fun r22 M22 => gd (inb r22 600) (if (M22 7 r22.toNatClampNeg) = 0 then (f_K_isKept_4 n) x1 (1 : Int32) (x3 + (1 : Int32)) M22 else gd (inb x3 5) (ob (f_K_isSaid x1 x3 (M22 18 x3.toNatClampNeg) M22) fun r38 M38 => if r38 = 0 then (f_K_isKept_4 n) x1 (0 : Int32) (x3 + (1 : Int32)) M38 else (f_K_isKept_4 n) x1 (1 : Int32) (x3 + (1 : Int32)) M38))
set_option maxRecDepth 100000 in
theorem g_K_isKept_4 {r : Int32} {M' : Mem} (C : GC p s m args meth c b_K_isKept 4 (some (FieldType.boolean)) "NoneWordsModel" TB D vwCl (tysW cI cZ cC) A Z) : ∀ (n : Nat) (x1 : Int32) (x2 : Int32) (x3 : Int32) (M : Mem), f_K_isKept_4 n x1 x2 x3 M = some (r, M') → GW p l e rm_K_isKept s m args below meth c (MQ below (QW D vwCl (tysW cI cZ cC) A (some (.int r)) (wk ad cI cZ cC M')) args s 0 0 A) D vwCl A 4 0 0 (wk ad cI cZ cC M) 4 [(0, .ref (ad 0)), (1, .int x1), (2, .int x2), (3, .int x3)] [] := by
  intro n
  induction n with
  | zero => intro _ _ _ _ hf; cases hf
  | succ n ih =>
    intro x1 x2 x3 M hf
    rw [f_K_isKept_4] at hf
    refine gw_iload_n C 3 d_K_isKept_4 rfl rfl ?_
    refine gw_aload_n C 0 d_K_isKept_5 rfl rfl ?_
    refine gw_get C in_K 0 wkg_0 clg_5 2 (by decide) tw_688 rfl rfl d_K_isKept_6 ?_
    refine gw_icmp_ge (tgt := 56) C d_K_isKept_9 (by decide) (fun c => ?_) (fun c => ?_)
    · have hf := (if_pos c).symm.trans hf
      refine gw_iload_n C 2 d_K_isKept_56 rfl rfl ?_
      refine gw_if_ne (tgt := 64) C d_K_isKept_57 (by decide) (fun c => ?_) (fun c => ?_)
      · have hf := (if_neg c).symm.trans hf
        refine gw_iconst (v := (0 : Int32)) C d_K_isKept_64 (by decide) ?_
        exact gw_zreti C d_K_isKept_65 (wk ad cI cZ cC) (by decide) hf
      · have hf := (if_pos c).symm.trans hf
        refine gw_iconst (v := (1 : Int32)) C d_K_isKept_60 (by decide) ?_
        refine gw_goto (tgt := 65) C d_K_isKept_61 (by decide) ?_
        exact gw_zreti C d_K_isKept_65 (wk ad cI cZ cC) (by decide) hf
    · have hf := (if_neg c).symm.trans hf
      refine gw_iload_n C 2 d_K_isKept_12 rfl rfl ?_
      refine gw_if_eq (tgt := 48) C d_K_isKept_13 (by decide) (fun c => ?_) (fun c => ?_)
      · have hf := (if_pos c).symm.trans hf
        refine gw_iconst (v := (0 : Int32)) C d_K_isKept_48 (by decide) ?_
        refine gw_istore_n (lv' := [(2, .int (0 : Int32)), (0, .ref (ad 0)), (1, .int x1), (3, .int x3)]) C d_K_isKept_49 rfl (by decide) rfl ?_
        refine gw_iinc (v := x3 + (1 : Int32)) (lv' := [(3, .int (x3 + (1 : Int32))), (2, .int (0 : Int32)), (0, .ref (ad 0)), (1, .int x1)]) C 3 d_K_isKept_50 rfl rfl (by decide) rfl ?_
        refine gw_goto (tgt := 4) C d_K_isKept_53 (by decide) ?_
        exact gw_sub [2, 3, 1, 0] rfl (ih _ _ _ _ hf)
      · have hf := (if_neg c).symm.trans hf
        refine gw_aload_n C 0 d_K_isKept_16 rfl rfl ?_
        refine gw_get C in_K 0 wkg_0 clg_5 9 (by decide) tw_695 rfl rfl d_K_isKept_17 ?_
        refine gw_iload_n C 1 d_K_isKept_20 rfl rfl ?_
        refine gw_iload_n C 3 d_K_isKept_21 rfl rfl ?_
        obtain ⟨r22, M22, hc22, hf⟩ := ob_some hf
        refine gw_callSr (rest := [.ref (ad 7)]) C (c_K_place C.2.2.2.2.2.2.2.2.2.2 hc22) (cwS 2 C.2.2.2.2.1 (gTB_S tw_787 mv_K_place) rfl rfl rfl pd_K_place ⟨Nat.le_of_ble_eq_true rfl, Nat.le_of_ble_eq_true rfl⟩) rfl rfl (Nat.le_of_ble_eq_true rfl) d_K_isKept_22 ⟨Nat.le_of_ble_eq_true rfl, Nat.le_of_ble_eq_true rfl⟩ ?_
        obtain ⟨hb25, hf⟩ := gd_some hf
        refine gw_zald C 7 1 wkg_7 rfl hb25 d_K_isKept_25 ?_
        refine gw_if_eq (tgt := 44) C d_K_isKept_26 (by decide) (fun c => ?_) (fun c => ?_)
        · have hf := (if_pos c).symm.trans hf
          refine gw_iconst (v := (1 : Int32)) C d_K_isKept_44 (by decide) ?_
          refine gw_goto (tgt := 49) C d_K_isKept_45 (by decide) ?_
          refine gw_istore_n (lv' := [(2, .int (1 : Int32)), (0, .ref (ad 0)), (1, .int x1), (3, .int x3)]) C d_K_isKept_49 rfl (by decide) rfl ?_
          refine gw_iinc (v := x3 + (1 : Int32)) (lv' := [(3, .int (x3 + (1 : Int32))), (2, .int (1 : Int32)), (0, .ref (ad 0)), (1, .int x1)]) C 3 d_K_isKept_50 rfl rfl (by decide) rfl ?_
          refine gw_goto (tgt := 4) C d_K_isKept_53 (by decide) ?_
          exact gw_sub [2, 3, 1, 0] rfl (ih _ _ _ _ hf)
        · have hf := (if_neg c).symm.trans hf
          refine gw_aload_n C 0 d_K_isKept_29 rfl rfl ?_
          refine gw_iload_n C 1 d_K_isKept_30 rfl rfl ?_
          refine gw_iload_n C 3 d_K_isKept_31 rfl rfl ?_
          refine gw_aload_n C 0 d_K_isKept_32 rfl rfl ?_
          refine gw_get C in_K 0 wkg_0 clg_5 24 (by decide) tw_710 rfl rfl d_K_isKept_33 ?_
          refine gw_iload_n C 3 d_K_isKept_36 rfl rfl ?_
          obtain ⟨hb37, hf⟩ := gd_some hf
          refine gw_iald C 18 0 wkg_18 rfl hb37 d_K_isKept_37 ?_
          obtain ⟨r38, M38, hc38, hf⟩ := ob_some hf
          refine gw_callVr (rest := []) C 0 wkg_0 clg_5 (c_K_isSaid C.2.2.2.2.2.2.2.2.2.2 hc38) (cwV 3 C.2.2.2.2.1 (gTB_V tw_806 mv_K_isSaid) rfl rfl rfl pd_K_isSaid ⟨Nat.le_of_ble_eq_true rfl, Nat.le_of_ble_eq_true rfl⟩) rfl rfl (Nat.le_of_ble_eq_true rfl) d_K_isKept_38 ⟨Nat.le_of_ble_eq_true rfl, Nat.le_of_ble_eq_true rfl⟩ ?_
          refine gw_if_eq (tgt := 48) C d_K_isKept_41 (by decide) (fun c => ?_) (fun c => ?_)
          · have hf := (if_pos c).symm.trans hf
            refine gw_iconst (v := (0 : Int32)) C d_K_isKept_48 (by decide) ?_
            refine gw_istore_n (lv' := [(2, .int (0 : Int32)), (0, .ref (ad 0)), (1, .int x1), (3, .int x3)]) C d_K_isKept_49 rfl (by decide) rfl ?_
            refine gw_iinc (v := x3 + (1 : Int32)) (lv' := [(3, .int (x3 + (1 : Int32))), (2, .int (0 : Int32)), (0, .ref (ad 0)), (1, .int x1)]) C 3 d_K_isKept_50 rfl rfl (by decide) rfl ?_
            refine gw_goto (tgt := 4) C d_K_isKept_53 (by decide) ?_
            exact gw_sub [2, 3, 1, 0] rfl (ih _ _ _ _ hf)
          · have hf := (if_neg c).symm.trans hf
            refine gw_iconst (v := (1 : Int32)) C d_K_isKept_44 (by decide) ?_
            refine gw_goto (tgt := 49) C d_K_isKept_45 (by decide) ?_
            refine gw_istore_n (lv' := [(2, .int (1 : Int32)), (0, .ref (ad 0)), (1, .int x1), (3, .int x3)]) C d_K_isKept_49 rfl (by decide) rfl ?_
            refine gw_iinc (v := x3 + (1 : Int32)) (lv' := [(3, .int (x3 + (1 : Int32))), (2, .int (1 : Int32)), (0, .ref (ad 0)), (1, .int x1)]) C 3 d_K_isKept_50 rfl rfl (by decide) rfl ?_
            refine gw_goto (tgt := 4) C d_K_isKept_53 (by decide) ?_
            exact gw_sub [2, 3, 1, 0] rfl (ih _ _ _ _ hf)
def f_K_isKept (x1 : Int32) (M : Mem) : Option (Int32 × Mem) :=
  f_K_isKept_4 100000 x1 (1 : Int32) (0 : Int32) M
set_option maxRecDepth 100000 in
theorem g_K_isKept {r : Int32} {M' : Mem} (C : GC p s m args meth c b_K_isKept 4 (some (FieldType.boolean)) "NoneWordsModel" TB D vwCl (tysW cI cZ cC) A Z) {x1 : Int32} {M : Mem} (hf : f_K_isKept x1 M = some (r, M')) : GW p l e rm_K_isKept s m args below meth c (MQ below (QW D vwCl (tysW cI cZ cC) A (some (.int r)) (wk ad cI cZ cC M')) args s 0 0 A) D vwCl A 4 0 0 (wk ad cI cZ cC M) 0 [(0, .ref (ad 0)), (1, .int x1)] [] := by
  unfold f_K_isKept at hf
  refine gw_iconst (v := (1 : Int32)) C d_K_isKept_0 (by decide) ?_
  refine gw_istore_n (lv' := [(2, .int (1 : Int32)), (0, .ref (ad 0)), (1, .int x1)]) C d_K_isKept_1 rfl (by decide) rfl ?_
  refine gw_iconst (v := (0 : Int32)) C d_K_isKept_2 (by decide) ?_
  refine gw_istore_n (lv' := [(3, .int (0 : Int32)), (2, .int (1 : Int32)), (0, .ref (ad 0)), (1, .int x1)]) C d_K_isKept_3 rfl (by decide) rfl ?_
  exact gw_sub [2, 3, 1, 0] rfl (g_K_isKept_4 C _ _ _ _ _ hf)
theorem c_K_isKept (hZ : gw_ZOK Z) {x1 : Int32} {M : Mem} {r : Int32} {M' : Mem} (hf : f_K_isKept x1 M = some (r, M')) : CW l y_K_isKept ws_K_isKept rm_K_isKept D vwCl (tysW cI cZ cC) Z [.ref (ad 0), .int x1] (wk ad cI cZ cC M) (some (.int r)) (wk ad cI cZ cC M') 0 0 :=
  CW.ofG hZ (by decide) rfl (Nat.le_of_ble_eq_true rfl) (fun _ _ _ _ _ _ _ _ C _ => g_K_isKept C hf)
abbrev b_K_advance : ByteArray := prog_7_method_49_code
def y_K_advance : MethodName := ⟨"NoneWordsModel", "advance", "()Z"⟩
abbrev ws_K_advance : List Cond := Cond.code y_K_advance b_K_advance 2 (some (FieldType.boolean)) :: TB
set_option maxRecDepth 100000 in
theorem tc_K_advance : Cond.code y_K_advance b_K_advance 2 (some (FieldType.boolean)) ∈ TB := inTB 992 rfl rfl
theorem mv_K_advance : Cond.instanceMethod y_K_advance ∈ TB ∧ Cond.selects "NoneWordsModel" y_K_advance y_K_advance ∈ TB ∧ Cond.initialized "NoneWordsModel" ∈ TB ∧ Cond.code y_K_advance b_K_advance 2 (some (FieldType.boolean)) ∈ TB := ⟨inTB 991 (by decide +kernel) (by decide +kernel), inTB 63 (by decide +kernel) (by decide +kernel), inTB 71 (by decide +kernel) (by decide +kernel), tc_K_advance⟩
theorem pd_K_advance : y_K_advance.cls = "NoneWordsModel" ∧ y_K_advance.cls ≠ "java/lang/invoke/MethodHandle" ∧ y_K_advance.cls ≠ "java/lang/invoke/VarHandle" ∧ (parseMethodDescriptor y_K_advance.desc).map (fun d => d.parameters.length) = some 0 := by decide +kernel
theorem d_K_advance_0 : decode b_K_advance 0 = .ok (.aload_n 0, 1) := by decide +kernel
theorem d_K_advance_1 : decode b_K_advance 1 = .ok (.getfield 76, 3) := by decide +kernel
theorem d_K_advance_4 : decode b_K_advance 4 = .ok (.iconst 1, 1) := by decide +kernel
theorem d_K_advance_5 : decode b_K_advance 5 = .ok (.isub, 1) := by decide +kernel
theorem d_K_advance_6 : decode b_K_advance 6 = .ok (.istore_n 1, 1) := by decide +kernel
theorem d_K_advance_7 : decode b_K_advance 7 = .ok (.iload_n 1, 1) := by decide +kernel
theorem d_K_advance_8 : decode b_K_advance 8 = .ok (.ifCond .lt 33, 3) := by decide +kernel
theorem d_K_advance_11 : decode b_K_advance 11 = .ok (.aload_n 0, 1) := by decide +kernel
theorem d_K_advance_12 : decode b_K_advance 12 = .ok (.getfield 63, 3) := by decide +kernel
theorem d_K_advance_15 : decode b_K_advance 15 = .ok (.iload_n 1, 1) := by decide +kernel
theorem d_K_advance_16 : decode b_K_advance 16 = .ok (.iaload, 1) := by decide +kernel
theorem d_K_advance_17 : decode b_K_advance 17 = .ok (.aload_n 0, 1) := by decide +kernel
theorem d_K_advance_18 : decode b_K_advance 18 = .ok (.getfield 7, 3) := by decide +kernel
theorem d_K_advance_21 : decode b_K_advance 21 = .ok (.iload_n 1, 1) := by decide +kernel
theorem d_K_advance_22 : decode b_K_advance 22 = .ok (.iaload, 1) := by decide +kernel
theorem d_K_advance_23 : decode b_K_advance 23 = .ok (.iconst 1, 1) := by decide +kernel
theorem d_K_advance_24 : decode b_K_advance 24 = .ok (.isub, 1) := by decide +kernel
theorem d_K_advance_25 : decode b_K_advance 25 = .ok (.if_icmp .ne 16, 3) := by decide +kernel
theorem d_K_advance_28 : decode b_K_advance 28 = .ok (.aload_n 0, 1) := by decide +kernel
theorem d_K_advance_29 : decode b_K_advance 29 = .ok (.getfield 63, 3) := by decide +kernel
theorem d_K_advance_32 : decode b_K_advance 32 = .ok (.iload_n 1, 1) := by decide +kernel
theorem d_K_advance_33 : decode b_K_advance 33 = .ok (.iconst (-1), 1) := by decide +kernel
theorem d_K_advance_34 : decode b_K_advance 34 = .ok (.iastore, 1) := by decide +kernel
theorem d_K_advance_35 : decode b_K_advance 35 = .ok (.iinc 1 (-1), 3) := by decide +kernel
theorem d_K_advance_38 : decode b_K_advance 38 = .ok (.goto (-31), 3) := by decide +kernel
theorem d_K_advance_41 : decode b_K_advance 41 = .ok (.iload_n 1, 1) := by decide +kernel
theorem d_K_advance_42 : decode b_K_advance 42 = .ok (.ifCond .lt 13, 3) := by decide +kernel
theorem d_K_advance_45 : decode b_K_advance 45 = .ok (.aload_n 0, 1) := by decide +kernel
theorem d_K_advance_46 : decode b_K_advance 46 = .ok (.getfield 63, 3) := by decide +kernel
theorem d_K_advance_49 : decode b_K_advance 49 = .ok (.iload_n 1, 1) := by decide +kernel
theorem d_K_advance_50 : decode b_K_advance 50 = .ok (.dup2, 1) := by decide +kernel
theorem d_K_advance_51 : decode b_K_advance 51 = .ok (.iaload, 1) := by decide +kernel
theorem d_K_advance_52 : decode b_K_advance 52 = .ok (.iconst 1, 1) := by decide +kernel
theorem d_K_advance_53 : decode b_K_advance 53 = .ok (.iadd, 1) := by decide +kernel
theorem d_K_advance_54 : decode b_K_advance 54 = .ok (.iastore, 1) := by decide +kernel
theorem d_K_advance_55 : decode b_K_advance 55 = .ok (.iload_n 1, 1) := by decide +kernel
theorem d_K_advance_56 : decode b_K_advance 56 = .ok (.ifCond .lt 7, 3) := by decide +kernel
theorem d_K_advance_59 : decode b_K_advance 59 = .ok (.iconst 1, 1) := by decide +kernel
theorem d_K_advance_60 : decode b_K_advance 60 = .ok (.goto 4, 3) := by decide +kernel
theorem d_K_advance_63 : decode b_K_advance 63 = .ok (.iconst 0, 1) := by decide +kernel
theorem d_K_advance_64 : decode b_K_advance 64 = .ok (.ireturn, 1) := by decide +kernel
abbrev rm_K_advance : Room := { frames := 0, cells := 0, slots := 0, locals := 0 }
def f_K_advance_41 (x1 : Int32) (M : Mem) : Option (Int32 × Mem) :=
  if x1 < 0 then if x1 < 0 then some ((0 : Int32), M) else some ((1 : Int32), M) else gd (inb x1 5) (gd (inb x1 5) (if x1 < 0 then some ((0 : Int32), ms M 18 x1.toNatClampNeg ((M 18 x1.toNatClampNeg) + (1 : Int32))) else some ((1 : Int32), ms M 18 x1.toNatClampNeg ((M 18 x1.toNatClampNeg) + (1 : Int32)))))
set_option maxRecDepth 100000 in
theorem g_K_advance_41 {r : Int32} {M' : Mem} (C : GC p s m args meth c b_K_advance 2 (some (FieldType.boolean)) "NoneWordsModel" TB D vwCl (tysW cI cZ cC) A Z) {x1 : Int32} {M : Mem} (hf : f_K_advance_41 x1 M = some (r, M')) : GW p l e rm_K_advance s m args below meth c (MQ below (QW D vwCl (tysW cI cZ cC) A (some (.int r)) (wk ad cI cZ cC M')) args s 0 0 A) D vwCl A 2 0 0 (wk ad cI cZ cC M) 41 [(0, .ref (ad 0)), (1, .int x1)] [] := by
  unfold f_K_advance_41 at hf
  refine gw_iload_n C 1 d_K_advance_41 rfl rfl ?_
  refine gw_if_lt (tgt := 55) C d_K_advance_42 (by decide) (fun c => ?_) (fun c => ?_)
  · have hf := (if_pos c).symm.trans hf
    refine gw_iload_n C 1 d_K_advance_55 rfl rfl ?_
    refine gw_if_lt (tgt := 63) C d_K_advance_56 (by decide) (fun c => ?_) (fun c => ?_)
    · have hf := (if_pos c).symm.trans hf
      refine gw_iconst (v := (0 : Int32)) C d_K_advance_63 (by decide) ?_
      exact gw_zreti C d_K_advance_64 (wk ad cI cZ cC) (by decide) hf
    · have hf := (if_neg c).symm.trans hf
      refine gw_iconst (v := (1 : Int32)) C d_K_advance_59 (by decide) ?_
      refine gw_goto (tgt := 64) C d_K_advance_60 (by decide) ?_
      exact gw_zreti C d_K_advance_64 (wk ad cI cZ cC) (by decide) hf
  · have hf := (if_neg c).symm.trans hf
    refine gw_aload_n C 0 d_K_advance_45 rfl rfl ?_
    refine gw_get C in_K 0 wkg_0 clg_5 24 (by decide) tw_710 rfl rfl d_K_advance_46 ?_
    refine gw_iload_n C 1 d_K_advance_49 rfl rfl ?_
    refine gw_dup2 C d_K_advance_50 rfl rfl ?_
    obtain ⟨hb51, hf⟩ := gd_some hf
    refine gw_iald C 18 0 wkg_18 rfl hb51 d_K_advance_51 ?_
    refine gw_iconst (v := (1 : Int32)) C d_K_advance_52 (by decide) ?_
    refine gw_iadd C d_K_advance_53 ?_
    obtain ⟨hb54, hf⟩ := gd_some hf
    refine gw_iast C 18 0 wkg_18 rfl hb54 d_K_advance_54 wka_18 ?_
    refine gw_iload_n C 1 d_K_advance_55 rfl rfl ?_
    refine gw_if_lt (tgt := 63) C d_K_advance_56 (by decide) (fun c => ?_) (fun c => ?_)
    · have hf := (if_pos c).symm.trans hf
      refine gw_iconst (v := (0 : Int32)) C d_K_advance_63 (by decide) ?_
      exact gw_zreti C d_K_advance_64 (wk ad cI cZ cC) (by decide) hf
    · have hf := (if_neg c).symm.trans hf
      refine gw_iconst (v := (1 : Int32)) C d_K_advance_59 (by decide) ?_
      refine gw_goto (tgt := 64) C d_K_advance_60 (by decide) ?_
      exact gw_zreti C d_K_advance_64 (wk ad cI cZ cC) (by decide) hf
def f_K_advance_7 : Nat → Int32 → Mem → Option (Int32 × Mem)
  | 0, _, _ => none
  | n + 1, x1, M => if x1 < 0 then f_K_advance_41 x1 M else gd (inb x1 5) (gd (inb x1 5) (if (M 18 x1.toNatClampNeg) = ((M 1 x1.toNatClampNeg) - (1 : Int32)) then gd (inb x1 5) ((f_K_advance_7 n) (x1 + (-1 : Int32)) (ms M 18 x1.toNatClampNeg (-1 : Int32))) else f_K_advance_41 x1 M))
set_option maxRecDepth 100000 in
theorem g_K_advance_7 {r : Int32} {M' : Mem} (C : GC p s m args meth c b_K_advance 2 (some (FieldType.boolean)) "NoneWordsModel" TB D vwCl (tysW cI cZ cC) A Z) : ∀ (n : Nat) (x1 : Int32) (M : Mem), f_K_advance_7 n x1 M = some (r, M') → GW p l e rm_K_advance s m args below meth c (MQ below (QW D vwCl (tysW cI cZ cC) A (some (.int r)) (wk ad cI cZ cC M')) args s 0 0 A) D vwCl A 2 0 0 (wk ad cI cZ cC M) 7 [(0, .ref (ad 0)), (1, .int x1)] [] := by
  intro n
  induction n with
  | zero => intro _ _ hf; cases hf
  | succ n ih =>
    intro x1 M hf
    rw [f_K_advance_7] at hf
    refine gw_iload_n C 1 d_K_advance_7 rfl rfl ?_
    refine gw_if_lt (tgt := 41) C d_K_advance_8 (by decide) (fun c => ?_) (fun c => ?_)
    · have hf := (if_pos c).symm.trans hf
      exact gw_sub [0, 1] rfl (g_K_advance_41 C hf)
    · have hf := (if_neg c).symm.trans hf
      refine gw_aload_n C 0 d_K_advance_11 rfl rfl ?_
      refine gw_get C in_K 0 wkg_0 clg_5 24 (by decide) tw_710 rfl rfl d_K_advance_12 ?_
      refine gw_iload_n C 1 d_K_advance_15 rfl rfl ?_
      obtain ⟨hb16, hf⟩ := gd_some hf
      refine gw_iald C 18 0 wkg_18 rfl hb16 d_K_advance_16 ?_
      refine gw_aload_n C 0 d_K_advance_17 rfl rfl ?_
      refine gw_get C in_K 0 wkg_0 clg_5 1 (by decide) tw_687 rfl rfl d_K_advance_18 ?_
      refine gw_iload_n C 1 d_K_advance_21 rfl rfl ?_
      obtain ⟨hb22, hf⟩ := gd_some hf
      refine gw_iald C 1 0 wkg_1 rfl hb22 d_K_advance_22 ?_
      refine gw_iconst (v := (1 : Int32)) C d_K_advance_23 (by decide) ?_
      refine gw_isub C d_K_advance_24 ?_
      refine gw_icmp_ne (tgt := 41) C d_K_advance_25 (by decide) (fun c => ?_) (fun c => ?_)
      · have hf := (if_neg c).symm.trans hf
        exact gw_sub [0, 1] rfl (g_K_advance_41 C hf)
      · have hf := (if_pos c).symm.trans hf
        refine gw_aload_n C 0 d_K_advance_28 rfl rfl ?_
        refine gw_get C in_K 0 wkg_0 clg_5 24 (by decide) tw_710 rfl rfl d_K_advance_29 ?_
        refine gw_iload_n C 1 d_K_advance_32 rfl rfl ?_
        refine gw_iconst (v := (-1 : Int32)) C d_K_advance_33 (by decide) ?_
        obtain ⟨hb34, hf⟩ := gd_some hf
        refine gw_iast C 18 0 wkg_18 rfl hb34 d_K_advance_34 wka_18 ?_
        refine gw_iinc (v := x1 + (-1 : Int32)) (lv' := [(1, .int (x1 + (-1 : Int32))), (0, .ref (ad 0))]) C 1 d_K_advance_35 rfl rfl (by decide) rfl ?_
        refine gw_goto (tgt := 7) C d_K_advance_38 (by decide) ?_
        exact gw_sub [1, 0] rfl (ih _ _ hf)
def f_K_advance (M : Mem) : Option (Int32 × Mem) :=
  f_K_advance_7 100000 ((M 0 2) - (1 : Int32)) M
set_option maxRecDepth 100000 in
theorem g_K_advance {r : Int32} {M' : Mem} (C : GC p s m args meth c b_K_advance 2 (some (FieldType.boolean)) "NoneWordsModel" TB D vwCl (tysW cI cZ cC) A Z) {M : Mem} (hf : f_K_advance M = some (r, M')) : GW p l e rm_K_advance s m args below meth c (MQ below (QW D vwCl (tysW cI cZ cC) A (some (.int r)) (wk ad cI cZ cC M')) args s 0 0 A) D vwCl A 2 0 0 (wk ad cI cZ cC M) 0 [(0, .ref (ad 0))] [] := by
  unfold f_K_advance at hf
  refine gw_aload_n C 0 d_K_advance_0 rfl rfl ?_
  refine gw_get C in_K 0 wkg_0 clg_5 2 (by decide) tw_688 rfl rfl d_K_advance_1 ?_
  refine gw_iconst (v := (1 : Int32)) C d_K_advance_4 (by decide) ?_
  refine gw_isub C d_K_advance_5 ?_
  refine gw_istore_n (lv' := [(1, .int ((M 0 2) - (1 : Int32))), (0, .ref (ad 0))]) C d_K_advance_6 rfl (by decide) rfl ?_
  exact gw_sub [1, 0] rfl (g_K_advance_7 C _ _ _ hf)
theorem c_K_advance (hZ : gw_ZOK Z) {M : Mem} {r : Int32} {M' : Mem} (hf : f_K_advance M = some (r, M')) : CW l y_K_advance ws_K_advance rm_K_advance D vwCl (tysW cI cZ cC) Z [.ref (ad 0)] (wk ad cI cZ cC M) (some (.int r)) (wk ad cI cZ cC M') 0 0 :=
  CW.ofG hZ (by decide) rfl (Nat.le_of_ble_eq_true rfl) (fun _ _ _ _ _ _ _ _ C _ => g_K_advance C hf)
abbrev b_K_can : ByteArray := prog_7_method_50_code
def y_K_can : MethodName := ⟨"NoneWordsModel", "can", "(I)Z"⟩
abbrev ws_K_can : List Cond := Cond.code y_K_can b_K_can 5 (some (FieldType.boolean)) :: TB
set_option maxRecDepth 100000 in
theorem tc_K_can : Cond.code y_K_can b_K_can 5 (some (FieldType.boolean)) ∈ TB := inTB 984 rfl rfl
theorem mv_K_can : Cond.instanceMethod y_K_can ∈ TB ∧ Cond.selects "NoneWordsModel" y_K_can y_K_can ∈ TB ∧ Cond.initialized "NoneWordsModel" ∈ TB ∧ Cond.code y_K_can b_K_can 5 (some (FieldType.boolean)) ∈ TB := ⟨inTB 983 (by decide +kernel) (by decide +kernel), inTB 61 (by decide +kernel) (by decide +kernel), inTB 71 (by decide +kernel) (by decide +kernel), tc_K_can⟩
theorem pd_K_can : y_K_can.cls = "NoneWordsModel" ∧ y_K_can.cls ≠ "java/lang/invoke/MethodHandle" ∧ y_K_can.cls ≠ "java/lang/invoke/VarHandle" ∧ (parseMethodDescriptor y_K_can.desc).map (fun d => d.parameters.length) = some 1 := by decide +kernel
theorem d_K_can_0 : decode b_K_can 0 = .ok (.iconst 0, 1) := by decide +kernel
theorem d_K_can_1 : decode b_K_can 1 = .ok (.istore_n 2, 1) := by decide +kernel
theorem d_K_can_2 : decode b_K_can 2 = .ok (.iload_n 2, 1) := by decide +kernel
theorem d_K_can_3 : decode b_K_can 3 = .ok (.iconst 5, 1) := by decide +kernel
theorem d_K_can_4 : decode b_K_can 4 = .ok (.if_icmp .ge 16, 3) := by decide +kernel
theorem d_K_can_7 : decode b_K_can 7 = .ok (.aload_n 0, 1) := by decide +kernel
theorem d_K_can_8 : decode b_K_can 8 = .ok (.getfield 63, 3) := by decide +kernel
theorem d_K_can_11 : decode b_K_can 11 = .ok (.iload_n 2, 1) := by decide +kernel
theorem d_K_can_12 : decode b_K_can 12 = .ok (.iconst (-1), 1) := by decide +kernel
theorem d_K_can_13 : decode b_K_can 13 = .ok (.iastore, 1) := by decide +kernel
theorem d_K_can_14 : decode b_K_can 14 = .ok (.iinc 2 1, 3) := by decide +kernel
theorem d_K_can_17 : decode b_K_can 17 = .ok (.goto (-15), 3) := by decide +kernel
theorem d_K_can_20 : decode b_K_can 20 = .ok (.iconst 1, 1) := by decide +kernel
theorem d_K_can_21 : decode b_K_can 21 = .ok (.istore_n 2, 1) := by decide +kernel
theorem d_K_can_22 : decode b_K_can 22 = .ok (.iload_n 2, 1) := by decide +kernel
theorem d_K_can_23 : decode b_K_can 23 = .ok (.ifCond .eq 83, 3) := by decide +kernel
theorem d_K_can_26 : decode b_K_can 26 = .ok (.iconst 1, 1) := by decide +kernel
theorem d_K_can_27 : decode b_K_can 27 = .ok (.istore_n 3, 1) := by decide +kernel
theorem d_K_can_28 : decode b_K_can 28 = .ok (.iconst 0, 1) := by decide +kernel
theorem d_K_can_29 : decode b_K_can 29 = .ok (.istore 4, 2) := by decide +kernel
theorem d_K_can_31 : decode b_K_can 31 = .ok (.iload 4, 2) := by decide +kernel
theorem d_K_can_33 : decode b_K_can 33 = .ok (.aload_n 0, 1) := by decide +kernel
theorem d_K_can_34 : decode b_K_can 34 = .ok (.getfield 79, 3) := by decide +kernel
theorem d_K_can_37 : decode b_K_can 37 = .ok (.if_icmp .ge 55, 3) := by decide +kernel
theorem d_K_can_40 : decode b_K_can 40 = .ok (.iload_n 3, 1) := by decide +kernel
theorem d_K_can_41 : decode b_K_can 41 = .ok (.ifCond .eq 51, 3) := by decide +kernel
theorem d_K_can_44 : decode b_K_can 44 = .ok (.aload_n 0, 1) := by decide +kernel
theorem d_K_can_45 : decode b_K_can 45 = .ok (.getfield 13, 3) := by decide +kernel
theorem d_K_can_48 : decode b_K_can 48 = .ok (.iload 4, 2) := by decide +kernel
theorem d_K_can_50 : decode b_K_can 50 = .ok (.iaload, 1) := by decide +kernel
theorem d_K_can_51 : decode b_K_can 51 = .ok (.iconst 4, 1) := by decide +kernel
theorem d_K_can_52 : decode b_K_can 52 = .ok (.if_icmp .eq 28, 3) := by decide +kernel
theorem d_K_can_55 : decode b_K_can 55 = .ok (.aload_n 0, 1) := by decide +kernel
theorem d_K_can_56 : decode b_K_can 56 = .ok (.getfield 66, 3) := by decide +kernel
theorem d_K_can_59 : decode b_K_can 59 = .ok (.iload 4, 2) := by decide +kernel
theorem d_K_can_61 : decode b_K_can 61 = .ok (.baload, 1) := by decide +kernel
theorem d_K_can_62 : decode b_K_can 62 = .ok (.ifCond .ne 18, 3) := by decide +kernel
theorem d_K_can_65 : decode b_K_can 65 = .ok (.iload 4, 2) := by decide +kernel
theorem d_K_can_67 : decode b_K_can 67 = .ok (.iload_n 1, 1) := by decide +kernel
theorem d_K_can_68 : decode b_K_can 68 = .ok (.if_icmp .eq 12, 3) := by decide +kernel
theorem d_K_can_71 : decode b_K_can 71 = .ok (.aload_n 0, 1) := by decide +kernel
theorem d_K_can_72 : decode b_K_can 72 = .ok (.iload 4, 2) := by decide +kernel
theorem d_K_can_74 : decode b_K_can 74 = .ok (.invokevirtual 258, 3) := by decide +kernel
theorem d_K_can_77 : decode b_K_can 77 = .ok (.ifCond .eq 7, 3) := by decide +kernel
theorem d_K_can_80 : decode b_K_can 80 = .ok (.iconst 1, 1) := by decide +kernel
theorem d_K_can_81 : decode b_K_can 81 = .ok (.goto 4, 3) := by decide +kernel
theorem d_K_can_84 : decode b_K_can 84 = .ok (.iconst 0, 1) := by decide +kernel
theorem d_K_can_85 : decode b_K_can 85 = .ok (.istore_n 3, 1) := by decide +kernel
theorem d_K_can_86 : decode b_K_can 86 = .ok (.iinc 4 1, 3) := by decide +kernel
theorem d_K_can_89 : decode b_K_can 89 = .ok (.goto (-58), 3) := by decide +kernel
theorem d_K_can_92 : decode b_K_can 92 = .ok (.iload_n 3, 1) := by decide +kernel
theorem d_K_can_93 : decode b_K_can 93 = .ok (.ifCond .eq 5, 3) := by decide +kernel
theorem d_K_can_96 : decode b_K_can 96 = .ok (.iconst 1, 1) := by decide +kernel
theorem d_K_can_97 : decode b_K_can 97 = .ok (.ireturn, 1) := by decide +kernel
theorem d_K_can_98 : decode b_K_can 98 = .ok (.aload_n 0, 1) := by decide +kernel
theorem d_K_can_99 : decode b_K_can 99 = .ok (.invokevirtual 261, 3) := by decide +kernel
theorem d_K_can_102 : decode b_K_can 102 = .ok (.istore_n 2, 1) := by decide +kernel
theorem d_K_can_103 : decode b_K_can 103 = .ok (.goto (-81), 3) := by decide +kernel
theorem d_K_can_106 : decode b_K_can 106 = .ok (.iconst 0, 1) := by decide +kernel
theorem d_K_can_107 : decode b_K_can 107 = .ok (.ireturn, 1) := by decide +kernel
abbrev rm_K_can : Room := { frames := 3, cells := 0, slots := 0, locals := 67 }
def f_K_can_92 (k22 : Int32 → Int32 → Mem → Option (Int32 × Mem)) (x1 : Int32) (x3 : Int32) (M : Mem) : Option (Int32 × Mem) :=
  if x3 = 0 then ob (f_K_advance M) fun r99 M99 => k22 x1 r99 M99 else some ((1 : Int32), M)
set_option maxRecDepth 100000 in
theorem g_K_can_92 {r : Int32} {M' : Mem} (C : GC p s m args meth c b_K_can 5 (some (FieldType.boolean)) "NoneWordsModel" TB D vwCl (tysW cI cZ cC) A Z) {k22 : Int32 → Int32 → Mem → Option (Int32 × Mem)} (hk22 : ∀ (x1 : Int32) (x2 : Int32) (M : Mem), k22 x1 x2 M = some (r, M') → GW p l e rm_K_can s m args below meth c (MQ below (QW D vwCl (tysW cI cZ cC) A (some (.int r)) (wk ad cI cZ cC M')) args s 0 0 A) D vwCl A 5 0 0 (wk ad cI cZ cC M) 22 [(0, .ref (ad 0)), (1, .int x1), (2, .int x2)] []) {x1 : Int32} {x3 : Int32} {M : Mem} (hf : f_K_can_92 k22 x1 x3 M = some (r, M')) : GW p l e rm_K_can s m args below meth c (MQ below (QW D vwCl (tysW cI cZ cC) A (some (.int r)) (wk ad cI cZ cC M')) args s 0 0 A) D vwCl A 5 0 0 (wk ad cI cZ cC M) 92 [(0, .ref (ad 0)), (1, .int x1), (3, .int x3)] [] := by
  unfold f_K_can_92 at hf
  refine gw_iload_n C 2 d_K_can_92 rfl rfl ?_
  refine gw_if_eq (tgt := 98) C d_K_can_93 (by decide) (fun c => ?_) (fun c => ?_)
  · have hf := (if_pos c).symm.trans hf
    refine gw_aload_n C 0 d_K_can_98 rfl rfl ?_
    obtain ⟨r99, M99, hc99, hf⟩ := ob_some hf
    refine gw_callVr (rest := []) C 0 wkg_0 clg_5 (c_K_advance C.2.2.2.2.2.2.2.2.2.2 hc99) (cwV 0 C.2.2.2.2.1 (gTB_V tw_989 mv_K_advance) rfl rfl rfl pd_K_advance ⟨Nat.le_of_ble_eq_true rfl, Nat.le_of_ble_eq_true rfl⟩) rfl rfl (Nat.le_of_ble_eq_true rfl) d_K_can_99 ⟨Nat.le_of_ble_eq_true rfl, Nat.le_of_ble_eq_true rfl⟩ ?_
    refine gw_istore_n (lv' := [(2, .int r99), (0, .ref (ad 0)), (1, .int x1), (3, .int x3)]) C d_K_can_102 rfl (by decide) rfl ?_
    refine gw_goto (tgt := 22) C d_K_can_103 (by decide) ?_
    exact gw_sub [1, 2, 0] rfl (hk22 _ _ _ hf)
  · have hf := (if_neg c).symm.trans hf
    refine gw_iconst (v := (1 : Int32)) C d_K_can_96 (by decide) ?_
    exact gw_zreti C d_K_can_97 (wk ad cI cZ cC) (by decide) hf
def f_K_can_31 (k22 : Int32 → Int32 → Mem → Option (Int32 × Mem)) : Nat → Int32 → Int32 → Int32 → Mem → Option (Int32 × Mem)
  | 0, _, _, _, _ => none
  | n + 1, x1, x3, x4, M => if (M 0 3) ≤ x4 then f_K_can_92 k22 x1 x3 M else if x3 = 0 then f_K_can_92 k22 x1 x3 M else gd (inb x4 120) (if (M 2 x4.toNatClampNeg) = (4 : Int32) then (f_K_can_31 k22 n) x1 (1 : Int32) (x4 + (1 : Int32)) M else gd (inb x4 120) (if (M 19 x4.toNatClampNeg) = 0 then if x4 = x1 then (f_K_can_31 k22 n) x1 (1 : Int32) (x4 + (1 : Int32)) M else ob (f_K_isKept x4 M) fun r74 M74 => if r74 = 0 then (f_K_can_31 k22 n) x1 (0 : Int32) (x4 + (1 : Int32)) M74 else (f_K_can_31 k22 n) x1 (1 : Int32) (x4 + (1 : Int32)) M74 else (f_K_can_31 k22 n) x1 (1 : Int32) (x4 + (1 : Int32)) M))
set_option maxRecDepth 100000 in
theorem g_K_can_31 {r : Int32} {M' : Mem} (C : GC p s m args meth c b_K_can 5 (some (FieldType.boolean)) "NoneWordsModel" TB D vwCl (tysW cI cZ cC) A Z) {k22 : Int32 → Int32 → Mem → Option (Int32 × Mem)} (hk22 : ∀ (x1 : Int32) (x2 : Int32) (M : Mem), k22 x1 x2 M = some (r, M') → GW p l e rm_K_can s m args below meth c (MQ below (QW D vwCl (tysW cI cZ cC) A (some (.int r)) (wk ad cI cZ cC M')) args s 0 0 A) D vwCl A 5 0 0 (wk ad cI cZ cC M) 22 [(0, .ref (ad 0)), (1, .int x1), (2, .int x2)] []) : ∀ (n : Nat) (x1 : Int32) (x3 : Int32) (x4 : Int32) (M : Mem), f_K_can_31 k22 n x1 x3 x4 M = some (r, M') → GW p l e rm_K_can s m args below meth c (MQ below (QW D vwCl (tysW cI cZ cC) A (some (.int r)) (wk ad cI cZ cC M')) args s 0 0 A) D vwCl A 5 0 0 (wk ad cI cZ cC M) 31 [(0, .ref (ad 0)), (1, .int x1), (3, .int x3), (4, .int x4)] [] := by
  intro n
  induction n with
  | zero => intro _ _ _ _ hf; cases hf
  | succ n ih =>
    intro x1 x3 x4 M hf
    rw [f_K_can_31] at hf
    refine gw_iload C 3 d_K_can_31 rfl ?_
    refine gw_aload_n C 0 d_K_can_33 rfl rfl ?_
    refine gw_get C in_K 0 wkg_0 clg_5 3 (by decide) tw_689 rfl rfl d_K_can_34 ?_
    refine gw_icmp_ge (tgt := 92) C d_K_can_37 (by decide) (fun c => ?_) (fun c => ?_)
    · have hf := (if_pos c).symm.trans hf
      exact gw_sub [0, 1, 2] rfl (g_K_can_92 C hk22 hf)
    · have hf := (if_neg c).symm.trans hf
      refine gw_iload_n C 2 d_K_can_40 rfl rfl ?_
      refine gw_if_eq (tgt := 92) C d_K_can_41 (by decide) (fun c => ?_) (fun c => ?_)
      · have hf := (if_pos c).symm.trans hf
        exact gw_sub [0, 1, 2] rfl (g_K_can_92 C hk22 hf)
      · have hf := (if_neg c).symm.trans hf
        refine gw_aload_n C 0 d_K_can_44 rfl rfl ?_
        refine gw_get C in_K 0 wkg_0 clg_5 4 (by decide) tw_690 rfl rfl d_K_can_45 ?_
        refine gw_iload C 3 d_K_can_48 rfl ?_
        obtain ⟨hb50, hf⟩ := gd_some hf
        refine gw_iald C 2 0 wkg_2 rfl hb50 d_K_can_50 ?_
        refine gw_iconst (v := (4 : Int32)) C d_K_can_51 (by decide) ?_
        refine gw_icmp_eq (tgt := 80) C d_K_can_52 (by decide) (fun c => ?_) (fun c => ?_)
        · have hf := (if_pos c).symm.trans hf
          refine gw_iconst (v := (1 : Int32)) C d_K_can_80 (by decide) ?_
          refine gw_goto (tgt := 85) C d_K_can_81 (by decide) ?_
          refine gw_istore_n (lv' := [(3, .int (1 : Int32)), (0, .ref (ad 0)), (1, .int x1), (4, .int x4)]) C d_K_can_85 rfl (by decide) rfl ?_
          refine gw_iinc (v := x4 + (1 : Int32)) (lv' := [(4, .int (x4 + (1 : Int32))), (3, .int (1 : Int32)), (0, .ref (ad 0)), (1, .int x1)]) C 3 d_K_can_86 rfl rfl (by decide) rfl ?_
          refine gw_goto (tgt := 31) C d_K_can_89 (by decide) ?_
          exact gw_sub [2, 3, 1, 0] rfl (ih _ _ _ _ hf)
        · have hf := (if_neg c).symm.trans hf
          refine gw_aload_n C 0 d_K_can_55 rfl rfl ?_
          refine gw_get C in_K 0 wkg_0 clg_5 25 (by decide) tw_711 rfl rfl d_K_can_56 ?_
          refine gw_iload C 3 d_K_can_59 rfl ?_
          obtain ⟨hb61, hf⟩ := gd_some hf
          refine gw_zald C 19 1 wkg_19 rfl hb61 d_K_can_61 ?_
          refine gw_if_ne (tgt := 80) C d_K_can_62 (by decide) (fun c => ?_) (fun c => ?_)
          · have hf := (if_neg c).symm.trans hf
            refine gw_iconst (v := (1 : Int32)) C d_K_can_80 (by decide) ?_
            refine gw_goto (tgt := 85) C d_K_can_81 (by decide) ?_
            refine gw_istore_n (lv' := [(3, .int (1 : Int32)), (0, .ref (ad 0)), (1, .int x1), (4, .int x4)]) C d_K_can_85 rfl (by decide) rfl ?_
            refine gw_iinc (v := x4 + (1 : Int32)) (lv' := [(4, .int (x4 + (1 : Int32))), (3, .int (1 : Int32)), (0, .ref (ad 0)), (1, .int x1)]) C 3 d_K_can_86 rfl rfl (by decide) rfl ?_
            refine gw_goto (tgt := 31) C d_K_can_89 (by decide) ?_
            exact gw_sub [2, 3, 1, 0] rfl (ih _ _ _ _ hf)
          · have hf := (if_pos c).symm.trans hf
            refine gw_iload C 3 d_K_can_65 rfl ?_
            refine gw_iload_n C 1 d_K_can_67 rfl rfl ?_
            refine gw_icmp_eq (tgt := 80) C d_K_can_68 (by decide) (fun c => ?_) (fun c => ?_)
            · have hf := (if_pos c).symm.trans hf
              refine gw_iconst (v := (1 : Int32)) C d_K_can_80 (by decide) ?_
              refine gw_goto (tgt := 85) C d_K_can_81 (by decide) ?_
              refine gw_istore_n (lv' := [(3, .int (1 : Int32)), (0, .ref (ad 0)), (1, .int x1), (4, .int x4)]) C d_K_can_85 rfl (by decide) rfl ?_
              refine gw_iinc (v := x4 + (1 : Int32)) (lv' := [(4, .int (x4 + (1 : Int32))), (3, .int (1 : Int32)), (0, .ref (ad 0)), (1, .int x1)]) C 3 d_K_can_86 rfl rfl (by decide) rfl ?_
              refine gw_goto (tgt := 31) C d_K_can_89 (by decide) ?_
              exact gw_sub [2, 3, 1, 0] rfl (ih _ _ _ _ hf)
            · have hf := (if_neg c).symm.trans hf
              refine gw_aload_n C 0 d_K_can_71 rfl rfl ?_
              refine gw_iload C 3 d_K_can_72 rfl ?_
              obtain ⟨r74, M74, hc74, hf⟩ := ob_some hf
              refine gw_callVr (rest := []) C 0 wkg_0 clg_5 (c_K_isKept C.2.2.2.2.2.2.2.2.2.2 hc74) (cwV 1 C.2.2.2.2.1 (gTB_V tw_985 mv_K_isKept) rfl rfl rfl pd_K_isKept ⟨Nat.le_of_ble_eq_true rfl, Nat.le_of_ble_eq_true rfl⟩) rfl rfl (Nat.le_of_ble_eq_true rfl) d_K_can_74 ⟨Nat.le_of_ble_eq_true rfl, Nat.le_of_ble_eq_true rfl⟩ ?_
              refine gw_if_eq (tgt := 84) C d_K_can_77 (by decide) (fun c => ?_) (fun c => ?_)
              · have hf := (if_pos c).symm.trans hf
                refine gw_iconst (v := (0 : Int32)) C d_K_can_84 (by decide) ?_
                refine gw_istore_n (lv' := [(3, .int (0 : Int32)), (0, .ref (ad 0)), (1, .int x1), (4, .int x4)]) C d_K_can_85 rfl (by decide) rfl ?_
                refine gw_iinc (v := x4 + (1 : Int32)) (lv' := [(4, .int (x4 + (1 : Int32))), (3, .int (0 : Int32)), (0, .ref (ad 0)), (1, .int x1)]) C 3 d_K_can_86 rfl rfl (by decide) rfl ?_
                refine gw_goto (tgt := 31) C d_K_can_89 (by decide) ?_
                exact gw_sub [2, 3, 1, 0] rfl (ih _ _ _ _ hf)
              · have hf := (if_neg c).symm.trans hf
                refine gw_iconst (v := (1 : Int32)) C d_K_can_80 (by decide) ?_
                refine gw_goto (tgt := 85) C d_K_can_81 (by decide) ?_
                refine gw_istore_n (lv' := [(3, .int (1 : Int32)), (0, .ref (ad 0)), (1, .int x1), (4, .int x4)]) C d_K_can_85 rfl (by decide) rfl ?_
                refine gw_iinc (v := x4 + (1 : Int32)) (lv' := [(4, .int (x4 + (1 : Int32))), (3, .int (1 : Int32)), (0, .ref (ad 0)), (1, .int x1)]) C 3 d_K_can_86 rfl rfl (by decide) rfl ?_
                refine gw_goto (tgt := 31) C d_K_can_89 (by decide) ?_
                exact gw_sub [2, 3, 1, 0] rfl (ih _ _ _ _ hf)
def f_K_can_22 : Nat → Int32 → Int32 → Mem → Option (Int32 × Mem)
  | 0, _, _, _ => none
  | n + 1, x1, x2, M => if x2 = 0 then some ((0 : Int32), M) else f_K_can_31 (f_K_can_22 n) 100000 x1 (1 : Int32) (0 : Int32) M
set_option maxRecDepth 100000 in
theorem g_K_can_22 {r : Int32} {M' : Mem} (C : GC p s m args meth c b_K_can 5 (some (FieldType.boolean)) "NoneWordsModel" TB D vwCl (tysW cI cZ cC) A Z) : ∀ (n : Nat) (x1 : Int32) (x2 : Int32) (M : Mem), f_K_can_22 n x1 x2 M = some (r, M') → GW p l e rm_K_can s m args below meth c (MQ below (QW D vwCl (tysW cI cZ cC) A (some (.int r)) (wk ad cI cZ cC M')) args s 0 0 A) D vwCl A 5 0 0 (wk ad cI cZ cC M) 22 [(0, .ref (ad 0)), (1, .int x1), (2, .int x2)] [] := by
  intro n
  induction n with
  | zero => intro _ _ _ hf; cases hf
  | succ n ih =>
    intro x1 x2 M hf
    rw [f_K_can_22] at hf
    refine gw_iload_n C 2 d_K_can_22 rfl rfl ?_
    refine gw_if_eq (tgt := 106) C d_K_can_23 (by decide) (fun c => ?_) (fun c => ?_)
    · have hf := (if_pos c).symm.trans hf
      refine gw_iconst (v := (0 : Int32)) C d_K_can_106 (by decide) ?_
      exact gw_zreti C d_K_can_107 (wk ad cI cZ cC) (by decide) hf
    · have hf := (if_neg c).symm.trans hf
      refine gw_iconst (v := (1 : Int32)) C d_K_can_26 (by decide) ?_
      refine gw_istore_n (lv' := [(3, .int (1 : Int32)), (0, .ref (ad 0)), (1, .int x1), (2, .int x2)]) C d_K_can_27 rfl (by decide) rfl ?_
      refine gw_iconst (v := (0 : Int32)) C d_K_can_28 (by decide) ?_
      refine gw_istore (lv' := [(4, .int (0 : Int32)), (3, .int (1 : Int32)), (0, .ref (ad 0)), (1, .int x1), (2, .int x2)]) C d_K_can_29 (by decide) rfl ?_
      exact gw_sub [2, 3, 1, 0] rfl (g_K_can_31 C ih _ _ _ _ _ hf)
def f_K_can_2 : Nat → Int32 → Int32 → Mem → Option (Int32 × Mem)
  | 0, _, _, _ => none
  | n + 1, x1, x2, M => if (5 : Int32) ≤ x2 then f_K_can_22 100000 x1 (1 : Int32) M else gd (inb x2 5) ((f_K_can_2 n) x1 (x2 + (1 : Int32)) (ms M 18 x2.toNatClampNeg (-1 : Int32)))
set_option maxRecDepth 100000 in
theorem g_K_can_2 {r : Int32} {M' : Mem} (C : GC p s m args meth c b_K_can 5 (some (FieldType.boolean)) "NoneWordsModel" TB D vwCl (tysW cI cZ cC) A Z) : ∀ (n : Nat) (x1 : Int32) (x2 : Int32) (M : Mem), f_K_can_2 n x1 x2 M = some (r, M') → GW p l e rm_K_can s m args below meth c (MQ below (QW D vwCl (tysW cI cZ cC) A (some (.int r)) (wk ad cI cZ cC M')) args s 0 0 A) D vwCl A 5 0 0 (wk ad cI cZ cC M) 2 [(0, .ref (ad 0)), (1, .int x1), (2, .int x2)] [] := by
  intro n
  induction n with
  | zero => intro _ _ _ hf; cases hf
  | succ n ih =>
    intro x1 x2 M hf
    rw [f_K_can_2] at hf
    refine gw_iload_n C 2 d_K_can_2 rfl rfl ?_
    refine gw_iconst (v := (5 : Int32)) C d_K_can_3 (by decide) ?_
    refine gw_icmp_ge (tgt := 20) C d_K_can_4 (by decide) (fun c => ?_) (fun c => ?_)
    · have hf := (if_pos c).symm.trans hf
      refine gw_iconst (v := (1 : Int32)) C d_K_can_20 (by decide) ?_
      refine gw_istore_n (lv' := [(2, .int (1 : Int32)), (0, .ref (ad 0)), (1, .int x1)]) C d_K_can_21 rfl (by decide) rfl ?_
      exact gw_sub [1, 2, 0] rfl (g_K_can_22 C _ _ _ _ hf)
    · have hf := (if_neg c).symm.trans hf
      refine gw_aload_n C 0 d_K_can_7 rfl rfl ?_
      refine gw_get C in_K 0 wkg_0 clg_5 24 (by decide) tw_710 rfl rfl d_K_can_8 ?_
      refine gw_iload_n C 2 d_K_can_11 rfl rfl ?_
      refine gw_iconst (v := (-1 : Int32)) C d_K_can_12 (by decide) ?_
      obtain ⟨hb13, hf⟩ := gd_some hf
      refine gw_iast C 18 0 wkg_18 rfl hb13 d_K_can_13 wka_18 ?_
      refine gw_iinc (v := x2 + (1 : Int32)) (lv' := [(2, .int (x2 + (1 : Int32))), (0, .ref (ad 0)), (1, .int x1)]) C 2 d_K_can_14 rfl rfl (by decide) rfl ?_
      refine gw_goto (tgt := 2) C d_K_can_17 (by decide) ?_
      exact gw_sub [1, 2, 0] rfl (ih _ _ _ hf)
def f_K_can (x1 : Int32) (M : Mem) : Option (Int32 × Mem) :=
  f_K_can_2 100000 x1 (0 : Int32) M
set_option maxRecDepth 100000 in
theorem g_K_can {r : Int32} {M' : Mem} (C : GC p s m args meth c b_K_can 5 (some (FieldType.boolean)) "NoneWordsModel" TB D vwCl (tysW cI cZ cC) A Z) {x1 : Int32} {M : Mem} (hf : f_K_can x1 M = some (r, M')) : GW p l e rm_K_can s m args below meth c (MQ below (QW D vwCl (tysW cI cZ cC) A (some (.int r)) (wk ad cI cZ cC M')) args s 0 0 A) D vwCl A 5 0 0 (wk ad cI cZ cC M) 0 [(0, .ref (ad 0)), (1, .int x1)] [] := by
  unfold f_K_can at hf
  refine gw_iconst (v := (0 : Int32)) C d_K_can_0 (by decide) ?_
  refine gw_istore_n (lv' := [(2, .int (0 : Int32)), (0, .ref (ad 0)), (1, .int x1)]) C d_K_can_1 rfl (by decide) rfl ?_
  exact gw_sub [1, 2, 0] rfl (g_K_can_2 C _ _ _ _ hf)
theorem c_K_can (hZ : gw_ZOK Z) {x1 : Int32} {M : Mem} {r : Int32} {M' : Mem} (hf : f_K_can x1 M = some (r, M')) : CW l y_K_can ws_K_can rm_K_can D vwCl (tysW cI cZ cC) Z [.ref (ad 0), .int x1] (wk ad cI cZ cC M) (some (.int r)) (wk ad cI cZ cC M') 0 0 :=
  CW.ofG hZ (by decide) rfl (Nat.le_of_ble_eq_true rfl) (fun _ _ _ _ _ _ _ _ C _ => g_K_can C hf)
abbrev b_K_none : ByteArray := prog_7_method_51_code
def y_K_none : MethodName := ⟨"NoneWordsModel", "none", "()V"⟩
abbrev ws_K_none : List Cond := Cond.code y_K_none b_K_none 2 (none) :: TB
set_option maxRecDepth 100000 in
theorem tc_K_none : Cond.code y_K_none b_K_none 2 (none) ∈ TB := inTB 980 rfl rfl
theorem mv_K_none : Cond.instanceMethod y_K_none ∈ TB ∧ Cond.selects "NoneWordsModel" y_K_none y_K_none ∈ TB ∧ Cond.initialized "NoneWordsModel" ∈ TB ∧ Cond.code y_K_none b_K_none 2 (none) ∈ TB := ⟨inTB 979 (by decide +kernel) (by decide +kernel), inTB 60 (by decide +kernel) (by decide +kernel), inTB 71 (by decide +kernel) (by decide +kernel), tc_K_none⟩
theorem pd_K_none : y_K_none.cls = "NoneWordsModel" ∧ y_K_none.cls ≠ "java/lang/invoke/MethodHandle" ∧ y_K_none.cls ≠ "java/lang/invoke/VarHandle" ∧ (parseMethodDescriptor y_K_none.desc).map (fun d => d.parameters.length) = some 0 := by decide +kernel
theorem d_K_none_0 : decode b_K_none 0 = .ok (.iconst 0, 1) := by decide +kernel
theorem d_K_none_1 : decode b_K_none 1 = .ok (.istore_n 1, 1) := by decide +kernel
theorem d_K_none_2 : decode b_K_none 2 = .ok (.iload_n 1, 1) := by decide +kernel
theorem d_K_none_3 : decode b_K_none 3 = .ok (.bipush 120, 2) := by decide +kernel
theorem d_K_none_5 : decode b_K_none 5 = .ok (.if_icmp .ge 16, 3) := by decide +kernel
theorem d_K_none_8 : decode b_K_none 8 = .ok (.aload_n 0, 1) := by decide +kernel
theorem d_K_none_9 : decode b_K_none 9 = .ok (.getfield 66, 3) := by decide +kernel
theorem d_K_none_12 : decode b_K_none 12 = .ok (.iload_n 1, 1) := by decide +kernel
theorem d_K_none_13 : decode b_K_none 13 = .ok (.iconst 0, 1) := by decide +kernel
theorem d_K_none_14 : decode b_K_none 14 = .ok (.bastore, 1) := by decide +kernel
theorem d_K_none_15 : decode b_K_none 15 = .ok (.iinc 1 1, 3) := by decide +kernel
theorem d_K_none_18 : decode b_K_none 18 = .ok (.goto (-16), 3) := by decide +kernel
theorem d_K_none_21 : decode b_K_none 21 = .ok (.return_, 1) := by decide +kernel
abbrev rm_K_none : Room := { frames := 0, cells := 0, slots := 0, locals := 0 }
def f_K_none_2 : Nat → Int32 → Mem → Option Mem
  | 0, _, _ => none
  | n + 1, x1, M => if (120 : Int32) ≤ x1 then some M else gd (inb x1 120) ((f_K_none_2 n) (x1 + (1 : Int32)) (ms M 19 x1.toNatClampNeg (vp_nar .boolean (0 : Int32))))
set_option maxRecDepth 100000 in
theorem g_K_none_2 {M' : Mem} (C : GC p s m args meth c b_K_none 2 (none) "NoneWordsModel" TB D vwCl (tysW cI cZ cC) A Z) : ∀ (n : Nat) (x1 : Int32) (M : Mem), f_K_none_2 n x1 M = some M' → GW p l e rm_K_none s m args below meth c (MQ below (QW D vwCl (tysW cI cZ cC) A none (wk ad cI cZ cC M')) args s 0 0 A) D vwCl A 2 0 0 (wk ad cI cZ cC M) 2 [(0, .ref (ad 0)), (1, .int x1)] [] := by
  intro n
  induction n with
  | zero => intro _ _ hf; cases hf
  | succ n ih =>
    intro x1 M hf
    rw [f_K_none_2] at hf
    refine gw_iload_n C 1 d_K_none_2 rfl rfl ?_
    refine gw_bipush (v := (120 : Int32)) C d_K_none_3 (by decide) ?_
    refine gw_icmp_ge (tgt := 21) C d_K_none_5 (by decide) (fun c => ?_) (fun c => ?_)
    · have hf := (if_pos c).symm.trans hf
      exact gw_vreti C d_K_none_21 (wk ad cI cZ cC) hf
    · have hf := (if_neg c).symm.trans hf
      refine gw_aload_n C 0 d_K_none_8 rfl rfl ?_
      refine gw_get C in_K 0 wkg_0 clg_5 25 (by decide) tw_711 rfl rfl d_K_none_9 ?_
      refine gw_iload_n C 1 d_K_none_12 rfl rfl ?_
      refine gw_iconst (v := (0 : Int32)) C d_K_none_13 (by decide) ?_
      obtain ⟨hb14, hf⟩ := gd_some hf
      refine gw_zast C 19 1 wkg_19 rfl hb14 d_K_none_14 wka_19 ?_
      refine gw_iinc (v := x1 + (1 : Int32)) (lv' := [(1, .int (x1 + (1 : Int32))), (0, .ref (ad 0))]) C 1 d_K_none_15 rfl rfl (by decide) rfl ?_
      refine gw_goto (tgt := 2) C d_K_none_18 (by decide) ?_
      exact gw_sub [1, 0] rfl (ih _ _ hf)
def f_K_none (M : Mem) : Option Mem :=
  f_K_none_2 100000 (0 : Int32) M
set_option maxRecDepth 100000 in
theorem g_K_none {M' : Mem} (C : GC p s m args meth c b_K_none 2 (none) "NoneWordsModel" TB D vwCl (tysW cI cZ cC) A Z) {M : Mem} (hf : f_K_none M = some M') : GW p l e rm_K_none s m args below meth c (MQ below (QW D vwCl (tysW cI cZ cC) A none (wk ad cI cZ cC M')) args s 0 0 A) D vwCl A 2 0 0 (wk ad cI cZ cC M) 0 [(0, .ref (ad 0))] [] := by
  unfold f_K_none at hf
  refine gw_iconst (v := (0 : Int32)) C d_K_none_0 (by decide) ?_
  refine gw_istore_n (lv' := [(1, .int (0 : Int32)), (0, .ref (ad 0))]) C d_K_none_1 rfl (by decide) rfl ?_
  exact gw_sub [1, 0] rfl (g_K_none_2 C _ _ _ hf)
theorem c_K_none (hZ : gw_ZOK Z) {M : Mem} {M' : Mem} (hf : f_K_none M = some M') : CW l y_K_none ws_K_none rm_K_none D vwCl (tysW cI cZ cC) Z [.ref (ad 0)] (wk ad cI cZ cC M) none (wk ad cI cZ cC M') 0 0 :=
  CW.ofG hZ (by decide) rfl (Nat.le_of_ble_eq_true rfl) (fun _ _ _ _ _ _ _ _ C _ => g_K_none C hf)
abbrev b_K_solvable : ByteArray := prog_7_method_52_code
def y_K_solvable : MethodName := ⟨"NoneWordsModel", "solvable", "()Z"⟩
abbrev ws_K_solvable : List Cond := Cond.code y_K_solvable b_K_solvable 1 (some (FieldType.boolean)) :: TB
set_option maxRecDepth 100000 in
theorem tc_K_solvable : Cond.code y_K_solvable b_K_solvable 1 (some (FieldType.boolean)) ∈ TB := inTB 976 rfl rfl
theorem mv_K_solvable : Cond.instanceMethod y_K_solvable ∈ TB ∧ Cond.selects "NoneWordsModel" y_K_solvable y_K_solvable ∈ TB ∧ Cond.initialized "NoneWordsModel" ∈ TB ∧ Cond.code y_K_solvable b_K_solvable 1 (some (FieldType.boolean)) ∈ TB := ⟨inTB 974 (by decide +kernel) (by decide +kernel), inTB 975 (by decide +kernel) (by decide +kernel), inTB 71 (by decide +kernel) (by decide +kernel), tc_K_solvable⟩
theorem pd_K_solvable : y_K_solvable.cls = "NoneWordsModel" ∧ y_K_solvable.cls ≠ "java/lang/invoke/MethodHandle" ∧ y_K_solvable.cls ≠ "java/lang/invoke/VarHandle" ∧ (parseMethodDescriptor y_K_solvable.desc).map (fun d => d.parameters.length) = some 0 := by decide +kernel
theorem d_K_solvable_0 : decode b_K_solvable 0 = .ok (.aload_n 0, 1) := by decide +kernel
theorem d_K_solvable_1 : decode b_K_solvable 1 = .ok (.iconst 0, 1) := by decide +kernel
theorem d_K_solvable_2 : decode b_K_solvable 2 = .ok (.putfield 72, 3) := by decide +kernel
theorem d_K_solvable_5 : decode b_K_solvable 5 = .ok (.aload_n 0, 1) := by decide +kernel
theorem d_K_solvable_6 : decode b_K_solvable 6 = .ok (.invokevirtual 265, 3) := by decide +kernel
theorem d_K_solvable_9 : decode b_K_solvable 9 = .ok (.aload_n 0, 1) := by decide +kernel
theorem d_K_solvable_10 : decode b_K_solvable 10 = .ok (.iconst (-1), 1) := by decide +kernel
theorem d_K_solvable_11 : decode b_K_solvable 11 = .ok (.invokevirtual 268, 3) := by decide +kernel
theorem d_K_solvable_14 : decode b_K_solvable 14 = .ok (.ireturn, 1) := by decide +kernel
abbrev rm_K_solvable : Room := { frames := 4, cells := 0, slots := 0, locals := 91 }
def f_K_solvable (M : Mem) : Option (Int32 × Mem) :=
  om (f_K_none (ms M 0 0 (0 : Int32))) fun M6 => ob (f_K_can (-1 : Int32) M6) fun r11 M11 => some (vp_nar .boolean r11, M11)
set_option maxRecDepth 100000 in
theorem g_K_solvable {r : Int32} {M' : Mem} (C : GC p s m args meth c b_K_solvable 1 (some (FieldType.boolean)) "NoneWordsModel" TB D vwCl (tysW cI cZ cC) A Z) {M : Mem} (hf : f_K_solvable M = some (r, M')) : GW p l e rm_K_solvable s m args below meth c (MQ below (QW D vwCl (tysW cI cZ cC) A (some (.int r)) (wk ad cI cZ cC M')) args s 0 0 A) D vwCl A 1 0 0 (wk ad cI cZ cC M) 0 [(0, .ref (ad 0))] [] := by
  unfold f_K_solvable at hf
  refine gw_aload_n C 0 d_K_solvable_0 rfl rfl ?_
  refine gw_iconst (v := (0 : Int32)) C d_K_solvable_1 (by decide) ?_
  refine gw_put C in_K ty_K tk_K nm_K 0 wkg_0 clg_5 0 (by decide) tw_686 rfl rfl rfl rfl (Nat.le_of_ble_eq_true rfl) d_K_solvable_2 wkf_0_0 ?_
  refine gw_aload_n C 0 d_K_solvable_5 rfl rfl ?_
  obtain ⟨M6, hc6, hf⟩ := om_some hf
  refine gw_callVv (rest := []) C 0 wkg_0 clg_5 (c_K_none C.2.2.2.2.2.2.2.2.2.2 hc6) (cwV 0 C.2.2.2.2.1 (gTB_V tw_977 mv_K_none) rfl rfl rfl pd_K_none ⟨Nat.le_of_ble_eq_true rfl, Nat.le_of_ble_eq_true rfl⟩) rfl rfl (Nat.le_of_ble_eq_true rfl) d_K_solvable_6 ⟨Nat.le_of_ble_eq_true rfl, Nat.le_of_ble_eq_true rfl⟩ ?_
  refine gw_aload_n C 0 d_K_solvable_9 rfl rfl ?_
  refine gw_iconst (v := (-1 : Int32)) C d_K_solvable_10 (by decide) ?_
  obtain ⟨r11, M11, hc11, hf⟩ := ob_some hf
  refine gw_callVr (rest := []) C 0 wkg_0 clg_5 (c_K_can C.2.2.2.2.2.2.2.2.2.2 hc11) (cwV 1 C.2.2.2.2.1 (gTB_V tw_981 mv_K_can) rfl rfl rfl pd_K_can ⟨Nat.le_of_ble_eq_true rfl, Nat.le_of_ble_eq_true rfl⟩) rfl rfl (Nat.le_of_ble_eq_true rfl) d_K_solvable_11 ⟨Nat.le_of_ble_eq_true rfl, Nat.le_of_ble_eq_true rfl⟩ ?_
  exact gw_zretn C d_K_solvable_14 (wk ad cI cZ cC) (nar_b _) hf
theorem c_K_solvable (hZ : gw_ZOK Z) {M : Mem} {r : Int32} {M' : Mem} (hf : f_K_solvable M = some (r, M')) : CW l y_K_solvable ws_K_solvable rm_K_solvable D vwCl (tysW cI cZ cC) Z [.ref (ad 0)] (wk ad cI cZ cC M) (some (.int r)) (wk ad cI cZ cC M') 0 0 :=
  CW.ofG hZ (by decide) rfl (Nat.le_of_ble_eq_true rfl) (fun _ _ _ _ _ _ _ _ C _ => g_K_solvable C hf)
abbrev b_K_least : ByteArray := prog_7_method_53_code
def y_K_least : MethodName := ⟨"NoneWordsModel", "least", "()I"⟩
abbrev ws_K_least : List Cond := Cond.code y_K_least b_K_least 2 (some (FieldType.int)) :: TB
set_option maxRecDepth 100000 in
theorem tc_K_least : Cond.code y_K_least b_K_least 2 (some (FieldType.int)) ∈ TB := inTB 996 rfl rfl
theorem mv_K_least : Cond.instanceMethod y_K_least ∈ TB ∧ Cond.selects "NoneWordsModel" y_K_least y_K_least ∈ TB ∧ Cond.initialized "NoneWordsModel" ∈ TB ∧ Cond.code y_K_least b_K_least 2 (some (FieldType.int)) ∈ TB := ⟨inTB 994 (by decide +kernel) (by decide +kernel), inTB 995 (by decide +kernel) (by decide +kernel), inTB 71 (by decide +kernel) (by decide +kernel), tc_K_least⟩
theorem pd_K_least : y_K_least.cls = "NoneWordsModel" ∧ y_K_least.cls ≠ "java/lang/invoke/MethodHandle" ∧ y_K_least.cls ≠ "java/lang/invoke/VarHandle" ∧ (parseMethodDescriptor y_K_least.desc).map (fun d => d.parameters.length) = some 0 := by decide +kernel
theorem d_K_least_0 : decode b_K_least 0 = .ok (.aload_n 0, 1) := by decide +kernel
theorem d_K_least_1 : decode b_K_least 1 = .ok (.iconst 0, 1) := by decide +kernel
theorem d_K_least_2 : decode b_K_least 2 = .ok (.putfield 72, 3) := by decide +kernel
theorem d_K_least_5 : decode b_K_least 5 = .ok (.aload_n 0, 1) := by decide +kernel
theorem d_K_least_6 : decode b_K_least 6 = .ok (.invokevirtual 265, 3) := by decide +kernel
theorem d_K_least_9 : decode b_K_least 9 = .ok (.aload_n 0, 1) := by decide +kernel
theorem d_K_least_10 : decode b_K_least 10 = .ok (.iconst 0, 1) := by decide +kernel
theorem d_K_least_11 : decode b_K_least 11 = .ok (.putfield 271, 3) := by decide +kernel
theorem d_K_least_14 : decode b_K_least 14 = .ok (.aload_n 0, 1) := by decide +kernel
theorem d_K_least_15 : decode b_K_least 15 = .ok (.iconst (-1), 1) := by decide +kernel
theorem d_K_least_16 : decode b_K_least 16 = .ok (.invokevirtual 268, 3) := by decide +kernel
theorem d_K_least_19 : decode b_K_least 19 = .ok (.ifCond .eq 5, 3) := by decide +kernel
theorem d_K_least_22 : decode b_K_least 22 = .ok (.iconst 0, 1) := by decide +kernel
theorem d_K_least_23 : decode b_K_least 23 = .ok (.ireturn, 1) := by decide +kernel
theorem d_K_least_24 : decode b_K_least 24 = .ok (.iconst 0, 1) := by decide +kernel
theorem d_K_least_25 : decode b_K_least 25 = .ok (.istore_n 1, 1) := by decide +kernel
theorem d_K_least_26 : decode b_K_least 26 = .ok (.iload_n 1, 1) := by decide +kernel
theorem d_K_least_27 : decode b_K_least 27 = .ok (.aload_n 0, 1) := by decide +kernel
theorem d_K_least_28 : decode b_K_least 28 = .ok (.getfield 79, 3) := by decide +kernel
theorem d_K_least_31 : decode b_K_least 31 = .ok (.if_icmp .ge 59, 3) := by decide +kernel
theorem d_K_least_34 : decode b_K_least 34 = .ok (.aload_n 0, 1) := by decide +kernel
theorem d_K_least_35 : decode b_K_least 35 = .ok (.getfield 13, 3) := by decide +kernel
theorem d_K_least_38 : decode b_K_least 38 = .ok (.iload_n 1, 1) := by decide +kernel
theorem d_K_least_39 : decode b_K_least 39 = .ok (.iaload, 1) := by decide +kernel
theorem d_K_least_40 : decode b_K_least 40 = .ok (.ifCond .eq 6, 3) := by decide +kernel
theorem d_K_least_43 : decode b_K_least 43 = .ok (.goto 41, 3) := by decide +kernel
theorem d_K_least_46 : decode b_K_least 46 = .ok (.aload_n 0, 1) := by decide +kernel
theorem d_K_least_47 : decode b_K_least 47 = .ok (.iload_n 1, 1) := by decide +kernel
theorem d_K_least_48 : decode b_K_least 48 = .ok (.invokevirtual 268, 3) := by decide +kernel
theorem d_K_least_51 : decode b_K_least 51 = .ok (.ifCond .eq 26, 3) := by decide +kernel
theorem d_K_least_54 : decode b_K_least 54 = .ok (.aload_n 0, 1) := by decide +kernel
theorem d_K_least_55 : decode b_K_least 55 = .ok (.getfield 69, 3) := by decide +kernel
theorem d_K_least_58 : decode b_K_least 58 = .ok (.aload_n 0, 1) := by decide +kernel
theorem d_K_least_59 : decode b_K_least 59 = .ok (.getfield 271, 3) := by decide +kernel
theorem d_K_least_62 : decode b_K_least 62 = .ok (.iload_n 1, 1) := by decide +kernel
theorem d_K_least_63 : decode b_K_least 63 = .ok (.iastore, 1) := by decide +kernel
theorem d_K_least_64 : decode b_K_least 64 = .ok (.aload_n 0, 1) := by decide +kernel
theorem d_K_least_65 : decode b_K_least 65 = .ok (.dup, 1) := by decide +kernel
theorem d_K_least_66 : decode b_K_least 66 = .ok (.getfield 271, 3) := by decide +kernel
theorem d_K_least_69 : decode b_K_least 69 = .ok (.iconst 1, 1) := by decide +kernel
theorem d_K_least_70 : decode b_K_least 70 = .ok (.iadd, 1) := by decide +kernel
theorem d_K_least_71 : decode b_K_least 71 = .ok (.putfield 271, 3) := by decide +kernel
theorem d_K_least_74 : decode b_K_least 74 = .ok (.goto 10, 3) := by decide +kernel
theorem d_K_least_77 : decode b_K_least 77 = .ok (.aload_n 0, 1) := by decide +kernel
theorem d_K_least_78 : decode b_K_least 78 = .ok (.getfield 66, 3) := by decide +kernel
theorem d_K_least_81 : decode b_K_least 81 = .ok (.iload_n 1, 1) := by decide +kernel
theorem d_K_least_82 : decode b_K_least 82 = .ok (.iconst 1, 1) := by decide +kernel
theorem d_K_least_83 : decode b_K_least 83 = .ok (.bastore, 1) := by decide +kernel
theorem d_K_least_84 : decode b_K_least 84 = .ok (.iinc 1 1, 3) := by decide +kernel
theorem d_K_least_87 : decode b_K_least 87 = .ok (.goto (-61), 3) := by decide +kernel
theorem d_K_least_90 : decode b_K_least 90 = .ok (.aload_n 0, 1) := by decide +kernel
theorem d_K_least_91 : decode b_K_least 91 = .ok (.getfield 271, 3) := by decide +kernel
theorem d_K_least_94 : decode b_K_least 94 = .ok (.ireturn, 1) := by decide +kernel
abbrev rm_K_least : Room := { frames := 4, cells := 0, slots := 0, locals := 91 }
def f_K_least_26 : Nat → Int32 → Mem → Option (Int32 × Mem)
  | 0, _, _ => none
  | n + 1, x1, M => if (M 0 3) ≤ x1 then some (M 0 27, M) else gd (inb x1 120) (if (M 2 x1.toNatClampNeg) = 0 then ob (f_K_can x1 M) fun r48 M48 => if r48 = 0 then gd (inb x1 120) ((f_K_least_26 n) (x1 + (1 : Int32)) (ms M48 19 x1.toNatClampNeg (vp_nar .boolean (1 : Int32)))) else gd (inb (M48 0 27) 120) ((f_K_least_26 n) (x1 + (1 : Int32)) (ms (ms M48 20 (M48 0 27).toNatClampNeg x1) 0 27 (((ms M48 20 (M48 0 27).toNatClampNeg x1) 0 27) + (1 : Int32)))) else (f_K_least_26 n) (x1 + (1 : Int32)) M)
set_option maxRecDepth 100000 in
theorem g_K_least_26 {r : Int32} {M' : Mem} (C : GC p s m args meth c b_K_least 2 (some (FieldType.int)) "NoneWordsModel" TB D vwCl (tysW cI cZ cC) A Z) : ∀ (n : Nat) (x1 : Int32) (M : Mem), f_K_least_26 n x1 M = some (r, M') → GW p l e rm_K_least s m args below meth c (MQ below (QW D vwCl (tysW cI cZ cC) A (some (.int r)) (wk ad cI cZ cC M')) args s 0 0 A) D vwCl A 2 0 0 (wk ad cI cZ cC M) 26 [(0, .ref (ad 0)), (1, .int x1)] [] := by
  intro n
  induction n with
  | zero => intro _ _ hf; cases hf
  | succ n ih =>
    intro x1 M hf
    rw [f_K_least_26] at hf
    refine gw_iload_n C 1 d_K_least_26 rfl rfl ?_
    refine gw_aload_n C 0 d_K_least_27 rfl rfl ?_
    refine gw_get C in_K 0 wkg_0 clg_5 3 (by decide) tw_689 rfl rfl d_K_least_28 ?_
    refine gw_icmp_ge (tgt := 90) C d_K_least_31 (by decide) (fun c => ?_) (fun c => ?_)
    · have hf := (if_pos c).symm.trans hf
      refine gw_aload_n C 0 d_K_least_90 rfl rfl ?_
      refine gw_get C in_K 0 wkg_0 clg_5 27 (by decide) tw_713 rfl rfl d_K_least_91 ?_
      exact gw_ireti C d_K_least_94 (wk ad cI cZ cC) hf
    · have hf := (if_neg c).symm.trans hf
      refine gw_aload_n C 0 d_K_least_34 rfl rfl ?_
      refine gw_get C in_K 0 wkg_0 clg_5 4 (by decide) tw_690 rfl rfl d_K_least_35 ?_
      refine gw_iload_n C 1 d_K_least_38 rfl rfl ?_
      obtain ⟨hb39, hf⟩ := gd_some hf
      refine gw_iald C 2 0 wkg_2 rfl hb39 d_K_least_39 ?_
      refine gw_if_eq (tgt := 46) C d_K_least_40 (by decide) (fun c => ?_) (fun c => ?_)
      · have hf := (if_pos c).symm.trans hf
        refine gw_aload_n C 0 d_K_least_46 rfl rfl ?_
        refine gw_iload_n C 1 d_K_least_47 rfl rfl ?_
        obtain ⟨r48, M48, hc48, hf⟩ := ob_some hf
        refine gw_callVr (rest := []) C 0 wkg_0 clg_5 (c_K_can C.2.2.2.2.2.2.2.2.2.2 hc48) (cwV 1 C.2.2.2.2.1 (gTB_V tw_981 mv_K_can) rfl rfl rfl pd_K_can ⟨Nat.le_of_ble_eq_true rfl, Nat.le_of_ble_eq_true rfl⟩) rfl rfl (Nat.le_of_ble_eq_true rfl) d_K_least_48 ⟨Nat.le_of_ble_eq_true rfl, Nat.le_of_ble_eq_true rfl⟩ ?_
        refine gw_if_eq (tgt := 77) C d_K_least_51 (by decide) (fun c => ?_) (fun c => ?_)
        · have hf := (if_pos c).symm.trans hf
          refine gw_aload_n C 0 d_K_least_77 rfl rfl ?_
          refine gw_get C in_K 0 wkg_0 clg_5 25 (by decide) tw_711 rfl rfl d_K_least_78 ?_
          refine gw_iload_n C 1 d_K_least_81 rfl rfl ?_
          refine gw_iconst (v := (1 : Int32)) C d_K_least_82 (by decide) ?_
          obtain ⟨hb83, hf⟩ := gd_some hf
          refine gw_zast C 19 1 wkg_19 rfl hb83 d_K_least_83 wka_19 ?_
          refine gw_iinc (v := x1 + (1 : Int32)) (lv' := [(1, .int (x1 + (1 : Int32))), (0, .ref (ad 0))]) C 1 d_K_least_84 rfl rfl (by decide) rfl ?_
          refine gw_goto (tgt := 26) C d_K_least_87 (by decide) ?_
          exact gw_sub [1, 0] rfl (ih _ _ hf)
        · have hf := (if_neg c).symm.trans hf
          refine gw_aload_n C 0 d_K_least_54 rfl rfl ?_
          refine gw_get C in_K 0 wkg_0 clg_5 26 (by decide) tw_712 rfl rfl d_K_least_55 ?_
          refine gw_aload_n C 0 d_K_least_58 rfl rfl ?_
          refine gw_get C in_K 0 wkg_0 clg_5 27 (by decide) tw_713 rfl rfl d_K_least_59 ?_
          refine gw_iload_n C 1 d_K_least_62 rfl rfl ?_
          obtain ⟨hb63, hf⟩ := gd_some hf
          refine gw_iast C 20 0 wkg_20 rfl hb63 d_K_least_63 wka_20 ?_
          refine gw_aload_n C 0 d_K_least_64 rfl rfl ?_
          refine gw_dup C d_K_least_65 rfl ?_
          refine gw_get C in_K 0 wkg_0 clg_5 27 (by decide) tw_713 rfl rfl d_K_least_66 ?_
          refine gw_iconst (v := (1 : Int32)) C d_K_least_69 (by decide) ?_
          refine gw_iadd C d_K_least_70 ?_
          refine gw_put C in_K ty_K tk_K nm_K 0 wkg_0 clg_5 27 (by decide) tw_713 rfl rfl rfl rfl (Nat.le_of_ble_eq_true rfl) d_K_least_71 wkf_0_27 ?_
          refine gw_goto (tgt := 84) C d_K_least_74 (by decide) ?_
          refine gw_iinc (v := x1 + (1 : Int32)) (lv' := [(1, .int (x1 + (1 : Int32))), (0, .ref (ad 0))]) C 1 d_K_least_84 rfl rfl (by decide) rfl ?_
          refine gw_goto (tgt := 26) C d_K_least_87 (by decide) ?_
          exact gw_sub [1, 0] rfl (ih _ _ hf)
      · have hf := (if_neg c).symm.trans hf
        refine gw_goto (tgt := 84) C d_K_least_43 (by decide) ?_
        refine gw_iinc (v := x1 + (1 : Int32)) (lv' := [(1, .int (x1 + (1 : Int32))), (0, .ref (ad 0))]) C 1 d_K_least_84 rfl rfl (by decide) rfl ?_
        refine gw_goto (tgt := 26) C d_K_least_87 (by decide) ?_
        exact gw_sub [1, 0] rfl (ih _ _ hf)
def f_K_least (M : Mem) : Option (Int32 × Mem) :=
  om (f_K_none (ms M 0 0 (0 : Int32))) fun M6 => ob (f_K_can (-1 : Int32) (ms M6 0 27 (0 : Int32))) fun r16 M16 => if r16 = 0 then f_K_least_26 100000 (0 : Int32) M16 else some ((0 : Int32), M16)
set_option maxRecDepth 100000 in
theorem g_K_least {r : Int32} {M' : Mem} (C : GC p s m args meth c b_K_least 2 (some (FieldType.int)) "NoneWordsModel" TB D vwCl (tysW cI cZ cC) A Z) {M : Mem} (hf : f_K_least M = some (r, M')) : GW p l e rm_K_least s m args below meth c (MQ below (QW D vwCl (tysW cI cZ cC) A (some (.int r)) (wk ad cI cZ cC M')) args s 0 0 A) D vwCl A 2 0 0 (wk ad cI cZ cC M) 0 [(0, .ref (ad 0))] [] := by
  unfold f_K_least at hf
  refine gw_aload_n C 0 d_K_least_0 rfl rfl ?_
  refine gw_iconst (v := (0 : Int32)) C d_K_least_1 (by decide) ?_
  refine gw_put C in_K ty_K tk_K nm_K 0 wkg_0 clg_5 0 (by decide) tw_686 rfl rfl rfl rfl (Nat.le_of_ble_eq_true rfl) d_K_least_2 wkf_0_0 ?_
  refine gw_aload_n C 0 d_K_least_5 rfl rfl ?_
  obtain ⟨M6, hc6, hf⟩ := om_some hf
  refine gw_callVv (rest := []) C 0 wkg_0 clg_5 (c_K_none C.2.2.2.2.2.2.2.2.2.2 hc6) (cwV 0 C.2.2.2.2.1 (gTB_V tw_977 mv_K_none) rfl rfl rfl pd_K_none ⟨Nat.le_of_ble_eq_true rfl, Nat.le_of_ble_eq_true rfl⟩) rfl rfl (Nat.le_of_ble_eq_true rfl) d_K_least_6 ⟨Nat.le_of_ble_eq_true rfl, Nat.le_of_ble_eq_true rfl⟩ ?_
  refine gw_aload_n C 0 d_K_least_9 rfl rfl ?_
  refine gw_iconst (v := (0 : Int32)) C d_K_least_10 (by decide) ?_
  refine gw_put C in_K ty_K tk_K nm_K 0 wkg_0 clg_5 27 (by decide) tw_713 rfl rfl rfl rfl (Nat.le_of_ble_eq_true rfl) d_K_least_11 wkf_0_27 ?_
  refine gw_aload_n C 0 d_K_least_14 rfl rfl ?_
  refine gw_iconst (v := (-1 : Int32)) C d_K_least_15 (by decide) ?_
  obtain ⟨r16, M16, hc16, hf⟩ := ob_some hf
  refine gw_callVr (rest := []) C 0 wkg_0 clg_5 (c_K_can C.2.2.2.2.2.2.2.2.2.2 hc16) (cwV 1 C.2.2.2.2.1 (gTB_V tw_981 mv_K_can) rfl rfl rfl pd_K_can ⟨Nat.le_of_ble_eq_true rfl, Nat.le_of_ble_eq_true rfl⟩) rfl rfl (Nat.le_of_ble_eq_true rfl) d_K_least_16 ⟨Nat.le_of_ble_eq_true rfl, Nat.le_of_ble_eq_true rfl⟩ ?_
  refine gw_if_eq (tgt := 24) C d_K_least_19 (by decide) (fun c => ?_) (fun c => ?_)
  · have hf := (if_pos c).symm.trans hf
    refine gw_iconst (v := (0 : Int32)) C d_K_least_24 (by decide) ?_
    refine gw_istore_n (lv' := [(1, .int (0 : Int32)), (0, .ref (ad 0))]) C d_K_least_25 rfl (by decide) rfl ?_
    exact gw_sub [1, 0] rfl (g_K_least_26 C _ _ _ hf)
  · have hf := (if_neg c).symm.trans hf
    refine gw_iconst (v := (0 : Int32)) C d_K_least_22 (by decide) ?_
    exact gw_ireti C d_K_least_23 (wk ad cI cZ cC) hf
theorem c_K_least (hZ : gw_ZOK Z) {M : Mem} {r : Int32} {M' : Mem} (hf : f_K_least M = some (r, M')) : CW l y_K_least ws_K_least rm_K_least D vwCl (tysW cI cZ cC) Z [.ref (ad 0)] (wk ad cI cZ cC M) (some (.int r)) (wk ad cI cZ cC M') 0 0 :=
  CW.ofG hZ (by decide) rfl (Nat.le_of_ble_eq_true rfl) (fun _ _ _ _ _ _ _ _ C _ => g_K_least C hf)
abbrev b_K_demand : ByteArray := prog_7_method_54_code
def y_K_demand : MethodName := ⟨"NoneWordsModel", "demand", "(I)I"⟩
abbrev ws_K_demand : List Cond := Cond.code y_K_demand b_K_demand 2 (some (FieldType.int)) :: TB
set_option maxRecDepth 100000 in
theorem tc_K_demand : Cond.code y_K_demand b_K_demand 2 (some (FieldType.int)) ∈ TB := inTB 1000 rfl rfl
theorem mv_K_demand : Cond.instanceMethod y_K_demand ∈ TB ∧ Cond.selects "NoneWordsModel" y_K_demand y_K_demand ∈ TB ∧ Cond.initialized "NoneWordsModel" ∈ TB ∧ Cond.code y_K_demand b_K_demand 2 (some (FieldType.int)) ∈ TB := ⟨inTB 998 (by decide +kernel) (by decide +kernel), inTB 999 (by decide +kernel) (by decide +kernel), inTB 71 (by decide +kernel) (by decide +kernel), tc_K_demand⟩
theorem pd_K_demand : y_K_demand.cls = "NoneWordsModel" ∧ y_K_demand.cls ≠ "java/lang/invoke/MethodHandle" ∧ y_K_demand.cls ≠ "java/lang/invoke/VarHandle" ∧ (parseMethodDescriptor y_K_demand.desc).map (fun d => d.parameters.length) = some 1 := by decide +kernel
theorem d_K_demand_0 : decode b_K_demand 0 = .ok (.aload_n 0, 1) := by decide +kernel
theorem d_K_demand_1 : decode b_K_demand 1 = .ok (.iconst 0, 1) := by decide +kernel
theorem d_K_demand_2 : decode b_K_demand 2 = .ok (.putfield 72, 3) := by decide +kernel
theorem d_K_demand_5 : decode b_K_demand 5 = .ok (.iload_n 1, 1) := by decide +kernel
theorem d_K_demand_6 : decode b_K_demand 6 = .ok (.ifCond .lt 11, 3) := by decide +kernel
theorem d_K_demand_9 : decode b_K_demand 9 = .ok (.iload_n 1, 1) := by decide +kernel
theorem d_K_demand_10 : decode b_K_demand 10 = .ok (.aload_n 0, 1) := by decide +kernel
theorem d_K_demand_11 : decode b_K_demand 11 = .ok (.getfield 271, 3) := by decide +kernel
theorem d_K_demand_14 : decode b_K_demand 14 = .ok (.if_icmp .lt 7, 3) := by decide +kernel
theorem d_K_demand_17 : decode b_K_demand 17 = .ok (.iconst (-1), 1) := by decide +kernel
theorem d_K_demand_18 : decode b_K_demand 18 = .ok (.goto 9, 3) := by decide +kernel
theorem d_K_demand_21 : decode b_K_demand 21 = .ok (.aload_n 0, 1) := by decide +kernel
theorem d_K_demand_22 : decode b_K_demand 22 = .ok (.getfield 69, 3) := by decide +kernel
theorem d_K_demand_25 : decode b_K_demand 25 = .ok (.iload_n 1, 1) := by decide +kernel
theorem d_K_demand_26 : decode b_K_demand 26 = .ok (.iaload, 1) := by decide +kernel
theorem d_K_demand_27 : decode b_K_demand 27 = .ok (.ireturn, 1) := by decide +kernel
abbrev rm_K_demand : Room := { frames := 0, cells := 0, slots := 0, locals := 0 }
def f_K_demand (x1 : Int32) (M : Mem) : Option (Int32 × Mem) :=
  if x1 < 0 then some ((-1 : Int32), ms M 0 0 (0 : Int32)) else if x1 < ((ms M 0 0 (0 : Int32)) 0 27) then gd (inb x1 120) (some ((ms M 0 0 (0 : Int32)) 20 x1.toNatClampNeg, ms M 0 0 (0 : Int32))) else some ((-1 : Int32), ms M 0 0 (0 : Int32))
set_option maxRecDepth 100000 in
theorem g_K_demand {r : Int32} {M' : Mem} (C : GC p s m args meth c b_K_demand 2 (some (FieldType.int)) "NoneWordsModel" TB D vwCl (tysW cI cZ cC) A Z) {x1 : Int32} {M : Mem} (hf : f_K_demand x1 M = some (r, M')) : GW p l e rm_K_demand s m args below meth c (MQ below (QW D vwCl (tysW cI cZ cC) A (some (.int r)) (wk ad cI cZ cC M')) args s 0 0 A) D vwCl A 2 0 0 (wk ad cI cZ cC M) 0 [(0, .ref (ad 0)), (1, .int x1)] [] := by
  unfold f_K_demand at hf
  refine gw_aload_n C 0 d_K_demand_0 rfl rfl ?_
  refine gw_iconst (v := (0 : Int32)) C d_K_demand_1 (by decide) ?_
  refine gw_put C in_K ty_K tk_K nm_K 0 wkg_0 clg_5 0 (by decide) tw_686 rfl rfl rfl rfl (Nat.le_of_ble_eq_true rfl) d_K_demand_2 wkf_0_0 ?_
  refine gw_iload_n C 1 d_K_demand_5 rfl rfl ?_
  refine gw_if_lt (tgt := 17) C d_K_demand_6 (by decide) (fun c => ?_) (fun c => ?_)
  · have hf := (if_pos c).symm.trans hf
    refine gw_iconst (v := (-1 : Int32)) C d_K_demand_17 (by decide) ?_
    refine gw_goto (tgt := 27) C d_K_demand_18 (by decide) ?_
    exact gw_ireti C d_K_demand_27 (wk ad cI cZ cC) hf
  · have hf := (if_neg c).symm.trans hf
    refine gw_iload_n C 1 d_K_demand_9 rfl rfl ?_
    refine gw_aload_n C 0 d_K_demand_10 rfl rfl ?_
    refine gw_get C in_K 0 wkg_0 clg_5 27 (by decide) tw_713 rfl rfl d_K_demand_11 ?_
    refine gw_icmp_lt (tgt := 21) C d_K_demand_14 (by decide) (fun c => ?_) (fun c => ?_)
    · have hf := (if_pos c).symm.trans hf
      refine gw_aload_n C 0 d_K_demand_21 rfl rfl ?_
      refine gw_get C in_K 0 wkg_0 clg_5 26 (by decide) tw_712 rfl rfl d_K_demand_22 ?_
      refine gw_iload_n C 1 d_K_demand_25 rfl rfl ?_
      obtain ⟨hb26, hf⟩ := gd_some hf
      refine gw_iald C 20 0 wkg_20 rfl hb26 d_K_demand_26 ?_
      exact gw_ireti C d_K_demand_27 (wk ad cI cZ cC) hf
    · have hf := (if_neg c).symm.trans hf
      refine gw_iconst (v := (-1 : Int32)) C d_K_demand_17 (by decide) ?_
      refine gw_goto (tgt := 27) C d_K_demand_18 (by decide) ?_
      exact gw_ireti C d_K_demand_27 (wk ad cI cZ cC) hf
theorem c_K_demand (hZ : gw_ZOK Z) {x1 : Int32} {M : Mem} {r : Int32} {M' : Mem} (hf : f_K_demand x1 M = some (r, M')) : CW l y_K_demand ws_K_demand rm_K_demand D vwCl (tysW cI cZ cC) Z [.ref (ad 0), .int x1] (wk ad cI cZ cC M) (some (.int r)) (wk ad cI cZ cC M') 0 0 :=
  CW.ofG hZ (by decide) rfl (Nat.le_of_ble_eq_true rfl) (fun _ _ _ _ _ _ _ _ C _ => g_K_demand C hf)
abbrev b_K_hint : ByteArray := prog_7_method_55_code
def y_K_hint : MethodName := ⟨"NoneWordsModel", "hint", "(I)I"⟩
abbrev ws_K_hint : List Cond := Cond.code y_K_hint b_K_hint 4 (some (FieldType.int)) :: TB
set_option maxRecDepth 100000 in
theorem tc_K_hint : Cond.code y_K_hint b_K_hint 4 (some (FieldType.int)) ∈ TB := inTB 1004 rfl rfl
theorem mv_K_hint : Cond.instanceMethod y_K_hint ∈ TB ∧ Cond.selects "NoneWordsModel" y_K_hint y_K_hint ∈ TB ∧ Cond.initialized "NoneWordsModel" ∈ TB ∧ Cond.code y_K_hint b_K_hint 4 (some (FieldType.int)) ∈ TB := ⟨inTB 1002 (by decide +kernel) (by decide +kernel), inTB 1003 (by decide +kernel) (by decide +kernel), inTB 71 (by decide +kernel) (by decide +kernel), tc_K_hint⟩
theorem pd_K_hint : y_K_hint.cls = "NoneWordsModel" ∧ y_K_hint.cls ≠ "java/lang/invoke/MethodHandle" ∧ y_K_hint.cls ≠ "java/lang/invoke/VarHandle" ∧ (parseMethodDescriptor y_K_hint.desc).map (fun d => d.parameters.length) = some 1 := by decide +kernel
theorem d_K_hint_0 : decode b_K_hint 0 = .ok (.aload_n 0, 1) := by decide +kernel
theorem d_K_hint_1 : decode b_K_hint 1 = .ok (.iconst 0, 1) := by decide +kernel
theorem d_K_hint_2 : decode b_K_hint 2 = .ok (.putfield 72, 3) := by decide +kernel
theorem d_K_hint_5 : decode b_K_hint 5 = .ok (.aload_n 0, 1) := by decide +kernel
theorem d_K_hint_6 : decode b_K_hint 6 = .ok (.invokevirtual 265, 3) := by decide +kernel
theorem d_K_hint_9 : decode b_K_hint 9 = .ok (.aload_n 0, 1) := by decide +kernel
theorem d_K_hint_10 : decode b_K_hint 10 = .ok (.iconst (-1), 1) := by decide +kernel
theorem d_K_hint_11 : decode b_K_hint 11 = .ok (.invokevirtual 268, 3) := by decide +kernel
theorem d_K_hint_14 : decode b_K_hint 14 = .ok (.ifCond .eq 5, 3) := by decide +kernel
theorem d_K_hint_17 : decode b_K_hint 17 = .ok (.iconst (-1), 1) := by decide +kernel
theorem d_K_hint_18 : decode b_K_hint 18 = .ok (.ireturn, 1) := by decide +kernel
theorem d_K_hint_19 : decode b_K_hint 19 = .ok (.iload_n 1, 1) := by decide +kernel
theorem d_K_hint_20 : decode b_K_hint 20 = .ok (.istore_n 2, 1) := by decide +kernel
theorem d_K_hint_21 : decode b_K_hint 21 = .ok (.iconst 0, 1) := by decide +kernel
theorem d_K_hint_22 : decode b_K_hint 22 = .ok (.istore_n 3, 1) := by decide +kernel
theorem d_K_hint_23 : decode b_K_hint 23 = .ok (.iload_n 3, 1) := by decide +kernel
theorem d_K_hint_24 : decode b_K_hint 24 = .ok (.aload_n 0, 1) := by decide +kernel
theorem d_K_hint_25 : decode b_K_hint 25 = .ok (.getfield 79, 3) := by decide +kernel
theorem d_K_hint_28 : decode b_K_hint 28 = .ok (.if_icmp .ge 49, 3) := by decide +kernel
theorem d_K_hint_31 : decode b_K_hint 31 = .ok (.aload_n 0, 1) := by decide +kernel
theorem d_K_hint_32 : decode b_K_hint 32 = .ok (.getfield 13, 3) := by decide +kernel
theorem d_K_hint_35 : decode b_K_hint 35 = .ok (.iload_n 3, 1) := by decide +kernel
theorem d_K_hint_36 : decode b_K_hint 36 = .ok (.iaload, 1) := by decide +kernel
theorem d_K_hint_37 : decode b_K_hint 37 = .ok (.iconst 4, 1) := by decide +kernel
theorem d_K_hint_38 : decode b_K_hint 38 = .ok (.if_icmp .eq 33, 3) := by decide +kernel
theorem d_K_hint_41 : decode b_K_hint 41 = .ok (.aload_n 0, 1) := by decide +kernel
theorem d_K_hint_42 : decode b_K_hint 42 = .ok (.getfield 13, 3) := by decide +kernel
theorem d_K_hint_45 : decode b_K_hint 45 = .ok (.iload_n 3, 1) := by decide +kernel
theorem d_K_hint_46 : decode b_K_hint 46 = .ok (.iaload, 1) := by decide +kernel
theorem d_K_hint_47 : decode b_K_hint 47 = .ok (.iconst 1, 1) := by decide +kernel
theorem d_K_hint_48 : decode b_K_hint 48 = .ok (.if_icmp .eq 23, 3) := by decide +kernel
theorem d_K_hint_51 : decode b_K_hint 51 = .ok (.aload_n 0, 1) := by decide +kernel
theorem d_K_hint_52 : decode b_K_hint 52 = .ok (.iload_n 3, 1) := by decide +kernel
theorem d_K_hint_53 : decode b_K_hint 53 = .ok (.invokevirtual 268, 3) := by decide +kernel
theorem d_K_hint_56 : decode b_K_hint 56 = .ok (.ifCond .ne 6, 3) := by decide +kernel
theorem d_K_hint_59 : decode b_K_hint 59 = .ok (.goto 12, 3) := by decide +kernel
theorem d_K_hint_62 : decode b_K_hint 62 = .ok (.iload_n 2, 1) := by decide +kernel
theorem d_K_hint_63 : decode b_K_hint 63 = .ok (.ifCond .ne 5, 3) := by decide +kernel
theorem d_K_hint_66 : decode b_K_hint 66 = .ok (.iload_n 3, 1) := by decide +kernel
theorem d_K_hint_67 : decode b_K_hint 67 = .ok (.ireturn, 1) := by decide +kernel
theorem d_K_hint_68 : decode b_K_hint 68 = .ok (.iinc 2 (-1), 3) := by decide +kernel
theorem d_K_hint_71 : decode b_K_hint 71 = .ok (.iinc 3 1, 3) := by decide +kernel
theorem d_K_hint_74 : decode b_K_hint 74 = .ok (.goto (-51), 3) := by decide +kernel
theorem d_K_hint_77 : decode b_K_hint 77 = .ok (.iconst (-1), 1) := by decide +kernel
theorem d_K_hint_78 : decode b_K_hint 78 = .ok (.ireturn, 1) := by decide +kernel
abbrev rm_K_hint : Room := { frames := 4, cells := 0, slots := 0, locals := 91 }
def f_K_hint_23 : Nat → Int32 → Int32 → Mem → Option (Int32 × Mem)
  | 0, _, _, _ => none
  | n + 1, x2, x3, M => if (M 0 3) ≤ x3 then some ((-1 : Int32), M) else gd (inb x3 120) (if (M 2 x3.toNatClampNeg) = (4 : Int32) then (f_K_hint_23 n) x2 (x3 + (1 : Int32)) M else gd (inb x3 120) (if (M 2 x3.toNatClampNeg) = (1 : Int32) then (f_K_hint_23 n) x2 (x3 + (1 : Int32)) M else ob (f_K_can x3 M) fun r53 M53 => if r53 = 0 then (f_K_hint_23 n) x2 (x3 + (1 : Int32)) M53 else if x2 = 0 then some (x3, M53) else (f_K_hint_23 n) (x2 + (-1 : Int32)) (x3 + (1 : Int32)) M53))
set_option maxRecDepth 100000 in
theorem g_K_hint_23 {r : Int32} {M' : Mem} (C : GC p s m args meth c b_K_hint 4 (some (FieldType.int)) "NoneWordsModel" TB D vwCl (tysW cI cZ cC) A Z) : ∀ (n : Nat) (x2 : Int32) (x3 : Int32) (M : Mem), f_K_hint_23 n x2 x3 M = some (r, M') → GW p l e rm_K_hint s m args below meth c (MQ below (QW D vwCl (tysW cI cZ cC) A (some (.int r)) (wk ad cI cZ cC M')) args s 0 0 A) D vwCl A 4 0 0 (wk ad cI cZ cC M) 23 [(0, .ref (ad 0)), (2, .int x2), (3, .int x3)] [] := by
  intro n
  induction n with
  | zero => intro _ _ _ hf; cases hf
  | succ n ih =>
    intro x2 x3 M hf
    rw [f_K_hint_23] at hf
    refine gw_iload_n C 2 d_K_hint_23 rfl rfl ?_
    refine gw_aload_n C 0 d_K_hint_24 rfl rfl ?_
    refine gw_get C in_K 0 wkg_0 clg_5 3 (by decide) tw_689 rfl rfl d_K_hint_25 ?_
    refine gw_icmp_ge (tgt := 77) C d_K_hint_28 (by decide) (fun c => ?_) (fun c => ?_)
    · have hf := (if_pos c).symm.trans hf
      refine gw_iconst (v := (-1 : Int32)) C d_K_hint_77 (by decide) ?_
      exact gw_ireti C d_K_hint_78 (wk ad cI cZ cC) hf
    · have hf := (if_neg c).symm.trans hf
      refine gw_aload_n C 0 d_K_hint_31 rfl rfl ?_
      refine gw_get C in_K 0 wkg_0 clg_5 4 (by decide) tw_690 rfl rfl d_K_hint_32 ?_
      refine gw_iload_n C 2 d_K_hint_35 rfl rfl ?_
      obtain ⟨hb36, hf⟩ := gd_some hf
      refine gw_iald C 2 0 wkg_2 rfl hb36 d_K_hint_36 ?_
      refine gw_iconst (v := (4 : Int32)) C d_K_hint_37 (by decide) ?_
      refine gw_icmp_eq (tgt := 71) C d_K_hint_38 (by decide) (fun c => ?_) (fun c => ?_)
      · have hf := (if_pos c).symm.trans hf
        refine gw_iinc (v := x3 + (1 : Int32)) (lv' := [(3, .int (x3 + (1 : Int32))), (0, .ref (ad 0)), (2, .int x2)]) C 2 d_K_hint_71 rfl rfl (by decide) rfl ?_
        refine gw_goto (tgt := 23) C d_K_hint_74 (by decide) ?_
        exact gw_sub [1, 2, 0] rfl (ih _ _ _ hf)
      · have hf := (if_neg c).symm.trans hf
        refine gw_aload_n C 0 d_K_hint_41 rfl rfl ?_
        refine gw_get C in_K 0 wkg_0 clg_5 4 (by decide) tw_690 rfl rfl d_K_hint_42 ?_
        refine gw_iload_n C 2 d_K_hint_45 rfl rfl ?_
        obtain ⟨hb46, hf⟩ := gd_some hf
        refine gw_iald C 2 0 wkg_2 rfl hb46 d_K_hint_46 ?_
        refine gw_iconst (v := (1 : Int32)) C d_K_hint_47 (by decide) ?_
        refine gw_icmp_eq (tgt := 71) C d_K_hint_48 (by decide) (fun c => ?_) (fun c => ?_)
        · have hf := (if_pos c).symm.trans hf
          refine gw_iinc (v := x3 + (1 : Int32)) (lv' := [(3, .int (x3 + (1 : Int32))), (0, .ref (ad 0)), (2, .int x2)]) C 2 d_K_hint_71 rfl rfl (by decide) rfl ?_
          refine gw_goto (tgt := 23) C d_K_hint_74 (by decide) ?_
          exact gw_sub [1, 2, 0] rfl (ih _ _ _ hf)
        · have hf := (if_neg c).symm.trans hf
          refine gw_aload_n C 0 d_K_hint_51 rfl rfl ?_
          refine gw_iload_n C 2 d_K_hint_52 rfl rfl ?_
          obtain ⟨r53, M53, hc53, hf⟩ := ob_some hf
          refine gw_callVr (rest := []) C 0 wkg_0 clg_5 (c_K_can C.2.2.2.2.2.2.2.2.2.2 hc53) (cwV 1 C.2.2.2.2.1 (gTB_V tw_981 mv_K_can) rfl rfl rfl pd_K_can ⟨Nat.le_of_ble_eq_true rfl, Nat.le_of_ble_eq_true rfl⟩) rfl rfl (Nat.le_of_ble_eq_true rfl) d_K_hint_53 ⟨Nat.le_of_ble_eq_true rfl, Nat.le_of_ble_eq_true rfl⟩ ?_
          refine gw_if_ne (tgt := 62) C d_K_hint_56 (by decide) (fun c => ?_) (fun c => ?_)
          · have hf := (if_neg c).symm.trans hf
            refine gw_iload_n C 1 d_K_hint_62 rfl rfl ?_
            refine gw_if_ne (tgt := 68) C d_K_hint_63 (by decide) (fun c => ?_) (fun c => ?_)
            · have hf := (if_neg c).symm.trans hf
              refine gw_iinc (v := x2 + (-1 : Int32)) (lv' := [(2, .int (x2 + (-1 : Int32))), (0, .ref (ad 0)), (3, .int x3)]) C 1 d_K_hint_68 rfl rfl (by decide) rfl ?_
              refine gw_iinc (v := x3 + (1 : Int32)) (lv' := [(3, .int (x3 + (1 : Int32))), (2, .int (x2 + (-1 : Int32))), (0, .ref (ad 0))]) C 2 d_K_hint_71 rfl rfl (by decide) rfl ?_
              refine gw_goto (tgt := 23) C d_K_hint_74 (by decide) ?_
              exact gw_sub [2, 1, 0] rfl (ih _ _ _ hf)
            · have hf := (if_pos c).symm.trans hf
              refine gw_iload_n C 2 d_K_hint_66 rfl rfl ?_
              exact gw_ireti C d_K_hint_67 (wk ad cI cZ cC) hf
          · have hf := (if_pos c).symm.trans hf
            refine gw_goto (tgt := 71) C d_K_hint_59 (by decide) ?_
            refine gw_iinc (v := x3 + (1 : Int32)) (lv' := [(3, .int (x3 + (1 : Int32))), (0, .ref (ad 0)), (2, .int x2)]) C 2 d_K_hint_71 rfl rfl (by decide) rfl ?_
            refine gw_goto (tgt := 23) C d_K_hint_74 (by decide) ?_
            exact gw_sub [1, 2, 0] rfl (ih _ _ _ hf)
def f_K_hint (x1 : Int32) (M : Mem) : Option (Int32 × Mem) :=
  om (f_K_none (ms M 0 0 (0 : Int32))) fun M6 => ob (f_K_can (-1 : Int32) M6) fun r11 M11 => if r11 = 0 then f_K_hint_23 100000 x1 (0 : Int32) M11 else some ((-1 : Int32), M11)
set_option maxRecDepth 100000 in
theorem g_K_hint {r : Int32} {M' : Mem} (C : GC p s m args meth c b_K_hint 4 (some (FieldType.int)) "NoneWordsModel" TB D vwCl (tysW cI cZ cC) A Z) {x1 : Int32} {M : Mem} (hf : f_K_hint x1 M = some (r, M')) : GW p l e rm_K_hint s m args below meth c (MQ below (QW D vwCl (tysW cI cZ cC) A (some (.int r)) (wk ad cI cZ cC M')) args s 0 0 A) D vwCl A 4 0 0 (wk ad cI cZ cC M) 0 [(0, .ref (ad 0)), (1, .int x1)] [] := by
  unfold f_K_hint at hf
  refine gw_aload_n C 0 d_K_hint_0 rfl rfl ?_
  refine gw_iconst (v := (0 : Int32)) C d_K_hint_1 (by decide) ?_
  refine gw_put C in_K ty_K tk_K nm_K 0 wkg_0 clg_5 0 (by decide) tw_686 rfl rfl rfl rfl (Nat.le_of_ble_eq_true rfl) d_K_hint_2 wkf_0_0 ?_
  refine gw_aload_n C 0 d_K_hint_5 rfl rfl ?_
  obtain ⟨M6, hc6, hf⟩ := om_some hf
  refine gw_callVv (rest := []) C 0 wkg_0 clg_5 (c_K_none C.2.2.2.2.2.2.2.2.2.2 hc6) (cwV 0 C.2.2.2.2.1 (gTB_V tw_977 mv_K_none) rfl rfl rfl pd_K_none ⟨Nat.le_of_ble_eq_true rfl, Nat.le_of_ble_eq_true rfl⟩) rfl rfl (Nat.le_of_ble_eq_true rfl) d_K_hint_6 ⟨Nat.le_of_ble_eq_true rfl, Nat.le_of_ble_eq_true rfl⟩ ?_
  refine gw_aload_n C 0 d_K_hint_9 rfl rfl ?_
  refine gw_iconst (v := (-1 : Int32)) C d_K_hint_10 (by decide) ?_
  obtain ⟨r11, M11, hc11, hf⟩ := ob_some hf
  refine gw_callVr (rest := []) C 0 wkg_0 clg_5 (c_K_can C.2.2.2.2.2.2.2.2.2.2 hc11) (cwV 1 C.2.2.2.2.1 (gTB_V tw_981 mv_K_can) rfl rfl rfl pd_K_can ⟨Nat.le_of_ble_eq_true rfl, Nat.le_of_ble_eq_true rfl⟩) rfl rfl (Nat.le_of_ble_eq_true rfl) d_K_hint_11 ⟨Nat.le_of_ble_eq_true rfl, Nat.le_of_ble_eq_true rfl⟩ ?_
  refine gw_if_eq (tgt := 19) C d_K_hint_14 (by decide) (fun c => ?_) (fun c => ?_)
  · have hf := (if_pos c).symm.trans hf
    refine gw_iload_n C 1 d_K_hint_19 rfl rfl ?_
    refine gw_istore_n (lv' := [(2, .int x1), (0, .ref (ad 0)), (1, .int x1)]) C d_K_hint_20 rfl (by decide) rfl ?_
    refine gw_iconst (v := (0 : Int32)) C d_K_hint_21 (by decide) ?_
    refine gw_istore_n (lv' := [(3, .int (0 : Int32)), (2, .int x1), (0, .ref (ad 0)), (1, .int x1)]) C d_K_hint_22 rfl (by decide) rfl ?_
    exact gw_sub [2, 1, 0] rfl (g_K_hint_23 C _ _ _ _ hf)
  · have hf := (if_neg c).symm.trans hf
    refine gw_iconst (v := (-1 : Int32)) C d_K_hint_17 (by decide) ?_
    exact gw_ireti C d_K_hint_18 (wk ad cI cZ cC) hf
theorem c_K_hint (hZ : gw_ZOK Z) {x1 : Int32} {M : Mem} {r : Int32} {M' : Mem} (hf : f_K_hint x1 M = some (r, M')) : CW l y_K_hint ws_K_hint rm_K_hint D vwCl (tysW cI cZ cC) Z [.ref (ad 0), .int x1] (wk ad cI cZ cC M) (some (.int r)) (wk ad cI cZ cC M') 0 0 :=
  CW.ofG hZ (by decide) rfl (Nat.le_of_ble_eq_true rfl) (fun _ _ _ _ _ _ _ _ C _ => g_K_hint C hf)
end MODEL3
