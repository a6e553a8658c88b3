theorem gw_w {p : Program} {l : Launch} {e : Env} {R : Room} {s : State} {m : MethodId} {args : Array Value} {below : List Frame} {meth : Method} {c : Code} {Q : State → Prop} {D : va_G} {cl : List vw_C} {A : Nat → Prop} {nL cells slots : Nat} {w w' : va_W} {pc : Nat} {lv : List (Nat × Value)} {st : List Value} (h : w = w') (k : GW p l e R s m args below meth c Q D cl A nL cells slots w' pc lv st) : GW p l e R s m args below meth c Q D cl A nL cells slots w pc lv st := h ▸ k
theorem tv_82 : Cond.instanceMethod Lib.objectInit ∈ TB := inTB 82 (by decide +kernel) (by decide +kernel)
set_option maxRecDepth 100000 in
theorem tv_83 : Cond.code Lib.objectInit ⟨#[0xb1]⟩ 1 none ∈ TB := inTB 83 rfl rfl
theorem tv_127 : Cond.arrayClass FieldType.int ∈ TB := inTB 127 (by decide +kernel) (by decide +kernel)
theorem tv_225 : Cond.arrayClass FieldType.boolean ∈ TB := inTB 225 (by decide +kernel) (by decide +kernel)
theorem tv_202 : Cond.arrayClass FieldType.char ∈ TB := inTB 202 (by decide +kernel) (by decide +kernel)
theorem tv_89 : Cond.methodLink "NoneWords$Facts" 5 Lib.objectInit ∈ TB := inTB 89 (by decide +kernel) (by decide +kernel)
theorem tv_93 : Cond.fieldLink "NoneWords$Facts" 11 "NoneWords$Facts" "versions" "[I" ∈ TB := inTB 93 (by decide +kernel) (by decide +kernel)
theorem tv_94 : Cond.fieldLink "NoneWords$Facts" 15 "NoneWords$Facts" "names" "I" ∈ TB := inTB 94 (by decide +kernel) (by decide +kernel)
theorem tv_95 : Cond.fieldLink "NoneWords$Facts" 19 "NoneWords$Facts" "kinds" "[I" ∈ TB := inTB 95 (by decide +kernel) (by decide +kernel)
theorem tv_96 : Cond.fieldLink "NoneWords$Facts" 22 "NoneWords$Facts" "truths" "[I" ∈ TB := inTB 96 (by decide +kernel) (by decide +kernel)
theorem tv_97 : Cond.fieldLink "NoneWords$Facts" 25 "NoneWords$Facts" "toldNames" "[I" ∈ TB := inTB 97 (by decide +kernel) (by decide +kernel)
theorem tv_98 : Cond.fieldLink "NoneWords$Facts" 28 "NoneWords$Facts" "toldSets" "[I" ∈ TB := inTB 98 (by decide +kernel) (by decide +kernel)
theorem tv_99 : Cond.fieldLink "NoneWords$Facts" 31 "NoneWords$Facts" "toldOthers" "[I" ∈ TB := inTB 99 (by decide +kernel) (by decide +kernel)
theorem tv_100 : Cond.fieldLink "NoneWords$Facts" 34 "NoneWords$Facts" "toldOtherSets" "[I" ∈ TB := inTB 100 (by decide +kernel) (by decide +kernel)
theorem tv_101 : Cond.fieldLink "NoneWords$Facts" 37 "NoneWords$Facts" "leftParts" "[I" ∈ TB := inTB 101 (by decide +kernel) (by decide +kernel)
theorem tv_102 : Cond.fieldLink "NoneWords$Facts" 40 "NoneWords$Facts" "rightParts" "[I" ∈ TB := inTB 102 (by decide +kernel) (by decide +kernel)
theorem tv_103 : Cond.fieldLink "NoneWords$Facts" 43 "NoneWords$Facts" "nodes" "I" ∈ TB := inTB 103 (by decide +kernel) (by decide +kernel)
theorem tv_90 : Cond.methodLink "NoneWords$Facts" 46 y_A_fill ∈ TB := inTB 90 (by decide +kernel) (by decide +kernel)
theorem tv_133 : Cond.methodLink "NoneWords$Writer" 3 Lib.objectInit ∈ TB := inTB 133 (by decide +kernel) (by decide +kernel)
theorem tv_135 : Cond.fieldLink "NoneWords$Writer" 9 "NoneWords$Writer" "uses" "[I" ∈ TB := inTB 135 (by decide +kernel) (by decide +kernel)
theorem tv_136 : Cond.fieldLink "NoneWords$Writer" 15 "NoneWords$Writer" "nodeNumbers" "[I" ∈ TB := inTB 136 (by decide +kernel) (by decide +kernel)
theorem tv_137 : Cond.fieldLink "NoneWords$Writer" 18 "NoneWords$Writer" "numbers" "I" ∈ TB := inTB 137 (by decide +kernel) (by decide +kernel)
theorem tv_138 : Cond.fieldLink "NoneWords$Writer" 22 "NoneWords$Writer" "openings" "[I" ∈ TB := inTB 138 (by decide +kernel) (by decide +kernel)
theorem tv_139 : Cond.fieldLink "NoneWords$Writer" 25 "NoneWords$Writer" "firstCauses" "[I" ∈ TB := inTB 139 (by decide +kernel) (by decide +kernel)
theorem tv_140 : Cond.fieldLink "NoneWords$Writer" 28 "NoneWords$Writer" "secondCauses" "[I" ∈ TB := inTB 140 (by decide +kernel) (by decide +kernel)
theorem tv_141 : Cond.fieldLink "NoneWords$Writer" 31 "NoneWords$Writer" "conclusions" "[I" ∈ TB := inTB 141 (by decide +kernel) (by decide +kernel)
theorem tv_142 : Cond.fieldLink "NoneWords$Writer" 34 "NoneWords$Writer" "sentenceNumbers" "[I" ∈ TB := inTB 142 (by decide +kernel) (by decide +kernel)
theorem tv_143 : Cond.fieldLink "NoneWords$Writer" 37 "NoneWords$Writer" "sentences" "I" ∈ TB := inTB 143 (by decide +kernel) (by decide +kernel)
theorem tv_144 : Cond.fieldLink "NoneWords$Writer" 40 "NoneWords$Writer" "steps" "[I" ∈ TB := inTB 144 (by decide +kernel) (by decide +kernel)
theorem tv_145 : Cond.fieldLink "NoneWords$Writer" 43 "NoneWords$Writer" "stepNodes" "[I" ∈ TB := inTB 145 (by decide +kernel) (by decide +kernel)
theorem tv_146 : Cond.fieldLink "NoneWords$Writer" 46 "NoneWords$Writer" "stepFirsts" "[I" ∈ TB := inTB 146 (by decide +kernel) (by decide +kernel)
theorem tv_147 : Cond.fieldLink "NoneWords$Writer" 49 "NoneWords$Writer" "stepSeconds" "[I" ∈ TB := inTB 147 (by decide +kernel) (by decide +kernel)
theorem tv_148 : Cond.fieldLink "NoneWords$Writer" 52 "NoneWords$Writer" "waiting" "I" ∈ TB := inTB 148 (by decide +kernel) (by decide +kernel)
theorem tv_134 : Cond.fieldLink "NoneWords$Writer" 55 "NoneWords$Writer" "facts" "LNoneWords$Facts;" ∈ TB := inTB 134 (by decide +kernel) (by decide +kernel)
theorem tv_185 : Cond.methodLink "NoneWords$Speech" 3 Lib.objectInit ∈ TB := inTB 185 (by decide +kernel) (by decide +kernel)
theorem tv_188 : Cond.fieldLink "NoneWords$Speech" 11 "NoneWords$Speech" "signs" "[C" ∈ TB := inTB 188 (by decide +kernel) (by decide +kernel)
theorem tv_189 : Cond.fieldLink "NoneWords$Speech" 15 "NoneWords$Speech" "length" "I" ∈ TB := inTB 189 (by decide +kernel) (by decide +kernel)
theorem tv_190 : Cond.fieldLink "NoneWords$Speech" 19 "NoneWords$Speech" "shown" "I" ∈ TB := inTB 190 (by decide +kernel) (by decide +kernel)
theorem tv_186 : Cond.fieldLink "NoneWords$Speech" 22 "NoneWords$Speech" "facts" "LNoneWords$Facts;" ∈ TB := inTB 186 (by decide +kernel) (by decide +kernel)
theorem tv_187 : Cond.fieldLink "NoneWords$Speech" 26 "NoneWords$Speech" "writer" "LNoneWords$Writer;" ∈ TB := inTB 187 (by decide +kernel) (by decide +kernel)
theorem tv_208 : Cond.methodLink "NoneWords$Search" 3 Lib.objectInit ∈ TB := inTB 208 (by decide +kernel) (by decide +kernel)
theorem tv_210 : Cond.fieldLink "NoneWords$Search" 9 "NoneWords$Search" "leftOut" "[Z" ∈ TB := inTB 210 (by decide +kernel) (by decide +kernel)
theorem tv_211 : Cond.fieldLink "NoneWords$Search" 17 "NoneWords$Search" "bars" "[I" ∈ TB := inTB 211 (by decide +kernel) (by decide +kernel)
theorem tv_212 : Cond.fieldLink "NoneWords$Search" 21 "NoneWords$Search" "stayed" "[I" ∈ TB := inTB 212 (by decide +kernel) (by decide +kernel)
theorem tv_213 : Cond.fieldLink "NoneWords$Search" 24 "NoneWords$Search" "stays" "I" ∈ TB := inTB 213 (by decide +kernel) (by decide +kernel)
theorem tv_209 : Cond.fieldLink "NoneWords$Search" 28 "NoneWords$Search" "facts" "LNoneWords$Facts;" ∈ TB := inTB 209 (by decide +kernel) (by decide +kernel)
theorem tv_684 : Cond.methodLink "NoneWordsModel" 1 Lib.objectInit ∈ TB := inTB 684 (by decide +kernel) (by decide +kernel)
theorem tv_687 : Cond.fieldLink "NoneWordsModel" 7 "NoneWordsModel" "versions" "[I" ∈ TB := inTB 687 (by decide +kernel) (by decide +kernel)
theorem tv_690 : Cond.fieldLink "NoneWordsModel" 13 "NoneWordsModel" "kind" "[I" ∈ TB := inTB 690 (by decide +kernel) (by decide +kernel)
theorem tv_691 : Cond.fieldLink "NoneWordsModel" 16 "NoneWordsModel" "one" "[I" ∈ TB := inTB 691 (by decide +kernel) (by decide +kernel)
theorem tv_692 : Cond.fieldLink "NoneWordsModel" 19 "NoneWordsModel" "oneSet" "[I" ∈ TB := inTB 692 (by decide +kernel) (by decide +kernel)
theorem tv_693 : Cond.fieldLink "NoneWordsModel" 22 "NoneWordsModel" "two" "[I" ∈ TB := inTB 693 (by decide +kernel) (by decide +kernel)
theorem tv_694 : Cond.fieldLink "NoneWordsModel" 25 "NoneWordsModel" "twoSet" "[I" ∈ TB := inTB 694 (by decide +kernel) (by decide +kernel)
theorem tv_695 : Cond.fieldLink "NoneWordsModel" 28 "NoneWordsModel" "has" "[Z" ∈ TB := inTB 695 (by decide +kernel) (by decide +kernel)
theorem tv_696 : Cond.fieldLink "NoneWordsModel" 32 "NoneWordsModel" "says" "[Z" ∈ TB := inTB 696 (by decide +kernel) (by decide +kernel)
theorem tv_685 : Cond.constant "NoneWordsModel" 35 60000 ∈ TB := inTB 685 (by decide +kernel) (by decide +kernel)
theorem tv_697 : Cond.fieldLink "NoneWordsModel" 36 "NoneWordsModel" "out" "[I" ∈ TB := inTB 697 (by decide +kernel) (by decide +kernel)
theorem tv_698 : Cond.fieldLink "NoneWordsModel" 39 "NoneWordsModel" "begins" "[I" ∈ TB := inTB 698 (by decide +kernel) (by decide +kernel)
theorem tv_699 : Cond.fieldLink "NoneWordsModel" 42 "NoneWordsModel" "lines" "[I" ∈ TB := inTB 699 (by decide +kernel) (by decide +kernel)
theorem tv_700 : Cond.fieldLink "NoneWordsModel" 45 "NoneWordsModel" "number" "[I" ∈ TB := inTB 700 (by decide +kernel) (by decide +kernel)
theorem tv_701 : Cond.fieldLink "NoneWordsModel" 48 "NoneWordsModel" "used" "[I" ∈ TB := inTB 701 (by decide +kernel) (by decide +kernel)
theorem tv_705 : Cond.fieldLink "NoneWordsModel" 51 "NoneWordsModel" "in" "[Z" ∈ TB := inTB 705 (by decide +kernel) (by decide +kernel)
theorem tv_706 : Cond.fieldLink "NoneWordsModel" 54 "NoneWordsModel" "pile" "[I" ∈ TB := inTB 706 (by decide +kernel) (by decide +kernel)
theorem tv_707 : Cond.fieldLink "NoneWordsModel" 57 "NoneWordsModel" "steps" "[I" ∈ TB := inTB 707 (by decide +kernel) (by decide +kernel)
theorem tv_708 : Cond.fieldLink "NoneWordsModel" 60 "NoneWordsModel" "kept" "[I" ∈ TB := inTB 708 (by decide +kernel) (by decide +kernel)
theorem tv_710 : Cond.fieldLink "NoneWordsModel" 63 "NoneWordsModel" "world" "[I" ∈ TB := inTB 710 (by decide +kernel) (by decide +kernel)
theorem tv_711 : Cond.fieldLink "NoneWordsModel" 66 "NoneWordsModel" "away" "[Z" ∈ TB := inTB 711 (by decide +kernel) (by decide +kernel)
theorem tv_712 : Cond.fieldLink "NoneWordsModel" 69 "NoneWordsModel" "stay" "[I" ∈ TB := inTB 712 (by decide +kernel) (by decide +kernel)
theorem tv_81 : Cond.methodLink "NoneWords" 1 Lib.objectInit ∈ TB := inTB 81 (by decide +kernel) (by decide +kernel)
theorem tv_84 : Cond.classLink "NoneWords" 7 "NoneWords$Facts" ∈ TB := inTB 84 (by decide +kernel) (by decide +kernel)
theorem tv_85 : Cond.instantiable "NoneWords$Facts" 11 ∈ TB := inTB 85 (by decide +kernel) (by decide +kernel)
theorem tv_66 : Cond.initialized "NoneWords$Facts" ∈ TB := inTB 66 (by decide +kernel) (by decide +kernel)
theorem tv_86 : Cond.methodLink "NoneWords" 9 ⟨"NoneWords$Facts", "<init>", "()V"⟩ ∈ TB := inTB 86 (by decide +kernel) (by decide +kernel)
theorem tv_87 : Cond.instanceMethod ⟨"NoneWords$Facts", "<init>", "()V"⟩ ∈ TB := inTB 87 (by decide +kernel) (by decide +kernel)
theorem tv_226 : Cond.fieldLink "NoneWords" 10 "NoneWords" "facts" "LNoneWords$Facts;" ∈ TB := inTB 226 (by decide +kernel) (by decide +kernel)
theorem tv_128 : Cond.classLink "NoneWords" 16 "NoneWords$Writer" ∈ TB := inTB 128 (by decide +kernel) (by decide +kernel)
theorem tv_129 : Cond.instantiable "NoneWords$Writer" 15 ∈ TB := inTB 129 (by decide +kernel) (by decide +kernel)
theorem tv_68 : Cond.initialized "NoneWords$Writer" ∈ TB := inTB 68 (by decide +kernel) (by decide +kernel)
theorem tv_130 : Cond.methodLink "NoneWords" 18 ⟨"NoneWords$Writer", "<init>", "(LNoneWords$Facts;)V"⟩ ∈ TB := inTB 130 (by decide +kernel) (by decide +kernel)
theorem tv_131 : Cond.instanceMethod ⟨"NoneWords$Writer", "<init>", "(LNoneWords$Facts;)V"⟩ ∈ TB := inTB 131 (by decide +kernel) (by decide +kernel)
theorem tv_227 : Cond.fieldLink "NoneWords" 21 "NoneWords" "writer" "LNoneWords$Writer;" ∈ TB := inTB 227 (by decide +kernel) (by decide +kernel)
theorem tv_180 : Cond.classLink "NoneWords" 25 "NoneWords$Speech" ∈ TB := inTB 180 (by decide +kernel) (by decide +kernel)
theorem tv_181 : Cond.instantiable "NoneWords$Speech" 5 ∈ TB := inTB 181 (by decide +kernel) (by decide +kernel)
theorem tv_69 : Cond.initialized "NoneWords$Speech" ∈ TB := inTB 69 (by decide +kernel) (by decide +kernel)
theorem tv_182 : Cond.methodLink "NoneWords" 27 ⟨"NoneWords$Speech", "<init>", "(LNoneWords$Facts;LNoneWords$Writer;)V"⟩ ∈ TB := inTB 182 (by decide +kernel) (by decide +kernel)
theorem tv_183 : Cond.instanceMethod ⟨"NoneWords$Speech", "<init>", "(LNoneWords$Facts;LNoneWords$Writer;)V"⟩ ∈ TB := inTB 183 (by decide +kernel) (by decide +kernel)
theorem tv_228 : Cond.fieldLink "NoneWords" 30 "NoneWords" "speech" "LNoneWords$Speech;" ∈ TB := inTB 228 (by decide +kernel) (by decide +kernel)
theorem tv_203 : Cond.classLink "NoneWords" 34 "NoneWords$Search" ∈ TB := inTB 203 (by decide +kernel) (by decide +kernel)
theorem tv_204 : Cond.instantiable "NoneWords$Search" 5 ∈ TB := inTB 204 (by decide +kernel) (by decide +kernel)
theorem tv_70 : Cond.initialized "NoneWords$Search" ∈ TB := inTB 70 (by decide +kernel) (by decide +kernel)
theorem tv_205 : Cond.methodLink "NoneWords" 36 ⟨"NoneWords$Search", "<init>", "(LNoneWords$Facts;)V"⟩ ∈ TB := inTB 205 (by decide +kernel) (by decide +kernel)
theorem tv_206 : Cond.instanceMethod ⟨"NoneWords$Search", "<init>", "(LNoneWords$Facts;)V"⟩ ∈ TB := inTB 206 (by decide +kernel) (by decide +kernel)
theorem tv_229 : Cond.fieldLink "NoneWords" 37 "NoneWords" "search" "LNoneWords$Search;" ∈ TB := inTB 229 (by decide +kernel) (by decide +kernel)
section CTOR
variable {l : Launch} {D : va_G} {Z : gw_Z} {cI cZ cC : ClassId}
abbrev b_F_init : ByteArray := prog_2_method_1_code
def y_F_init : MethodName := ⟨"NoneWords$Facts", "<init>", "()V"⟩
abbrev ws_F_init : List Cond := Cond.code y_F_init b_F_init 1 (none) :: TB
set_option maxRecDepth 100000 in
theorem tc_F_init : Cond.code y_F_init b_F_init 1 (none) ∈ TB := inTB 88 rfl rfl
theorem mv_F_init : Cond.instanceMethod y_F_init ∈ TB ∧ Cond.initialized "NoneWords$Facts" ∈ TB ∧ Cond.code y_F_init b_F_init 1 (none) ∈ TB := ⟨inTB 87 (by decide +kernel) (by decide +kernel), inTB 66 (by decide +kernel) (by decide +kernel), tc_F_init⟩
theorem pd_F_init : y_F_init.cls ≠ "java/lang/invoke/MethodHandle" ∧ y_F_init.cls ≠ "java/lang/invoke/VarHandle" ∧ (parseMethodDescriptor y_F_init.desc).map (fun d => d.parameters.length) = some 0 := by decide +kernel
theorem d_F_init_0 : decode b_F_init 0 = .ok (.aload_n 0, 1) := by decide +kernel
theorem d_F_init_1 : decode b_F_init 1 = .ok (.invokespecial 5, 3) := by decide +kernel
theorem d_F_init_4 : decode b_F_init 4 = .ok (.aload_n 0, 1) := by decide +kernel
theorem d_F_init_5 : decode b_F_init 5 = .ok (.iconst 5, 1) := by decide +kernel
theorem d_F_init_6 : decode b_F_init 6 = .ok (.newarray .int, 2) := by decide +kernel
theorem d_F_init_8 : decode b_F_init 8 = .ok (.putfield 11, 3) := by decide +kernel
theorem d_F_init_11 : decode b_F_init 11 = .ok (.aload_n 0, 1) := by decide +kernel
theorem d_F_init_12 : decode b_F_init 12 = .ok (.iconst 0, 1) := by decide +kernel
theorem d_F_init_13 : decode b_F_init 13 = .ok (.putfield 15, 3) := by decide +kernel
theorem d_F_init_16 : decode b_F_init 16 = .ok (.aload_n 0, 1) := by decide +kernel
theorem d_F_init_17 : decode b_F_init 17 = .ok (.bipush 120, 2) := by decide +kernel
theorem d_F_init_19 : decode b_F_init 19 = .ok (.newarray .int, 2) := by decide +kernel
theorem d_F_init_21 : decode b_F_init 21 = .ok (.putfield 19, 3) := by decide +kernel
theorem d_F_init_24 : decode b_F_init 24 = .ok (.aload_n 0, 1) := by decide +kernel
theorem d_F_init_25 : decode b_F_init 25 = .ok (.bipush 120, 2) := by decide +kernel
theorem d_F_init_27 : decode b_F_init 27 = .ok (.newarray .int, 2) := by decide +kernel
theorem d_F_init_29 : decode b_F_init 29 = .ok (.putfield 22, 3) := by decide +kernel
theorem d_F_init_32 : decode b_F_init 32 = .ok (.aload_n 0, 1) := by decide +kernel
theorem d_F_init_33 : decode b_F_init 33 = .ok (.bipush 120, 2) := by decide +kernel
theorem d_F_init_35 : decode b_F_init 35 = .ok (.newarray .int, 2) := by decide +kernel
theorem d_F_init_37 : decode b_F_init 37 = .ok (.putfield 25, 3) := by decide +kernel
theorem d_F_init_40 : decode b_F_init 40 = .ok (.aload_n 0, 1) := by decide +kernel
theorem d_F_init_41 : decode b_F_init 41 = .ok (.bipush 120, 2) := by decide +kernel
theorem d_F_init_43 : decode b_F_init 43 = .ok (.newarray .int, 2) := by decide +kernel
theorem d_F_init_45 : decode b_F_init 45 = .ok (.putfield 28, 3) := by decide +kernel
theorem d_F_init_48 : decode b_F_init 48 = .ok (.aload_n 0, 1) := by decide +kernel
theorem d_F_init_49 : decode b_F_init 49 = .ok (.bipush 120, 2) := by decide +kernel
theorem d_F_init_51 : decode b_F_init 51 = .ok (.newarray .int, 2) := by decide +kernel
theorem d_F_init_53 : decode b_F_init 53 = .ok (.putfield 31, 3) := by decide +kernel
theorem d_F_init_56 : decode b_F_init 56 = .ok (.aload_n 0, 1) := by decide +kernel
theorem d_F_init_57 : decode b_F_init 57 = .ok (.bipush 120, 2) := by decide +kernel
theorem d_F_init_59 : decode b_F_init 59 = .ok (.newarray .int, 2) := by decide +kernel
theorem d_F_init_61 : decode b_F_init 61 = .ok (.putfield 34, 3) := by decide +kernel
theorem d_F_init_64 : decode b_F_init 64 = .ok (.aload_n 0, 1) := by decide +kernel
theorem d_F_init_65 : decode b_F_init 65 = .ok (.bipush 120, 2) := by decide +kernel
theorem d_F_init_67 : decode b_F_init 67 = .ok (.newarray .int, 2) := by decide +kernel
theorem d_F_init_69 : decode b_F_init 69 = .ok (.putfield 37, 3) := by decide +kernel
theorem d_F_init_72 : decode b_F_init 72 = .ok (.aload_n 0, 1) := by decide +kernel
theorem d_F_init_73 : decode b_F_init 73 = .ok (.bipush 120, 2) := by decide +kernel
theorem d_F_init_75 : decode b_F_init 75 = .ok (.newarray .int, 2) := by decide +kernel
theorem d_F_init_77 : decode b_F_init 77 = .ok (.putfield 40, 3) := by decide +kernel
theorem d_F_init_80 : decode b_F_init 80 = .ok (.aload_n 0, 1) := by decide +kernel
theorem d_F_init_81 : decode b_F_init 81 = .ok (.iconst 0, 1) := by decide +kernel
theorem d_F_init_82 : decode b_F_init 82 = .ok (.putfield 43, 3) := by decide +kernel
theorem d_F_init_85 : decode b_F_init 85 = .ok (.aload_n 0, 1) := by decide +kernel
theorem d_F_init_86 : decode b_F_init 86 = .ok (.getfield 37, 3) := by decide +kernel
theorem d_F_init_89 : decode b_F_init 89 = .ok (.iconst (-1), 1) := by decide +kernel
theorem d_F_init_90 : decode b_F_init 90 = .ok (.invokestatic 46, 3) := by decide +kernel
theorem d_F_init_93 : decode b_F_init 93 = .ok (.aload_n 0, 1) := by decide +kernel
theorem d_F_init_94 : decode b_F_init 94 = .ok (.getfield 40, 3) := by decide +kernel
theorem d_F_init_97 : decode b_F_init 97 = .ok (.iconst (-1), 1) := by decide +kernel
theorem d_F_init_98 : decode b_F_init 98 = .ok (.invokestatic 46, 3) := by decide +kernel
theorem d_F_init_101 : decode b_F_init 101 = .ok (.return_, 1) := by decide +kernel
abbrev rm_F_init : Room := { frames := 1, cells := 9, slots := 965, locals := 30 }
def w0_F (a : Nat) (g : Nat → Nat) (cI cZ cC : ClassId) : va_W := [(a, .inr (0, [.ref (g 0), .int (0), .ref (g 1), .ref (g 2), .ref (g 3), .ref (g 4), .ref (g 5), .ref (g 6), .ref (g 7), .ref (g 8), .int (0)])), ((g 0), .inl (cI, 5, .inl (fun _ => 0))), ((g 1), .inl (cI, 120, .inl (fun _ => 0))), ((g 2), .inl (cI, 120, .inl (fun _ => 0))), ((g 3), .inl (cI, 120, .inl (fun _ => 0))), ((g 4), .inl (cI, 120, .inl (fun _ => 0))), ((g 5), .inl (cI, 120, .inl (fun _ => 0))), ((g 6), .inl (cI, 120, .inl (fun _ => 0))), ((g 7), .inl (cI, 120, .inl (fun j => if j < 120 then (-1) else 0))), ((g 8), .inl (cI, 120, .inl (fun j => if j < 120 then (-1) else 0)))]
set_option maxRecDepth 100000 in
theorem c_F_init (hZ : gw_ZOK Z) {a : Nat} : CX l y_F_init ws_F_init rm_F_init D vwCl (tysW cI cZ cC) Z [.ref a] [(a, .inr (0, [.null, .int 0, .null, .null, .null, .null, .null, .null, .null, .null, .int 0]))] (fun wf => ∃ g : Nat → Nat, wf = w0_F a g cI cZ cC) 9 965 := by
  refine CX.ofG hZ (by decide) rfl (Nat.le_of_ble_eq_true rfl) (fun p e s m below meth c A C hin2 => ?_)
  refine gw_aload_n C 0 d_F_init_0 rfl rfl ?_
  refine gw_objInit C tv_89 tv_82 tv_83 d_F_init_1 (Nat.le_of_ble_eq_true rfl) (Nat.le_of_ble_eq_true rfl) ?_
  refine gw_aload_n C 0 d_F_init_4 rfl rfl ?_
  refine gw_iconst (v := 5) C d_F_init_5 (by decide) ?_
  refine gw_newa (ty := .int) (N := 5) C rfl tv_127 0 rfl ra_i rfl (by decide) (by decide) (by decide) (Nat.le_of_ble_eq_true rfl) (Nat.le_of_ble_eq_true rfl) d_F_init_6 (fun q6 => ?_)
  refine gw_w (w' := [(a, .inr (0, [.null, .int 0, .null, .null, .null, .null, .null, .null, .null, .null, .int 0])), (q6, .inl (cI, 5, .inl (fun _ => 0)))]) rfl ?_
  refine gw_widen (k := 1) (n := 5) (Nat.le_of_ble_eq_true rfl) (Nat.le_of_ble_eq_true rfl) ?_
  refine gw_putF (w' := [(a, .inr (0, [.ref q6, .int 0, .null, .null, .null, .null, .null, .null, .null, .null, .int 0])), (q6, .inl (cI, 5, .inl (fun _ => 0)))]) C hin2 in_F ty_F tk_F nm_F 0 rfl clg_0 0 (by decide) tv_93 rfl rfl rfl rfl (Nat.le_of_ble_eq_true rfl) d_F_init_8 rfl ?_
  refine gw_aload_n C 0 d_F_init_11 rfl rfl ?_
  refine gw_iconst (v := 0) C d_F_init_12 (by decide) ?_
  refine gw_put (w' := [(a, .inr (0, [.ref q6, .int (0), .null, .null, .null, .null, .null, .null, .null, .null, .int 0])), (q6, .inl (cI, 5, .inl (fun _ => 0)))]) C in_F ty_F tk_F nm_F 0 rfl clg_0 1 (by decide) tv_94 rfl rfl rfl rfl (Nat.le_of_ble_eq_true rfl) d_F_init_13 rfl ?_
  refine gw_aload_n C 0 d_F_init_16 rfl rfl ?_
  refine gw_bipush (v := 120) C d_F_init_17 (by decide) ?_
  refine gw_newa (ty := .int) (N := 120) C rfl tv_127 0 rfl ra_i rfl (by decide) (by decide) (by decide) (Nat.le_of_ble_eq_true rfl) (Nat.le_of_ble_eq_true rfl) d_F_init_19 (fun q19 => ?_)
  refine gw_w (w' := [(a, .inr (0, [.ref q6, .int (0), .null, .null, .null, .null, .null, .null, .null, .null, .int 0])), (q6, .inl (cI, 5, .inl (fun _ => 0))), (q19, .inl (cI, 120, .inl (fun _ => 0)))]) rfl ?_
  refine gw_widen (k := 2) (n := 125) (Nat.le_of_ble_eq_true rfl) (Nat.le_of_ble_eq_true rfl) ?_
  refine gw_putF (w' := [(a, .inr (0, [.ref q6, .int (0), .ref q19, .null, .null, .null, .null, .null, .null, .null, .int 0])), (q6, .inl (cI, 5, .inl (fun _ => 0))), (q19, .inl (cI, 120, .inl (fun _ => 0)))]) C hin2 in_F ty_F tk_F nm_F 0 rfl clg_0 2 (by decide) tv_95 rfl rfl rfl rfl (Nat.le_of_ble_eq_true rfl) d_F_init_21 rfl ?_
  refine gw_aload_n C 0 d_F_init_24 rfl rfl ?_
  refine gw_bipush (v := 120) C d_F_init_25 (by decide) ?_
  refine gw_newa (ty := .int) (N := 120) C rfl tv_127 0 rfl ra_i rfl (by decide) (by decide) (by decide) (Nat.le_of_ble_eq_true rfl) (Nat.le_of_ble_eq_true rfl) d_F_init_27 (fun q27 => ?_)
  refine gw_w (w' := [(a, .inr (0, [.ref q6, .int (0), .ref q19, .null, .null, .null, .null, .null, .null, .null, .int 0])), (q6, .inl (cI, 5, .inl (fun _ => 0))), (q19, .inl (cI, 120, .inl (fun _ => 0))), (q27, .inl (cI, 120, .inl (fun _ => 0)))]) rfl ?_
  refine gw_widen (k := 3) (n := 245) (Nat.le_of_ble_eq_true rfl) (Nat.le_of_ble_eq_true rfl) ?_
  refine gw_putF (w' := [(a, .inr (0, [.ref q6, .int (0), .ref q19, .ref q27, .null, .null, .null, .null, .null, .null, .int 0])), (q6, .inl (cI, 5, .inl (fun _ => 0))), (q19, .inl (cI, 120, .inl (fun _ => 0))), (q27, .inl (cI, 120, .inl (fun _ => 0)))]) C hin2 in_F ty_F tk_F nm_F 0 rfl clg_0 3 (by decide) tv_96 rfl rfl rfl rfl (Nat.le_of_ble_eq_true rfl) d_F_init_29 rfl ?_
  refine gw_aload_n C 0 d_F_init_32 rfl rfl ?_
  refine gw_bipush (v := 120) C d_F_init_33 (by decide) ?_
  refine gw_newa (ty := .int) (N := 120) C rfl tv_127 0 rfl ra_i rfl (by decide) (by decide) (by decide) (Nat.le_of_ble_eq_true rfl) (Nat.le_of_ble_eq_true rfl) d_F_init_35 (fun q35 => ?_)
  refine gw_w (w' := [(a, .inr (0, [.ref q6, .int (0), .ref q19, .ref q27, .null, .null, .null, .null, .null, .null, .int 0])), (q6, .inl (cI, 5, .inl (fun _ => 0))), (q19, .inl (cI, 120, .inl (fun _ => 0))), (q27, .inl (cI, 120, .inl (fun _ => 0))), (q35, .inl (cI, 120, .inl (fun _ => 0)))]) rfl ?_
  refine gw_widen (k := 4) (n := 365) (Nat.le_of_ble_eq_true rfl) (Nat.le_of_ble_eq_true rfl) ?_
  refine gw_putF (w' := [(a, .inr (0, [.ref q6, .int (0), .ref q19, .ref q27, .ref q35, .null, .null, .null, .null, .null, .int 0])), (q6, .inl (cI, 5, .inl (fun _ => 0))), (q19, .inl (cI, 120, .inl (fun _ => 0))), (q27, .inl (cI, 120, .inl (fun _ => 0))), (q35, .inl (cI, 120, .inl (fun _ => 0)))]) C hin2 in_F ty_F tk_F nm_F 0 rfl clg_0 4 (by decide) tv_97 rfl rfl rfl rfl (Nat.le_of_ble_eq_true rfl) d_F_init_37 rfl ?_
  refine gw_aload_n C 0 d_F_init_40 rfl rfl ?_
  refine gw_bipush (v := 120) C d_F_init_41 (by decide) ?_
  refine gw_newa (ty := .int) (N := 120) C rfl tv_127 0 rfl ra_i rfl (by decide) (by decide) (by decide) (Nat.le_of_ble_eq_true rfl) (Nat.le_of_ble_eq_true rfl) d_F_init_43 (fun q43 => ?_)
  refine gw_w (w' := [(a, .inr (0, [.ref q6, .int (0), .ref q19, .ref q27, .ref q35, .null, .null, .null, .null, .null, .int 0])), (q6, .inl (cI, 5, .inl (fun _ => 0))), (q19, .inl (cI, 120, .inl (fun _ => 0))), (q27, .inl (cI, 120, .inl (fun _ => 0))), (q35, .inl (cI, 120, .inl (fun _ => 0))), (q43, .inl (cI, 120, .inl (fun _ => 0)))]) rfl ?_
  refine gw_widen (k := 5) (n := 485) (Nat.le_of_ble_eq_true rfl) (Nat.le_of_ble_eq_true rfl) ?_
  refine gw_putF (w' := [(a, .inr (0, [.ref q6, .int (0), .ref q19, .ref q27, .ref q35, .ref q43, .null, .null, .null, .null, .int 0])), (q6, .inl (cI, 5, .inl (fun _ => 0))), (q19, .inl (cI, 120, .inl (fun _ => 0))), (q27, .inl (cI, 120, .inl (fun _ => 0))), (q35, .inl (cI, 120, .inl (fun _ => 0))), (q43, .inl (cI, 120, .inl (fun _ => 0)))]) C hin2 in_F ty_F tk_F nm_F 0 rfl clg_0 5 (by decide) tv_98 rfl rfl rfl rfl (Nat.le_of_ble_eq_true rfl) d_F_init_45 rfl ?_
  refine gw_aload_n C 0 d_F_init_48 rfl rfl ?_
  refine gw_bipush (v := 120) C d_F_init_49 (by decide) ?_
  refine gw_newa (ty := .int) (N := 120) C rfl tv_127 0 rfl ra_i rfl (by decide) (by decide) (by decide) (Nat.le_of_ble_eq_true rfl) (Nat.le_of_ble_eq_true rfl) d_F_init_51 (fun q51 => ?_)
  refine gw_w (w' := [(a, .inr (0, [.ref q6, .int (0), .ref q19, .ref q27, .ref q35, .ref q43, .null, .null, .null, .null, .int 0])), (q6, .inl (cI, 5, .inl (fun _ => 0))), (q19, .inl (cI, 120, .inl (fun _ => 0))), (q27, .inl (cI, 120, .inl (fun _ => 0))), (q35, .inl (cI, 120, .inl (fun _ => 0))), (q43, .inl (cI, 120, .inl (fun _ => 0))), (q51, .inl (cI, 120, .inl (fun _ => 0)))]) rfl ?_
  refine gw_widen (k := 6) (n := 605) (Nat.le_of_ble_eq_true rfl) (Nat.le_of_ble_eq_true rfl) ?_
  refine gw_putF (w' := [(a, .inr (0, [.ref q6, .int (0), .ref q19, .ref q27, .ref q35, .ref q43, .ref q51, .null, .null, .null, .int 0])), (q6, .inl (cI, 5, .inl (fun _ => 0))), (q19, .inl (cI, 120, .inl (fun _ => 0))), (q27, .inl (cI, 120, .inl (fun _ => 0))), (q35, .inl (cI, 120, .inl (fun _ => 0))), (q43, .inl (cI, 120, .inl (fun _ => 0))), (q51, .inl (cI, 120, .inl (fun _ => 0)))]) C hin2 in_F ty_F tk_F nm_F 0 rfl clg_0 6 (by decide) tv_99 rfl rfl rfl rfl (Nat.le_of_ble_eq_true rfl) d_F_init_53 rfl ?_
  refine gw_aload_n C 0 d_F_init_56 rfl rfl ?_
  refine gw_bipush (v := 120) C d_F_init_57 (by decide) ?_
  refine gw_newa (ty := .int) (N := 120) C rfl tv_127 0 rfl ra_i rfl (by decide) (by decide) (by decide) (Nat.le_of_ble_eq_true rfl) (Nat.le_of_ble_eq_true rfl) d_F_init_59 (fun q59 => ?_)
  refine gw_w (w' := [(a, .inr (0, [.ref q6, .int (0), .ref q19, .ref q27, .ref q35, .ref q43, .ref q51, .null, .null, .null, .int 0])), (q6, .inl (cI, 5, .inl (fun _ => 0))), (q19, .inl (cI, 120, .inl (fun _ => 0))), (q27, .inl (cI, 120, .inl (fun _ => 0))), (q35, .inl (cI, 120, .inl (fun _ => 0))), (q43, .inl (cI, 120, .inl (fun _ => 0))), (q51, .inl (cI, 120, .inl (fun _ => 0))), (q59, .inl (cI, 120, .inl (fun _ => 0)))]) rfl ?_
  refine gw_widen (k := 7) (n := 725) (Nat.le_of_ble_eq_true rfl) (Nat.le_of_ble_eq_true rfl) ?_
  refine gw_putF (w' := [(a, .inr (0, [.ref q6, .int (0), .ref q19, .ref q27, .ref q35, .ref q43, .ref q51, .ref q59, .null, .null, .int 0])), (q6, .inl (cI, 5, .inl (fun _ => 0))), (q19, .inl (cI, 120, .inl (fun _ => 0))), (q27, .inl (cI, 120, .inl (fun _ => 0))), (q35, .inl (cI, 120, .inl (fun _ => 0))), (q43, .inl (cI, 120, .inl (fun _ => 0))), (q51, .inl (cI, 120, .inl (fun _ => 0))), (q59, .inl (cI, 120, .inl (fun _ => 0)))]) C hin2 in_F ty_F tk_F nm_F 0 rfl clg_0 7 (by decide) tv_100 rfl rfl rfl rfl (Nat.le_of_ble_eq_true rfl) d_F_init_61 rfl ?_
  refine gw_aload_n C 0 d_F_init_64 rfl rfl ?_
  refine gw_bipush (v := 120) C d_F_init_65 (by decide) ?_
  refine gw_newa (ty := .int) (N := 120) C rfl tv_127 0 rfl ra_i rfl (by decide) (by decide) (by decide) (Nat.le_of_ble_eq_true rfl) (Nat.le_of_ble_eq_true rfl) d_F_init_67 (fun q67 => ?_)
  refine gw_w (w' := [(a, .inr (0, [.ref q6, .int (0), .ref q19, .ref q27, .ref q35, .ref q43, .ref q51, .ref q59, .null, .null, .int 0])), (q6, .inl (cI, 5, .inl (fun _ => 0))), (q19, .inl (cI, 120, .inl (fun _ => 0))), (q27, .inl (cI, 120, .inl (fun _ => 0))), (q35, .inl (cI, 120, .inl (fun _ => 0))), (q43, .inl (cI, 120, .inl (fun _ => 0))), (q51, .inl (cI, 120, .inl (fun _ => 0))), (q59, .inl (cI, 120, .inl (fun _ => 0))), (q67, .inl (cI, 120, .inl (fun _ => 0)))]) rfl ?_
  refine gw_widen (k := 8) (n := 845) (Nat.le_of_ble_eq_true rfl) (Nat.le_of_ble_eq_true rfl) ?_
  refine gw_putF (w' := [(a, .inr (0, [.ref q6, .int (0), .ref q19, .ref q27, .ref q35, .ref q43, .ref q51, .ref q59, .ref q67, .null, .int 0])), (q6, .inl (cI, 5, .inl (fun _ => 0))), (q19, .inl (cI, 120, .inl (fun _ => 0))), (q27, .inl (cI, 120, .inl (fun _ => 0))), (q35, .inl (cI, 120, .inl (fun _ => 0))), (q43, .inl (cI, 120, .inl (fun _ => 0))), (q51, .inl (cI, 120, .inl (fun _ => 0))), (q59, .inl (cI, 120, .inl (fun _ => 0))), (q67, .inl (cI, 120, .inl (fun _ => 0)))]) C hin2 in_F ty_F tk_F nm_F 0 rfl clg_0 8 (by decide) tv_101 rfl rfl rfl rfl (Nat.le_of_ble_eq_true rfl) d_F_init_69 rfl ?_
  refine gw_aload_n C 0 d_F_init_72 rfl rfl ?_
  refine gw_bipush (v := 120) C d_F_init_73 (by decide) ?_
  refine gw_newa (ty := .int) (N := 120) C rfl tv_127 0 rfl ra_i rfl (by decide) (by decide) (by decide) (Nat.le_of_ble_eq_true rfl) (Nat.le_of_ble_eq_true rfl) d_F_init_75 (fun q75 => ?_)
  refine gw_w (w' := [(a, .inr (0, [.ref q6, .int (0), .ref q19, .ref q27, .ref q35, .ref q43, .ref q51, .ref q59, .ref q67, .null, .int 0])), (q6, .inl (cI, 5, .inl (fun _ => 0))), (q19, .inl (cI, 120, .inl (fun _ => 0))), (q27, .inl (cI, 120, .inl (fun _ => 0))), (q35, .inl (cI, 120, .inl (fun _ => 0))), (q43, .inl (cI, 120, .inl (fun _ => 0))), (q51, .inl (cI, 120, .inl (fun _ => 0))), (q59, .inl (cI, 120, .inl (fun _ => 0))), (q67, .inl (cI, 120, .inl (fun _ => 0))), (q75, .inl (cI, 120, .inl (fun _ => 0)))]) rfl ?_
  refine gw_widen (k := 9) (n := 965) (Nat.le_of_ble_eq_true rfl) (Nat.le_of_ble_eq_true rfl) ?_
  refine gw_putF (w' := [(a, .inr (0, [.ref q6, .int (0), .ref q19, .ref q27, .ref q35, .ref q43, .ref q51, .ref q59, .ref q67, .ref q75, .int 0])), (q6, .inl (cI, 5, .inl (fun _ => 0))), (q19, .inl (cI, 120, .inl (fun _ => 0))), (q27, .inl (cI, 120, .inl (fun _ => 0))), (q35, .inl (cI, 120, .inl (fun _ => 0))), (q43, .inl (cI, 120, .inl (fun _ => 0))), (q51, .inl (cI, 120, .inl (fun _ => 0))), (q59, .inl (cI, 120, .inl (fun _ => 0))), (q67, .inl (cI, 120, .inl (fun _ => 0))), (q75, .inl (cI, 120, .inl (fun _ => 0)))]) C hin2 in_F ty_F tk_F nm_F 0 rfl clg_0 9 (by decide) tv_102 rfl rfl rfl rfl (Nat.le_of_ble_eq_true rfl) d_F_init_77 rfl ?_
  refine gw_aload_n C 0 d_F_init_80 rfl rfl ?_
  refine gw_iconst (v := 0) C d_F_init_81 (by decide) ?_
  refine gw_put (w' := [(a, .inr (0, [.ref q6, .int (0), .ref q19, .ref q27, .ref q35, .ref q43, .ref q51, .ref q59, .ref q67, .ref q75, .int (0)])), (q6, .inl (cI, 5, .inl (fun _ => 0))), (q19, .inl (cI, 120, .inl (fun _ => 0))), (q27, .inl (cI, 120, .inl (fun _ => 0))), (q35, .inl (cI, 120, .inl (fun _ => 0))), (q43, .inl (cI, 120, .inl (fun _ => 0))), (q51, .inl (cI, 120, .inl (fun _ => 0))), (q59, .inl (cI, 120, .inl (fun _ => 0))), (q67, .inl (cI, 120, .inl (fun _ => 0))), (q75, .inl (cI, 120, .inl (fun _ => 0)))]) C in_F ty_F tk_F nm_F 0 rfl clg_0 10 (by decide) tv_103 rfl rfl rfl rfl (Nat.le_of_ble_eq_true rfl) d_F_init_82 rfl ?_
  refine gw_aload_n C 0 d_F_init_85 rfl rfl ?_
  refine gw_get C in_F 0 rfl clg_0 8 (by decide) tv_101 rfl rfl d_F_init_86 ?_
  refine gw_iconst (v := -1) C d_F_init_89 (by decide) ?_
  refine gw_callSv (rest := []) C (c_A_fill (w' := [(a, .inr (0, [.ref q6, .int (0), .ref q19, .ref q27, .ref q35, .ref q43, .ref q51, .ref q59, .ref q67, .ref q75, .int (0)])), (q6, .inl (cI, 5, .inl (fun _ => 0))), (q19, .inl (cI, 120, .inl (fun _ => 0))), (q27, .inl (cI, 120, .inl (fun _ => 0))), (q35, .inl (cI, 120, .inl (fun _ => 0))), (q43, .inl (cI, 120, .inl (fun _ => 0))), (q51, .inl (cI, 120, .inl (fun _ => 0))), (q59, .inl (cI, 120, .inl (fun _ => 0))), (q67, .inl (cI, 120, .inl (fun j => if j < 120 then (-1) else 0))), (q75, .inl (cI, 120, .inl (fun _ => 0)))]) hZ 8 0 rfl rfl (by decide) rfl) (va_cwS 2 C.2.2.2.2.1 (gTB_vS rfl tv_90 mv_A_fill) rfl rfl rfl pd_A_fill.2 ⟨Nat.le_of_ble_eq_true rfl, Nat.le_of_ble_eq_true rfl⟩) rfl rfl (Nat.le_of_ble_eq_true rfl) d_F_init_90 ⟨Nat.le_of_ble_eq_true rfl, Nat.le_of_ble_eq_true rfl⟩ ?_
  refine gw_aload_n C 0 d_F_init_93 rfl rfl ?_
  refine gw_get C in_F 0 rfl clg_0 9 (by decide) tv_102 rfl rfl d_F_init_94 ?_
  refine gw_iconst (v := -1) C d_F_init_97 (by decide) ?_
  refine gw_callSv (rest := []) C (c_A_fill (w' := [(a, .inr (0, [.ref q6, .int (0), .ref q19, .ref q27, .ref q35, .ref q43, .ref q51, .ref q59, .ref q67, .ref q75, .int (0)])), (q6, .inl (cI, 5, .inl (fun _ => 0))), (q19, .inl (cI, 120, .inl (fun _ => 0))), (q27, .inl (cI, 120, .inl (fun _ => 0))), (q35, .inl (cI, 120, .inl (fun _ => 0))), (q43, .inl (cI, 120, .inl (fun _ => 0))), (q51, .inl (cI, 120, .inl (fun _ => 0))), (q59, .inl (cI, 120, .inl (fun _ => 0))), (q67, .inl (cI, 120, .inl (fun j => if j < 120 then (-1) else 0))), (q75, .inl (cI, 120, .inl (fun j => if j < 120 then (-1) else 0)))]) hZ 9 0 rfl rfl (by decide) rfl) (va_cwS 2 C.2.2.2.2.1 (gTB_vS rfl tv_90 mv_A_fill) rfl rfl rfl pd_A_fill.2 ⟨Nat.le_of_ble_eq_true rfl, Nat.le_of_ble_eq_true rfl⟩) rfl rfl (Nat.le_of_ble_eq_true rfl) d_F_init_98 ⟨Nat.le_of_ble_eq_true rfl, Nat.le_of_ble_eq_true rfl⟩ ?_
  exact gw_vretX C ⟨fun k => ([q6, q19, q27, q35, q43, q51, q59, q67, q75] : List Nat).getD k 0, rfl⟩ d_F_init_101
abbrev b_W_init : ByteArray := prog_5_method_1_code
def y_W_init : MethodName := ⟨"NoneWords$Writer", "<init>", "(LNoneWords$Facts;)V"⟩
abbrev ws_W_init : List Cond := Cond.code y_W_init b_W_init 2 (none) :: TB
set_option maxRecDepth 100000 in
theorem tc_W_init : Cond.code y_W_init b_W_init 2 (none) ∈ TB := inTB 132 rfl rfl
theorem mv_W_init : Cond.instanceMethod y_W_init ∈ TB ∧ Cond.initialized "NoneWords$Writer" ∈ TB ∧ Cond.code y_W_init b_W_init 2 (none) ∈ TB := ⟨inTB 131 (by decide +kernel) (by decide +kernel), inTB 68 (by decide +kernel) (by decide +kernel), tc_W_init⟩
theorem pd_W_init : y_W_init.cls ≠ "java/lang/invoke/MethodHandle" ∧ y_W_init.cls ≠ "java/lang/invoke/VarHandle" ∧ (parseMethodDescriptor y_W_init.desc).map (fun d => d.parameters.length) = some 1 := by decide +kernel
theorem d_W_init_0 : decode b_W_init 0 = .ok (.aload_n 0, 1) := by decide +kernel
theorem d_W_init_1 : decode b_W_init 1 = .ok (.invokespecial 3, 3) := by decide +kernel
theorem d_W_init_4 : decode b_W_init 4 = .ok (.aload_n 0, 1) := by decide +kernel
theorem d_W_init_5 : decode b_W_init 5 = .ok (.bipush 120, 2) := by decide +kernel
theorem d_W_init_7 : decode b_W_init 7 = .ok (.newarray .int, 2) := by decide +kernel
theorem d_W_init_9 : decode b_W_init 9 = .ok (.putfield 9, 3) := by decide +kernel
theorem d_W_init_12 : decode b_W_init 12 = .ok (.aload_n 0, 1) := by decide +kernel
theorem d_W_init_13 : decode b_W_init 13 = .ok (.bipush 120, 2) := by decide +kernel
theorem d_W_init_15 : decode b_W_init 15 = .ok (.newarray .int, 2) := by decide +kernel
theorem d_W_init_17 : decode b_W_init 17 = .ok (.putfield 15, 3) := by decide +kernel
theorem d_W_init_20 : decode b_W_init 20 = .ok (.aload_n 0, 1) := by decide +kernel
theorem d_W_init_21 : decode b_W_init 21 = .ok (.iconst 0, 1) := by decide +kernel
theorem d_W_init_22 : decode b_W_init 22 = .ok (.putfield 18, 3) := by decide +kernel
theorem d_W_init_25 : decode b_W_init 25 = .ok (.aload_n 0, 1) := by decide +kernel
theorem d_W_init_26 : decode b_W_init 26 = .ok (.bipush 120, 2) := by decide +kernel
theorem d_W_init_28 : decode b_W_init 28 = .ok (.newarray .int, 2) := by decide +kernel
theorem d_W_init_30 : decode b_W_init 30 = .ok (.putfield 22, 3) := by decide +kernel
theorem d_W_init_33 : decode b_W_init 33 = .ok (.aload_n 0, 1) := by decide +kernel
theorem d_W_init_34 : decode b_W_init 34 = .ok (.bipush 120, 2) := by decide +kernel
theorem d_W_init_36 : decode b_W_init 36 = .ok (.newarray .int, 2) := by decide +kernel
theorem d_W_init_38 : decode b_W_init 38 = .ok (.putfield 25, 3) := by decide +kernel
theorem d_W_init_41 : decode b_W_init 41 = .ok (.aload_n 0, 1) := by decide +kernel
theorem d_W_init_42 : decode b_W_init 42 = .ok (.bipush 120, 2) := by decide +kernel
theorem d_W_init_44 : decode b_W_init 44 = .ok (.newarray .int, 2) := by decide +kernel
theorem d_W_init_46 : decode b_W_init 46 = .ok (.putfield 28, 3) := by decide +kernel
theorem d_W_init_49 : decode b_W_init 49 = .ok (.aload_n 0, 1) := by decide +kernel
theorem d_W_init_50 : decode b_W_init 50 = .ok (.bipush 120, 2) := by decide +kernel
theorem d_W_init_52 : decode b_W_init 52 = .ok (.newarray .int, 2) := by decide +kernel
theorem d_W_init_54 : decode b_W_init 54 = .ok (.putfield 31, 3) := by decide +kernel
theorem d_W_init_57 : decode b_W_init 57 = .ok (.aload_n 0, 1) := by decide +kernel
theorem d_W_init_58 : decode b_W_init 58 = .ok (.bipush 120, 2) := by decide +kernel
theorem d_W_init_60 : decode b_W_init 60 = .ok (.newarray .int, 2) := by decide +kernel
theorem d_W_init_62 : decode b_W_init 62 = .ok (.putfield 34, 3) := by decide +kernel
theorem d_W_init_65 : decode b_W_init 65 = .ok (.aload_n 0, 1) := by decide +kernel
theorem d_W_init_66 : decode b_W_init 66 = .ok (.iconst 0, 1) := by decide +kernel
theorem d_W_init_67 : decode b_W_init 67 = .ok (.putfield 37, 3) := by decide +kernel
theorem d_W_init_70 : decode b_W_init 70 = .ok (.aload_n 0, 1) := by decide +kernel
theorem d_W_init_71 : decode b_W_init 71 = .ok (.bipush 121, 2) := by decide +kernel
theorem d_W_init_73 : decode b_W_init 73 = .ok (.newarray .int, 2) := by decide +kernel
theorem d_W_init_75 : decode b_W_init 75 = .ok (.putfield 40, 3) := by decide +kernel
theorem d_W_init_78 : decode b_W_init 78 = .ok (.aload_n 0, 1) := by decide +kernel
theorem d_W_init_79 : decode b_W_init 79 = .ok (.bipush 121, 2) := by decide +kernel
theorem d_W_init_81 : decode b_W_init 81 = .ok (.newarray .int, 2) := by decide +kernel
theorem d_W_init_83 : decode b_W_init 83 = .ok (.putfield 43, 3) := by decide +kernel
theorem d_W_init_86 : decode b_W_init 86 = .ok (.aload_n 0, 1) := by decide +kernel
theorem d_W_init_87 : decode b_W_init 87 = .ok (.bipush 121, 2) := by decide +kernel
theorem d_W_init_89 : decode b_W_init 89 = .ok (.newarray .int, 2) := by decide +kernel
theorem d_W_init_91 : decode b_W_init 91 = .ok (.putfield 46, 3) := by decide +kernel
theorem d_W_init_94 : decode b_W_init 94 = .ok (.aload_n 0, 1) := by decide +kernel
theorem d_W_init_95 : decode b_W_init 95 = .ok (.bipush 121, 2) := by decide +kernel
theorem d_W_init_97 : decode b_W_init 97 = .ok (.newarray .int, 2) := by decide +kernel
theorem d_W_init_99 : decode b_W_init 99 = .ok (.putfield 49, 3) := by decide +kernel
theorem d_W_init_102 : decode b_W_init 102 = .ok (.aload_n 0, 1) := by decide +kernel
theorem d_W_init_103 : decode b_W_init 103 = .ok (.iconst 0, 1) := by decide +kernel
theorem d_W_init_104 : decode b_W_init 104 = .ok (.putfield 52, 3) := by decide +kernel
theorem d_W_init_107 : decode b_W_init 107 = .ok (.aload_n 0, 1) := by decide +kernel
theorem d_W_init_108 : decode b_W_init 108 = .ok (.aload_n 1, 1) := by decide +kernel
theorem d_W_init_109 : decode b_W_init 109 = .ok (.putfield 55, 3) := by decide +kernel
theorem d_W_init_112 : decode b_W_init 112 = .ok (.return_, 1) := by decide +kernel
abbrev rm_W_init : Room := { frames := 1, cells := 11, slots := 1324, locals := 30 }
def w0_W (a : Nat) (f1 : Nat) (g : Nat → Nat) (cI cZ cC : ClassId) : va_W := [(a, .inr (3, [.ref f1, .ref (g 0), .ref (g 1), .int (0), .ref (g 2), .ref (g 3), .ref (g 4), .ref (g 5), .ref (g 6), .int (0), .ref (g 7), .ref (g 8), .ref (g 9), .ref (g 10), .int (0)])), ((g 0), .inl (cI, 120, .inl (fun _ => 0))), ((g 1), .inl (cI, 120, .inl (fun _ => 0))), ((g 2), .inl (cI, 120, .inl (fun _ => 0))), ((g 3), .inl (cI, 120, .inl (fun _ => 0))), ((g 4), .inl (cI, 120, .inl (fun _ => 0))), ((g 5), .inl (cI, 120, .inl (fun _ => 0))), ((g 6), .inl (cI, 120, .inl (fun _ => 0))), ((g 7), .inl (cI, 121, .inl (fun _ => 0))), ((g 8), .inl (cI, 121, .inl (fun _ => 0))), ((g 9), .inl (cI, 121, .inl (fun _ => 0))), ((g 10), .inl (cI, 121, .inl (fun _ => 0)))]
set_option maxRecDepth 100000 in
theorem c_W_init (hZ : gw_ZOK Z) {a f1 : Nat} : CX l y_W_init ws_W_init rm_W_init D vwCl (tysW cI cZ cC) Z [.ref a, .ref f1] [(a, .inr (3, [.null, .null, .null, .int 0, .null, .null, .null, .null, .null, .int 0, .null, .null, .null, .null, .int 0]))] (fun wf => ∃ g : Nat → Nat, wf = w0_W a f1 g cI cZ cC) 11 1324 := by
  refine CX.ofG hZ (by decide) rfl (Nat.le_of_ble_eq_true rfl) (fun p e s m below meth c A C hin2 => ?_)
  refine gw_aload_n C 0 d_W_init_0 rfl rfl ?_
  refine gw_objInit C tv_133 tv_82 tv_83 d_W_init_1 (Nat.le_of_ble_eq_true rfl) (Nat.le_of_ble_eq_true rfl) ?_
  refine gw_aload_n C 0 d_W_init_4 rfl rfl ?_
  refine gw_bipush (v := 120) C d_W_init_5 (by decide) ?_
  refine gw_newa (ty := .int) (N := 120) C rfl tv_127 0 rfl ra_i rfl (by decide) (by decide) (by decide) (Nat.le_of_ble_eq_true rfl) (Nat.le_of_ble_eq_true rfl) d_W_init_7 (fun q7 => ?_)
  refine gw_w (w' := [(a, .inr (3, [.null, .null, .null, .int 0, .null, .null, .null, .null, .null, .int 0, .null, .null, .null, .null, .int 0])), (q7, .inl (cI, 120, .inl (fun _ => 0)))]) rfl ?_
  refine gw_widen (k := 1) (n := 120) (Nat.le_of_ble_eq_true rfl) (Nat.le_of_ble_eq_true rfl) ?_
  refine gw_putF (w' := [(a, .inr (3, [.null, .ref q7, .null, .int 0, .null, .null, .null, .null, .null, .int 0, .null, .null, .null, .null, .int 0])), (q7, .inl (cI, 120, .inl (fun _ => 0)))]) C hin2 in_W ty_W tk_W nm_W 0 rfl clg_3 1 (by decide) tv_135 rfl rfl rfl rfl (Nat.le_of_ble_eq_true rfl) d_W_init_9 rfl ?_
  refine gw_aload_n C 0 d_W_init_12 rfl rfl ?_
  refine gw_bipush (v := 120) C d_W_init_13 (by decide) ?_
  refine gw_newa (ty := .int) (N := 120) C rfl tv_127 0 rfl ra_i rfl (by decide) (by decide) (by decide) (Nat.le_of_ble_eq_true rfl) (Nat.le_of_ble_eq_true rfl) d_W_init_15 (fun q15 => ?_)
  refine gw_w (w' := [(a, .inr (3, [.null, .ref q7, .null, .int 0, .null, .null, .null, .null, .null, .int 0, .null, .null, .null, .null, .int 0])), (q7, .inl (cI, 120, .inl (fun _ => 0))), (q15, .inl (cI, 120, .inl (fun _ => 0)))]) rfl ?_
  refine gw_widen (k := 2) (n := 240) (Nat.le_of_ble_eq_true rfl) (Nat.le_of_ble_eq_true rfl) ?_
  refine gw_putF (w' := [(a, .inr (3, [.null, .ref q7, .ref q15, .int 0, .null, .null, .null, .null, .null, .int 0, .null, .null, .null, .null, .int 0])), (q7, .inl (cI, 120, .inl (fun _ => 0))), (q15, .inl (cI, 120, .inl (fun _ => 0)))]) C hin2 in_W ty_W tk_W nm_W 0 rfl clg_3 2 (by decide) tv_136 rfl rfl rfl rfl (Nat.le_of_ble_eq_true rfl) d_W_init_17 rfl ?_
  refine gw_aload_n C 0 d_W_init_20 rfl rfl ?_
  refine gw_iconst (v := 0) C d_W_init_21 (by decide) ?_
  refine gw_put (w' := [(a, .inr (3, [.null, .ref q7, .ref q15, .int (0), .null, .null, .null, .null, .null, .int 0, .null, .null, .null, .null, .int 0])), (q7, .inl (cI, 120, .inl (fun _ => 0))), (q15, .inl (cI, 120, .inl (fun _ => 0)))]) C in_W ty_W tk_W nm_W 0 rfl clg_3 3 (by decide) tv_137 rfl rfl rfl rfl (Nat.le_of_ble_eq_true rfl) d_W_init_22 rfl ?_
  refine gw_aload_n C 0 d_W_init_25 rfl rfl ?_
  refine gw_bipush (v := 120) C d_W_init_26 (by decide) ?_
  refine gw_newa (ty := .int) (N := 120) C rfl tv_127 0 rfl ra_i rfl (by decide) (by decide) (by decide) (Nat.le_of_ble_eq_true rfl) (Nat.le_of_ble_eq_true rfl) d_W_init_28 (fun q28 => ?_)
  refine gw_w (w' := [(a, .inr (3, [.null, .ref q7, .ref q15, .int (0), .null, .null, .null, .null, .null, .int 0, .null, .null, .null, .null, .int 0])), (q7, .inl (cI, 120, .inl (fun _ => 0))), (q15, .inl (cI, 120, .inl (fun _ => 0))), (q28, .inl (cI, 120, .inl (fun _ => 0)))]) rfl ?_
  refine gw_widen (k := 3) (n := 360) (Nat.le_of_ble_eq_true rfl) (Nat.le_of_ble_eq_true rfl) ?_
  refine gw_putF (w' := [(a, .inr (3, [.null, .ref q7, .ref q15, .int (0), .ref q28, .null, .null, .null, .null, .int 0, .null, .null, .null, .null, .int 0])), (q7, .inl (cI, 120, .inl (fun _ => 0))), (q15, .inl (cI, 120, .inl (fun _ => 0))), (q28, .inl (cI, 120, .inl (fun _ => 0)))]) C hin2 in_W ty_W tk_W nm_W 0 rfl clg_3 4 (by decide) tv_138 rfl rfl rfl rfl (Nat.le_of_ble_eq_true rfl) d_W_init_30 rfl ?_
  refine gw_aload_n C 0 d_W_init_33 rfl rfl ?_
  refine gw_bipush (v := 120) C d_W_init_34 (by decide) ?_
  refine gw_newa (ty := .int) (N := 120) C rfl tv_127 0 rfl ra_i rfl (by decide) (by decide) (by decide) (Nat.le_of_ble_eq_true rfl) (Nat.le_of_ble_eq_true rfl) d_W_init_36 (fun q36 => ?_)
  refine gw_w (w' := [(a, .inr (3, [.null, .ref q7, .ref q15, .int (0), .ref q28, .null, .null, .null, .null, .int 0, .null, .null, .null, .null, .int 0])), (q7, .inl (cI, 120, .inl (fun _ => 0))), (q15, .inl (cI, 120, .inl (fun _ => 0))), (q28, .inl (cI, 120, .inl (fun _ => 0))), (q36, .inl (cI, 120, .inl (fun _ => 0)))]) rfl ?_
  refine gw_widen (k := 4) (n := 480) (Nat.le_of_ble_eq_true rfl) (Nat.le_of_ble_eq_true rfl) ?_
  refine gw_putF (w' := [(a, .inr (3, [.null, .ref q7, .ref q15, .int (0), .ref q28, .ref q36, .null, .null, .null, .int 0, .null, .null, .null, .null, .int 0])), (q7, .inl (cI, 120, .inl (fun _ => 0))), (q15, .inl (cI, 120, .inl (fun _ => 0))), (q28, .inl (cI, 120, .inl (fun _ => 0))), (q36, .inl (cI, 120, .inl (fun _ => 0)))]) C hin2 in_W ty_W tk_W nm_W 0 rfl clg_3 5 (by decide) tv_139 rfl rfl rfl rfl (Nat.le_of_ble_eq_true rfl) d_W_init_38 rfl ?_
  refine gw_aload_n C 0 d_W_init_41 rfl rfl ?_
  refine gw_bipush (v := 120) C d_W_init_42 (by decide) ?_
  refine gw_newa (ty := .int) (N := 120) C rfl tv_127 0 rfl ra_i rfl (by decide) (by decide) (by decide) (Nat.le_of_ble_eq_true rfl) (Nat.le_of_ble_eq_true rfl) d_W_init_44 (fun q44 => ?_)
  refine gw_w (w' := [(a, .inr (3, [.null, .ref q7, .ref q15, .int (0), .ref q28, .ref q36, .null, .null, .null, .int 0, .null, .null, .null, .null, .int 0])), (q7, .inl (cI, 120, .inl (fun _ => 0))), (q15, .inl (cI, 120, .inl (fun _ => 0))), (q28, .inl (cI, 120, .inl (fun _ => 0))), (q36, .inl (cI, 120, .inl (fun _ => 0))), (q44, .inl (cI, 120, .inl (fun _ => 0)))]) rfl ?_
  refine gw_widen (k := 5) (n := 600) (Nat.le_of_ble_eq_true rfl) (Nat.le_of_ble_eq_true rfl) ?_
  refine gw_putF (w' := [(a, .inr (3, [.null, .ref q7, .ref q15, .int (0), .ref q28, .ref q36, .ref q44, .null, .null, .int 0, .null, .null, .null, .null, .int 0])), (q7, .inl (cI, 120, .inl (fun _ => 0))), (q15, .inl (cI, 120, .inl (fun _ => 0))), (q28, .inl (cI, 120, .inl (fun _ => 0))), (q36, .inl (cI, 120, .inl (fun _ => 0))), (q44, .inl (cI, 120, .inl (fun _ => 0)))]) C hin2 in_W ty_W tk_W nm_W 0 rfl clg_3 6 (by decide) tv_140 rfl rfl rfl rfl (Nat.le_of_ble_eq_true rfl) d_W_init_46 rfl ?_
  refine gw_aload_n C 0 d_W_init_49 rfl rfl ?_
  refine gw_bipush (v := 120) C d_W_init_50 (by decide) ?_
  refine gw_newa (ty := .int) (N := 120) C rfl tv_127 0 rfl ra_i rfl (by decide) (by decide) (by decide) (Nat.le_of_ble_eq_true rfl) (Nat.le_of_ble_eq_true rfl) d_W_init_52 (fun q52 => ?_)
  refine gw_w (w' := [(a, .inr (3, [.null, .ref q7, .ref q15, .int (0), .ref q28, .ref q36, .ref q44, .null, .null, .int 0, .null, .null, .null, .null, .int 0])), (q7, .inl (cI, 120, .inl (fun _ => 0))), (q15, .inl (cI, 120, .inl (fun _ => 0))), (q28, .inl (cI, 120, .inl (fun _ => 0))), (q36, .inl (cI, 120, .inl (fun _ => 0))), (q44, .inl (cI, 120, .inl (fun _ => 0))), (q52, .inl (cI, 120, .inl (fun _ => 0)))]) rfl ?_
  refine gw_widen (k := 6) (n := 720) (Nat.le_of_ble_eq_true rfl) (Nat.le_of_ble_eq_true rfl) ?_
  refine gw_putF (w' := [(a, .inr (3, [.null, .ref q7, .ref q15, .int (0), .ref q28, .ref q36, .ref q44, .ref q52, .null, .int 0, .null, .null, .null, .null, .int 0])), (q7, .inl (cI, 120, .inl (fun _ => 0))), (q15, .inl (cI, 120, .inl (fun _ => 0))), (q28, .inl (cI, 120, .inl (fun _ => 0))), (q36, .inl (cI, 120, .inl (fun _ => 0))), (q44, .inl (cI, 120, .inl (fun _ => 0))), (q52, .inl (cI, 120, .inl (fun _ => 0)))]) C hin2 in_W ty_W tk_W nm_W 0 rfl clg_3 7 (by decide) tv_141 rfl rfl rfl rfl (Nat.le_of_ble_eq_true rfl) d_W_init_54 rfl ?_
  refine gw_aload_n C 0 d_W_init_57 rfl rfl ?_
  refine gw_bipush (v := 120) C d_W_init_58 (by decide) ?_
  refine gw_newa (ty := .int) (N := 120) C rfl tv_127 0 rfl ra_i rfl (by decide) (by decide) (by decide) (Nat.le_of_ble_eq_true rfl) (Nat.le_of_ble_eq_true rfl) d_W_init_60 (fun q60 => ?_)
  refine gw_w (w' := [(a, .inr (3, [.null, .ref q7, .ref q15, .int (0), .ref q28, .ref q36, .ref q44, .ref q52, .null, .int 0, .null, .null, .null, .null, .int 0])), (q7, .inl (cI, 120, .inl (fun _ => 0))), (q15, .inl (cI, 120, .inl (fun _ => 0))), (q28, .inl (cI, 120, .inl (fun _ => 0))), (q36, .inl (cI, 120, .inl (fun _ => 0))), (q44, .inl (cI, 120, .inl (fun _ => 0))), (q52, .inl (cI, 120, .inl (fun _ => 0))), (q60, .inl (cI, 120, .inl (fun _ => 0)))]) rfl ?_
  refine gw_widen (k := 7) (n := 840) (Nat.le_of_ble_eq_true rfl) (Nat.le_of_ble_eq_true rfl) ?_
  refine gw_putF (w' := [(a, .inr (3, [.null, .ref q7, .ref q15, .int (0), .ref q28, .ref q36, .ref q44, .ref q52, .ref q60, .int 0, .null, .null, .null, .null, .int 0])), (q7, .inl (cI, 120, .inl (fun _ => 0))), (q15, .inl (cI, 120, .inl (fun _ => 0))), (q28, .inl (cI, 120, .inl (fun _ => 0))), (q36, .inl (cI, 120, .inl (fun _ => 0))), (q44, .inl (cI, 120, .inl (fun _ => 0))), (q52, .inl (cI, 120, .inl (fun _ => 0))), (q60, .inl (cI, 120, .inl (fun _ => 0)))]) C hin2 in_W ty_W tk_W nm_W 0 rfl clg_3 8 (by decide) tv_142 rfl rfl rfl rfl (Nat.le_of_ble_eq_true rfl) d_W_init_62 rfl ?_
  refine gw_aload_n C 0 d_W_init_65 rfl rfl ?_
  refine gw_iconst (v := 0) C d_W_init_66 (by decide) ?_
  refine gw_put (w' := [(a, .inr (3, [.null, .ref q7, .ref q15, .int (0), .ref q28, .ref q36, .ref q44, .ref q52, .ref q60, .int (0), .null, .null, .null, .null, .int 0])), (q7, .inl (cI, 120, .inl (fun _ => 0))), (q15, .inl (cI, 120, .inl (fun _ => 0))), (q28, .inl (cI, 120, .inl (fun _ => 0))), (q36, .inl (cI, 120, .inl (fun _ => 0))), (q44, .inl (cI, 120, .inl (fun _ => 0))), (q52, .inl (cI, 120, .inl (fun _ => 0))), (q60, .inl (cI, 120, .inl (fun _ => 0)))]) C in_W ty_W tk_W nm_W 0 rfl clg_3 9 (by decide) tv_143 rfl rfl rfl rfl (Nat.le_of_ble_eq_true rfl) d_W_init_67 rfl ?_
  refine gw_aload_n C 0 d_W_init_70 rfl rfl ?_
  refine gw_bipush (v := 121) C d_W_init_71 (by decide) ?_
  refine gw_newa (ty := .int) (N := 121) C rfl tv_127 0 rfl ra_i rfl (by decide) (by decide) (by decide) (Nat.le_of_ble_eq_true rfl) (Nat.le_of_ble_eq_true rfl) d_W_init_73 (fun q73 => ?_)
  refine gw_w (w' := [(a, .inr (3, [.null, .ref q7, .ref q15, .int (0), .ref q28, .ref q36, .ref q44, .ref q52, .ref q60, .int (0), .null, .null, .null, .null, .int 0])), (q7, .inl (cI, 120, .inl (fun _ => 0))), (q15, .inl (cI, 120, .inl (fun _ => 0))), (q28, .inl (cI, 120, .inl (fun _ => 0))), (q36, .inl (cI, 120, .inl (fun _ => 0))), (q44, .inl (cI, 120, .inl (fun _ => 0))), (q52, .inl (cI, 120, .inl (fun _ => 0))), (q60, .inl (cI, 120, .inl (fun _ => 0))), (q73, .inl (cI, 121, .inl (fun _ => 0)))]) rfl ?_
  refine gw_widen (k := 8) (n := 961) (Nat.le_of_ble_eq_true rfl) (Nat.le_of_ble_eq_true rfl) ?_
  refine gw_putF (w' := [(a, .inr (3, [.null, .ref q7, .ref q15, .int (0), .ref q28, .ref q36, .ref q44, .ref q52, .ref q60, .int (0), .ref q73, .null, .null, .null, .int 0])), (q7, .inl (cI, 120, .inl (fun _ => 0))), (q15, .inl (cI, 120, .inl (fun _ => 0))), (q28, .inl (cI, 120, .inl (fun _ => 0))), (q36, .inl (cI, 120, .inl (fun _ => 0))), (q44, .inl (cI, 120, .inl (fun _ => 0))), (q52, .inl (cI, 120, .inl (fun _ => 0))), (q60, .inl (cI, 120, .inl (fun _ => 0))), (q73, .inl (cI, 121, .inl (fun _ => 0)))]) C hin2 in_W ty_W tk_W nm_W 0 rfl clg_3 10 (by decide) tv_144 rfl rfl rfl rfl (Nat.le_of_ble_eq_true rfl) d_W_init_75 rfl ?_
  refine gw_aload_n C 0 d_W_init_78 rfl rfl ?_
  refine gw_bipush (v := 121) C d_W_init_79 (by decide) ?_
  refine gw_newa (ty := .int) (N := 121) C rfl tv_127 0 rfl ra_i rfl (by decide) (by decide) (by decide) (Nat.le_of_ble_eq_true rfl) (Nat.le_of_ble_eq_true rfl) d_W_init_81 (fun q81 => ?_)
  refine gw_w (w' := [(a, .inr (3, [.null, .ref q7, .ref q15, .int (0), .ref q28, .ref q36, .ref q44, .ref q52, .ref q60, .int (0), .ref q73, .null, .null, .null, .int 0])), (q7, .inl (cI, 120, .inl (fun _ => 0))), (q15, .inl (cI, 120, .inl (fun _ => 0))), (q28, .inl (cI, 120, .inl (fun _ => 0))), (q36, .inl (cI, 120, .inl (fun _ => 0))), (q44, .inl (cI, 120, .inl (fun _ => 0))), (q52, .inl (cI, 120, .inl (fun _ => 0))), (q60, .inl (cI, 120, .inl (fun _ => 0))), (q73, .inl (cI, 121, .inl (fun _ => 0))), (q81, .inl (cI, 121, .inl (fun _ => 0)))]) rfl ?_
  refine gw_widen (k := 9) (n := 1082) (Nat.le_of_ble_eq_true rfl) (Nat.le_of_ble_eq_true rfl) ?_
  refine gw_putF (w' := [(a, .inr (3, [.null, .ref q7, .ref q15, .int (0), .ref q28, .ref q36, .ref q44, .ref q52, .ref q60, .int (0), .ref q73, .ref q81, .null, .null, .int 0])), (q7, .inl (cI, 120, .inl (fun _ => 0))), (q15, .inl (cI, 120, .inl (fun _ => 0))), (q28, .inl (cI, 120, .inl (fun _ => 0))), (q36, .inl (cI, 120, .inl (fun _ => 0))), (q44, .inl (cI, 120, .inl (fun _ => 0))), (q52, .inl (cI, 120, .inl (fun _ => 0))), (q60, .inl (cI, 120, .inl (fun _ => 0))), (q73, .inl (cI, 121, .inl (fun _ => 0))), (q81, .inl (cI, 121, .inl (fun _ => 0)))]) C hin2 in_W ty_W tk_W nm_W 0 rfl clg_3 11 (by decide) tv_145 rfl rfl rfl rfl (Nat.le_of_ble_eq_true rfl) d_W_init_83 rfl ?_
  refine gw_aload_n C 0 d_W_init_86 rfl rfl ?_
  refine gw_bipush (v := 121) C d_W_init_87 (by decide) ?_
  refine gw_newa (ty := .int) (N := 121) C rfl tv_127 0 rfl ra_i rfl (by decide) (by decide) (by decide) (Nat.le_of_ble_eq_true rfl) (Nat.le_of_ble_eq_true rfl) d_W_init_89 (fun q89 => ?_)
  refine gw_w (w' := [(a, .inr (3, [.null, .ref q7, .ref q15, .int (0), .ref q28, .ref q36, .ref q44, .ref q52, .ref q60, .int (0), .ref q73, .ref q81, .null, .null, .int 0])), (q7, .inl (cI, 120, .inl (fun _ => 0))), (q15, .inl (cI, 120, .inl (fun _ => 0))), (q28, .inl (cI, 120, .inl (fun _ => 0))), (q36, .inl (cI, 120, .inl (fun _ => 0))), (q44, .inl (cI, 120, .inl (fun _ => 0))), (q52, .inl (cI, 120, .inl (fun _ => 0))), (q60, .inl (cI, 120, .inl (fun _ => 0))), (q73, .inl (cI, 121, .inl (fun _ => 0))), (q81, .inl (cI, 121, .inl (fun _ => 0))), (q89, .inl (cI, 121, .inl (fun _ => 0)))]) rfl ?_
  refine gw_widen (k := 10) (n := 1203) (Nat.le_of_ble_eq_true rfl) (Nat.le_of_ble_eq_true rfl) ?_
  refine gw_putF (w' := [(a, .inr (3, [.null, .ref q7, .ref q15, .int (0), .ref q28, .ref q36, .ref q44, .ref q52, .ref q60, .int (0), .ref q73, .ref q81, .ref q89, .null, .int 0])), (q7, .inl (cI, 120, .inl (fun _ => 0))), (q15, .inl (cI, 120, .inl (fun _ => 0))), (q28, .inl (cI, 120, .inl (fun _ => 0))), (q36, .inl (cI, 120, .inl (fun _ => 0))), (q44, .inl (cI, 120, .inl (fun _ => 0))), (q52, .inl (cI, 120, .inl (fun _ => 0))), (q60, .inl (cI, 120, .inl (fun _ => 0))), (q73, .inl (cI, 121, .inl (fun _ => 0))), (q81, .inl (cI, 121, .inl (fun _ => 0))), (q89, .inl (cI, 121, .inl (fun _ => 0)))]) C hin2 in_W ty_W tk_W nm_W 0 rfl clg_3 12 (by decide) tv_146 rfl rfl rfl rfl (Nat.le_of_ble_eq_true rfl) d_W_init_91 rfl ?_
  refine gw_aload_n C 0 d_W_init_94 rfl rfl ?_
  refine gw_bipush (v := 121) C d_W_init_95 (by decide) ?_
  refine gw_newa (ty := .int) (N := 121) C rfl tv_127 0 rfl ra_i rfl (by decide) (by decide) (by decide) (Nat.le_of_ble_eq_true rfl) (Nat.le_of_ble_eq_true rfl) d_W_init_97 (fun q97 => ?_)
  refine gw_w (w' := [(a, .inr (3, [.null, .ref q7, .ref q15, .int (0), .ref q28, .ref q36, .ref q44, .ref q52, .ref q60, .int (0), .ref q73, .ref q81, .ref q89, .null, .int 0])), (q7, .inl (cI, 120, .inl (fun _ => 0))), (q15, .inl (cI, 120, .inl (fun _ => 0))), (q28, .inl (cI, 120, .inl (fun _ => 0))), (q36, .inl (cI, 120, .inl (fun _ => 0))), (q44, .inl (cI, 120, .inl (fun _ => 0))), (q52, .inl (cI, 120, .inl (fun _ => 0))), (q60, .inl (cI, 120, .inl (fun _ => 0))), (q73, .inl (cI, 121, .inl (fun _ => 0))), (q81, .inl (cI, 121, .inl (fun _ => 0))), (q89, .inl (cI, 121, .inl (fun _ => 0))), (q97, .inl (cI, 121, .inl (fun _ => 0)))]) rfl ?_
  refine gw_widen (k := 11) (n := 1324) (Nat.le_of_ble_eq_true rfl) (Nat.le_of_ble_eq_true rfl) ?_
  refine gw_putF (w' := [(a, .inr (3, [.null, .ref q7, .ref q15, .int (0), .ref q28, .ref q36, .ref q44, .ref q52, .ref q60, .int (0), .ref q73, .ref q81, .ref q89, .ref q97, .int 0])), (q7, .inl (cI, 120, .inl (fun _ => 0))), (q15, .inl (cI, 120, .inl (fun _ => 0))), (q28, .inl (cI, 120, .inl (fun _ => 0))), (q36, .inl (cI, 120, .inl (fun _ => 0))), (q44, .inl (cI, 120, .inl (fun _ => 0))), (q52, .inl (cI, 120, .inl (fun _ => 0))), (q60, .inl (cI, 120, .inl (fun _ => 0))), (q73, .inl (cI, 121, .inl (fun _ => 0))), (q81, .inl (cI, 121, .inl (fun _ => 0))), (q89, .inl (cI, 121, .inl (fun _ => 0))), (q97, .inl (cI, 121, .inl (fun _ => 0)))]) C hin2 in_W ty_W tk_W nm_W 0 rfl clg_3 13 (by decide) tv_147 rfl rfl rfl rfl (Nat.le_of_ble_eq_true rfl) d_W_init_99 rfl ?_
  refine gw_aload_n C 0 d_W_init_102 rfl rfl ?_
  refine gw_iconst (v := 0) C d_W_init_103 (by decide) ?_
  refine gw_put (w' := [(a, .inr (3, [.null, .ref q7, .ref q15, .int (0), .ref q28, .ref q36, .ref q44, .ref q52, .ref q60, .int (0), .ref q73, .ref q81, .ref q89, .ref q97, .int (0)])), (q7, .inl (cI, 120, .inl (fun _ => 0))), (q15, .inl (cI, 120, .inl (fun _ => 0))), (q28, .inl (cI, 120, .inl (fun _ => 0))), (q36, .inl (cI, 120, .inl (fun _ => 0))), (q44, .inl (cI, 120, .inl (fun _ => 0))), (q52, .inl (cI, 120, .inl (fun _ => 0))), (q60, .inl (cI, 120, .inl (fun _ => 0))), (q73, .inl (cI, 121, .inl (fun _ => 0))), (q81, .inl (cI, 121, .inl (fun _ => 0))), (q89, .inl (cI, 121, .inl (fun _ => 0))), (q97, .inl (cI, 121, .inl (fun _ => 0)))]) C in_W ty_W tk_W nm_W 0 rfl clg_3 14 (by decide) tv_148 rfl rfl rfl rfl (Nat.le_of_ble_eq_true rfl) d_W_init_104 rfl ?_
  refine gw_aload_n C 0 d_W_init_107 rfl rfl ?_
  refine gw_aload_n C 1 d_W_init_108 rfl rfl ?_
  refine gw_putF (w' := [(a, .inr (3, [.ref f1, .ref q7, .ref q15, .int (0), .ref q28, .ref q36, .ref q44, .ref q52, .ref q60, .int (0), .ref q73, .ref q81, .ref q89, .ref q97, .int (0)])), (q7, .inl (cI, 120, .inl (fun _ => 0))), (q15, .inl (cI, 120, .inl (fun _ => 0))), (q28, .inl (cI, 120, .inl (fun _ => 0))), (q36, .inl (cI, 120, .inl (fun _ => 0))), (q44, .inl (cI, 120, .inl (fun _ => 0))), (q52, .inl (cI, 120, .inl (fun _ => 0))), (q60, .inl (cI, 120, .inl (fun _ => 0))), (q73, .inl (cI, 121, .inl (fun _ => 0))), (q81, .inl (cI, 121, .inl (fun _ => 0))), (q89, .inl (cI, 121, .inl (fun _ => 0))), (q97, .inl (cI, 121, .inl (fun _ => 0)))]) C hin2 in_W ty_W tk_W nm_W 0 rfl clg_3 0 (by decide) tv_134 rfl rfl rfl rfl (Nat.le_of_ble_eq_true rfl) d_W_init_109 rfl ?_
  exact gw_vretX C ⟨fun k => ([q7, q15, q28, q36, q44, q52, q60, q73, q81, q89, q97] : List Nat).getD k 0, rfl⟩ d_W_init_112
abbrev b_P_init : ByteArray := prog_4_method_1_code
def y_P_init : MethodName := ⟨"NoneWords$Speech", "<init>", "(LNoneWords$Facts;LNoneWords$Writer;)V"⟩
abbrev ws_P_init : List Cond := Cond.code y_P_init b_P_init 3 (none) :: TB
set_option maxRecDepth 100000 in
theorem tc_P_init : Cond.code y_P_init b_P_init 3 (none) ∈ TB := inTB 184 rfl rfl
theorem mv_P_init : Cond.instanceMethod y_P_init ∈ TB ∧ Cond.initialized "NoneWords$Speech" ∈ TB ∧ Cond.code y_P_init b_P_init 3 (none) ∈ TB := ⟨inTB 183 (by decide +kernel) (by decide +kernel), inTB 69 (by decide +kernel) (by decide +kernel), tc_P_init⟩
theorem pd_P_init : y_P_init.cls ≠ "java/lang/invoke/MethodHandle" ∧ y_P_init.cls ≠ "java/lang/invoke/VarHandle" ∧ (parseMethodDescriptor y_P_init.desc).map (fun d => d.parameters.length) = some 2 := by decide +kernel
theorem d_P_init_0 : decode b_P_init 0 = .ok (.aload_n 0, 1) := by decide +kernel
theorem d_P_init_1 : decode b_P_init 1 = .ok (.invokespecial 3, 3) := by decide +kernel
theorem d_P_init_4 : decode b_P_init 4 = .ok (.aload_n 0, 1) := by decide +kernel
theorem d_P_init_5 : decode b_P_init 5 = .ok (.sipush 256, 3) := by decide +kernel
theorem d_P_init_8 : decode b_P_init 8 = .ok (.newarray .char, 2) := by decide +kernel
theorem d_P_init_10 : decode b_P_init 10 = .ok (.putfield 11, 3) := by decide +kernel
theorem d_P_init_13 : decode b_P_init 13 = .ok (.aload_n 0, 1) := by decide +kernel
theorem d_P_init_14 : decode b_P_init 14 = .ok (.iconst 0, 1) := by decide +kernel
theorem d_P_init_15 : decode b_P_init 15 = .ok (.putfield 15, 3) := by decide +kernel
theorem d_P_init_18 : decode b_P_init 18 = .ok (.aload_n 0, 1) := by decide +kernel
theorem d_P_init_19 : decode b_P_init 19 = .ok (.iconst (-1), 1) := by decide +kernel
theorem d_P_init_20 : decode b_P_init 20 = .ok (.putfield 19, 3) := by decide +kernel
theorem d_P_init_23 : decode b_P_init 23 = .ok (.aload_n 0, 1) := by decide +kernel
theorem d_P_init_24 : decode b_P_init 24 = .ok (.aload_n 1, 1) := by decide +kernel
theorem d_P_init_25 : decode b_P_init 25 = .ok (.putfield 22, 3) := by decide +kernel
theorem d_P_init_28 : decode b_P_init 28 = .ok (.aload_n 0, 1) := by decide +kernel
theorem d_P_init_29 : decode b_P_init 29 = .ok (.aload_n 2, 1) := by decide +kernel
theorem d_P_init_30 : decode b_P_init 30 = .ok (.putfield 26, 3) := by decide +kernel
theorem d_P_init_33 : decode b_P_init 33 = .ok (.return_, 1) := by decide +kernel
abbrev rm_P_init : Room := { frames := 1, cells := 1, slots := 256, locals := 30 }
def w0_P (a : Nat) (f1 : Nat) (f2 : Nat) (g : Nat → Nat) (cI cZ cC : ClassId) : va_W := [(a, .inr (2, [.ref f1, .ref f2, .ref (g 0), .int (0), .int (-1)])), ((g 0), .inl (cC, 256, .inl (fun _ => 0)))]
set_option maxRecDepth 100000 in
theorem c_P_init (hZ : gw_ZOK Z) {a f1 f2 : Nat} : CX l y_P_init ws_P_init rm_P_init D vwCl (tysW cI cZ cC) Z [.ref a, .ref f1, .ref f2] [(a, .inr (2, [.null, .null, .null, .int 0, .int 0]))] (fun wf => ∃ g : Nat → Nat, wf = w0_P a f1 f2 g cI cZ cC) 1 256 := by
  refine CX.ofG hZ (by decide) rfl (Nat.le_of_ble_eq_true rfl) (fun p e s m below meth c A C hin2 => ?_)
  refine gw_aload_n C 0 d_P_init_0 rfl rfl ?_
  refine gw_objInit C tv_185 tv_82 tv_83 d_P_init_1 (Nat.le_of_ble_eq_true rfl) (Nat.le_of_ble_eq_true rfl) ?_
  refine gw_aload_n C 0 d_P_init_4 rfl rfl ?_
  refine gw_sipush (v := 256) C d_P_init_5 (by decide) ?_
  refine gw_newa (ty := .char) (N := 256) C rfl tv_202 2 rfl ra_c rfl (by decide) (by decide) (by decide) (Nat.le_of_ble_eq_true rfl) (Nat.le_of_ble_eq_true rfl) d_P_init_8 (fun q8 => ?_)
  refine gw_w (w' := [(a, .inr (2, [.null, .null, .null, .int 0, .int 0])), (q8, .inl (cC, 256, .inl (fun _ => 0)))]) rfl ?_
  refine gw_widen (k := 1) (n := 256) (Nat.le_of_ble_eq_true rfl) (Nat.le_of_ble_eq_true rfl) ?_
  refine gw_putF (w' := [(a, .inr (2, [.null, .null, .ref q8, .int 0, .int 0])), (q8, .inl (cC, 256, .inl (fun _ => 0)))]) C hin2 in_P ty_P tk_P nm_P 0 rfl clg_2 2 (by decide) tv_188 rfl rfl rfl rfl (Nat.le_of_ble_eq_true rfl) d_P_init_10 rfl ?_
  refine gw_aload_n C 0 d_P_init_13 rfl rfl ?_
  refine gw_iconst (v := 0) C d_P_init_14 (by decide) ?_
  refine gw_put (w' := [(a, .inr (2, [.null, .null, .ref q8, .int (0), .int 0])), (q8, .inl (cC, 256, .inl (fun _ => 0)))]) C in_P ty_P tk_P nm_P 0 rfl clg_2 3 (by decide) tv_189 rfl rfl rfl rfl (Nat.le_of_ble_eq_true rfl) d_P_init_15 rfl ?_
  refine gw_aload_n C 0 d_P_init_18 rfl rfl ?_
  refine gw_iconst (v := -1) C d_P_init_19 (by decide) ?_
  refine gw_put (w' := [(a, .inr (2, [.null, .null, .ref q8, .int (0), .int (-1)])), (q8, .inl (cC, 256, .inl (fun _ => 0)))]) C in_P ty_P tk_P nm_P 0 rfl clg_2 4 (by decide) tv_190 rfl rfl rfl rfl (Nat.le_of_ble_eq_true rfl) d_P_init_20 rfl ?_
  refine gw_aload_n C 0 d_P_init_23 rfl rfl ?_
  refine gw_aload_n C 1 d_P_init_24 rfl rfl ?_
  refine gw_putF (w' := [(a, .inr (2, [.ref f1, .null, .ref q8, .int (0), .int (-1)])), (q8, .inl (cC, 256, .inl (fun _ => 0)))]) C hin2 in_P ty_P tk_P nm_P 0 rfl clg_2 0 (by decide) tv_186 rfl rfl rfl rfl (Nat.le_of_ble_eq_true rfl) d_P_init_25 rfl ?_
  refine gw_aload_n C 0 d_P_init_28 rfl rfl ?_
  refine gw_aload_n C 2 d_P_init_29 rfl rfl ?_
  refine gw_putF (w' := [(a, .inr (2, [.ref f1, .ref f2, .ref q8, .int (0), .int (-1)])), (q8, .inl (cC, 256, .inl (fun _ => 0)))]) C hin2 in_P ty_P tk_P nm_P 0 rfl clg_2 1 (by decide) tv_187 rfl rfl rfl rfl (Nat.le_of_ble_eq_true rfl) d_P_init_30 rfl ?_
  exact gw_vretX C ⟨fun k => ([q8] : List Nat).getD k 0, rfl⟩ d_P_init_33
abbrev b_S_init : ByteArray := prog_3_method_1_code
def y_S_init : MethodName := ⟨"NoneWords$Search", "<init>", "(LNoneWords$Facts;)V"⟩
abbrev ws_S_init : List Cond := Cond.code y_S_init b_S_init 2 (none) :: TB
set_option maxRecDepth 100000 in
theorem tc_S_init : Cond.code y_S_init b_S_init 2 (none) ∈ TB := inTB 207 rfl rfl
theorem mv_S_init : Cond.instanceMethod y_S_init ∈ TB ∧ Cond.initialized "NoneWords$Search" ∈ TB ∧ Cond.code y_S_init b_S_init 2 (none) ∈ TB := ⟨inTB 206 (by decide +kernel) (by decide +kernel), inTB 70 (by decide +kernel) (by decide +kernel), tc_S_init⟩
theorem pd_S_init : y_S_init.cls ≠ "java/lang/invoke/MethodHandle" ∧ y_S_init.cls ≠ "java/lang/invoke/VarHandle" ∧ (parseMethodDescriptor y_S_init.desc).map (fun d => d.parameters.length) = some 1 := by decide +kernel
theorem d_S_init_0 : decode b_S_init 0 = .ok (.aload_n 0, 1) := by decide +kernel
theorem d_S_init_1 : decode b_S_init 1 = .ok (.invokespecial 3, 3) := by decide +kernel
theorem d_S_init_4 : decode b_S_init 4 = .ok (.aload_n 0, 1) := by decide +kernel
theorem d_S_init_5 : decode b_S_init 5 = .ok (.bipush 120, 2) := by decide +kernel
theorem d_S_init_7 : decode b_S_init 7 = .ok (.newarray .boolean, 2) := by decide +kernel
theorem d_S_init_9 : decode b_S_init 9 = .ok (.putfield 9, 3) := by decide +kernel
theorem d_S_init_12 : decode b_S_init 12 = .ok (.aload_n 0, 1) := by decide +kernel
theorem d_S_init_13 : decode b_S_init 13 = .ok (.bipush 25, 2) := by decide +kernel
theorem d_S_init_15 : decode b_S_init 15 = .ok (.newarray .int, 2) := by decide +kernel
theorem d_S_init_17 : decode b_S_init 17 = .ok (.putfield 17, 3) := by decide +kernel
theorem d_S_init_20 : decode b_S_init 20 = .ok (.aload_n 0, 1) := by decide +kernel
theorem d_S_init_21 : decode b_S_init 21 = .ok (.bipush 120, 2) := by decide +kernel
theorem d_S_init_23 : decode b_S_init 23 = .ok (.newarray .int, 2) := by decide +kernel
theorem d_S_init_25 : decode b_S_init 25 = .ok (.putfield 21, 3) := by decide +kernel
theorem d_S_init_28 : decode b_S_init 28 = .ok (.aload_n 0, 1) := by decide +kernel
theorem d_S_init_29 : decode b_S_init 29 = .ok (.iconst 0, 1) := by decide +kernel
theorem d_S_init_30 : decode b_S_init 30 = .ok (.putfield 24, 3) := by decide +kernel
theorem d_S_init_33 : decode b_S_init 33 = .ok (.aload_n 0, 1) := by decide +kernel
theorem d_S_init_34 : decode b_S_init 34 = .ok (.aload_n 1, 1) := by decide +kernel
theorem d_S_init_35 : decode b_S_init 35 = .ok (.putfield 28, 3) := by decide +kernel
theorem d_S_init_38 : decode b_S_init 38 = .ok (.return_, 1) := by decide +kernel
abbrev rm_S_init : Room := { frames := 1, cells := 3, slots := 265, locals := 30 }
def w0_S (a : Nat) (f1 : Nat) (g : Nat → Nat) (cI cZ cC : ClassId) : va_W := [(a, .inr (1, [.ref f1, .ref (g 0), .ref (g 1), .ref (g 2), .int (0)])), ((g 0), .inl (cZ, 120, .inl (fun _ => 0))), ((g 1), .inl (cI, 25, .inl (fun _ => 0))), ((g 2), .inl (cI, 120, .inl (fun _ => 0)))]
set_option maxRecDepth 100000 in
theorem c_S_init (hZ : gw_ZOK Z) {a f1 : Nat} : CX l y_S_init ws_S_init rm_S_init D vwCl (tysW cI cZ cC) Z [.ref a, .ref f1] [(a, .inr (1, [.null, .null, .null, .null, .int 0]))] (fun wf => ∃ g : Nat → Nat, wf = w0_S a f1 g cI cZ cC) 3 265 := by
  refine CX.ofG hZ (by decide) rfl (Nat.le_of_ble_eq_true rfl) (fun p e s m below meth c A C hin2 => ?_)
  refine gw_aload_n C 0 d_S_init_0 rfl rfl ?_
  refine gw_objInit C tv_208 tv_82 tv_83 d_S_init_1 (Nat.le_of_ble_eq_true rfl) (Nat.le_of_ble_eq_true rfl) ?_
  refine gw_aload_n C 0 d_S_init_4 rfl rfl ?_
  refine gw_bipush (v := 120) C d_S_init_5 (by decide) ?_
  refine gw_newa (ty := .boolean) (N := 120) C rfl tv_225 1 rfl ra_z rfl (by decide) (by decide) (by decide) (Nat.le_of_ble_eq_true rfl) (Nat.le_of_ble_eq_true rfl) d_S_init_7 (fun q7 => ?_)
  refine gw_w (w' := [(a, .inr (1, [.null, .null, .null, .null, .int 0])), (q7, .inl (cZ, 120, .inl (fun _ => 0)))]) rfl ?_
  refine gw_widen (k := 1) (n := 120) (Nat.le_of_ble_eq_true rfl) (Nat.le_of_ble_eq_true rfl) ?_
  refine gw_putF (w' := [(a, .inr (1, [.null, .ref q7, .null, .null, .int 0])), (q7, .inl (cZ, 120, .inl (fun _ => 0)))]) C hin2 in_S ty_S tk_S nm_S 0 rfl clg_1 1 (by decide) tv_210 rfl rfl rfl rfl (Nat.le_of_ble_eq_true rfl) d_S_init_9 rfl ?_
  refine gw_aload_n C 0 d_S_init_12 rfl rfl ?_
  refine gw_bipush (v := 25) C d_S_init_13 (by decide) ?_
  refine gw_newa (ty := .int) (N := 25) C rfl tv_127 0 rfl ra_i rfl (by decide) (by decide) (by decide) (Nat.le_of_ble_eq_true rfl) (Nat.le_of_ble_eq_true rfl) d_S_init_15 (fun q15 => ?_)
  refine gw_w (w' := [(a, .inr (1, [.null, .ref q7, .null, .null, .int 0])), (q7, .inl (cZ, 120, .inl (fun _ => 0))), (q15, .inl (cI, 25, .inl (fun _ => 0)))]) rfl ?_
  refine gw_widen (k := 2) (n := 145) (Nat.le_of_ble_eq_true rfl) (Nat.le_of_ble_eq_true rfl) ?_
  refine gw_putF (w' := [(a, .inr (1, [.null, .ref q7, .ref q15, .null, .int 0])), (q7, .inl (cZ, 120, .inl (fun _ => 0))), (q15, .inl (cI, 25, .inl (fun _ => 0)))]) C hin2 in_S ty_S tk_S nm_S 0 rfl clg_1 2 (by decide) tv_211 rfl rfl rfl rfl (Nat.le_of_ble_eq_true rfl) d_S_init_17 rfl ?_
  refine gw_aload_n C 0 d_S_init_20 rfl rfl ?_
  refine gw_bipush (v := 120) C d_S_init_21 (by decide) ?_
  refine gw_newa (ty := .int) (N := 120) C rfl tv_127 0 rfl ra_i rfl (by decide) (by decide) (by decide) (Nat.le_of_ble_eq_true rfl) (Nat.le_of_ble_eq_true rfl) d_S_init_23 (fun q23 => ?_)
  refine gw_w (w' := [(a, .inr (1, [.null, .ref q7, .ref q15, .null, .int 0])), (q7, .inl (cZ, 120, .inl (fun _ => 0))), (q15, .inl (cI, 25, .inl (fun _ => 0))), (q23, .inl (cI, 120, .inl (fun _ => 0)))]) rfl ?_
  refine gw_widen (k := 3) (n := 265) (Nat.le_of_ble_eq_true rfl) (Nat.le_of_ble_eq_true rfl) ?_
  refine gw_putF (w' := [(a, .inr (1, [.null, .ref q7, .ref q15, .ref q23, .int 0])), (q7, .inl (cZ, 120, .inl (fun _ => 0))), (q15, .inl (cI, 25, .inl (fun _ => 0))), (q23, .inl (cI, 120, .inl (fun _ => 0)))]) C hin2 in_S ty_S tk_S nm_S 0 rfl clg_1 3 (by decide) tv_212 rfl rfl rfl rfl (Nat.le_of_ble_eq_true rfl) d_S_init_25 rfl ?_
  refine gw_aload_n C 0 d_S_init_28 rfl rfl ?_
  refine gw_iconst (v := 0) C d_S_init_29 (by decide) ?_
  refine gw_put (w' := [(a, .inr (1, [.null, .ref q7, .ref q15, .ref q23, .int (0)])), (q7, .inl (cZ, 120, .inl (fun _ => 0))), (q15, .inl (cI, 25, .inl (fun _ => 0))), (q23, .inl (cI, 120, .inl (fun _ => 0)))]) C in_S ty_S tk_S nm_S 0 rfl clg_1 4 (by decide) tv_213 rfl rfl rfl rfl (Nat.le_of_ble_eq_true rfl) d_S_init_30 rfl ?_
  refine gw_aload_n C 0 d_S_init_33 rfl rfl ?_
  refine gw_aload_n C 1 d_S_init_34 rfl rfl ?_
  refine gw_putF (w' := [(a, .inr (1, [.ref f1, .ref q7, .ref q15, .ref q23, .int (0)])), (q7, .inl (cZ, 120, .inl (fun _ => 0))), (q15, .inl (cI, 25, .inl (fun _ => 0))), (q23, .inl (cI, 120, .inl (fun _ => 0)))]) C hin2 in_S ty_S tk_S nm_S 0 rfl clg_1 0 (by decide) tv_209 rfl rfl rfl rfl (Nat.le_of_ble_eq_true rfl) d_S_init_35 rfl ?_
  exact gw_vretX C ⟨fun k => ([q7, q15, q23] : List Nat).getD k 0, rfl⟩ d_S_init_38
abbrev b_K_init : ByteArray := prog_7_method_1_code
def y_K_init : MethodName := ⟨"NoneWordsModel", "<init>", "()V"⟩
abbrev ws_K_init : List Cond := Cond.code y_K_init b_K_init 1 (none) :: TB
set_option maxRecDepth 100000 in
theorem tc_K_init : Cond.code y_K_init b_K_init 1 (none) ∈ TB := inTB 683 rfl rfl
theorem mv_K_init : Cond.instanceMethod y_K_init ∈ TB ∧ Cond.initialized "NoneWordsModel" ∈ TB ∧ Cond.code y_K_init b_K_init 1 (none) ∈ TB := ⟨inTB 682 (by decide +kernel) (by decide +kernel), inTB 71 (by decide +kernel) (by decide +kernel), tc_K_init⟩
theorem pd_K_init : y_K_init.cls ≠ "java/lang/invoke/MethodHandle" ∧ y_K_init.cls ≠ "java/lang/invoke/VarHandle" ∧ (parseMethodDescriptor y_K_init.desc).map (fun d => d.parameters.length) = some 0 := by decide +kernel
theorem d_K_init_0 : decode b_K_init 0 = .ok (.aload_n 0, 1) := by decide +kernel
theorem d_K_init_1 : decode b_K_init 1 = .ok (.invokespecial 1, 3) := by decide +kernel
theorem d_K_init_4 : decode b_K_init 4 = .ok (.aload_n 0, 1) := by decide +kernel
theorem d_K_init_5 : decode b_K_init 5 = .ok (.iconst 5, 1) := by decide +kernel
theorem d_K_init_6 : decode b_K_init 6 = .ok (.newarray .int, 2) := by decide +kernel
theorem d_K_init_8 : decode b_K_init 8 = .ok (.putfield 7, 3) := by decide +kernel
theorem d_K_init_11 : decode b_K_init 11 = .ok (.aload_n 0, 1) := by decide +kernel
theorem d_K_init_12 : decode b_K_init 12 = .ok (.bipush 120, 2) := by decide +kernel
theorem d_K_init_14 : decode b_K_init 14 = .ok (.newarray .int, 2) := by decide +kernel
theorem d_K_init_16 : decode b_K_init 16 = .ok (.putfield 13, 3) := by decide +kernel
theorem d_K_init_19 : decode b_K_init 19 = .ok (.aload_n 0, 1) := by decide +kernel
theorem d_K_init_20 : decode b_K_init 20 = .ok (.bipush 120, 2) := by decide +kernel
theorem d_K_init_22 : decode b_K_init 22 = .ok (.newarray .int, 2) := by decide +kernel
theorem d_K_init_24 : decode b_K_init 24 = .ok (.putfield 16, 3) := by decide +kernel
theorem d_K_init_27 : decode b_K_init 27 = .ok (.aload_n 0, 1) := by decide +kernel
theorem d_K_init_28 : decode b_K_init 28 = .ok (.bipush 120, 2) := by decide +kernel
theorem d_K_init_30 : decode b_K_init 30 = .ok (.newarray .int, 2) := by decide +kernel
theorem d_K_init_32 : decode b_K_init 32 = .ok (.putfield 19, 3) := by decide +kernel
theorem d_K_init_35 : decode b_K_init 35 = .ok (.aload_n 0, 1) := by decide +kernel
theorem d_K_init_36 : decode b_K_init 36 = .ok (.bipush 120, 2) := by decide +kernel
theorem d_K_init_38 : decode b_K_init 38 = .ok (.newarray .int, 2) := by decide +kernel
theorem d_K_init_40 : decode b_K_init 40 = .ok (.putfield 22, 3) := by decide +kernel
theorem d_K_init_43 : decode b_K_init 43 = .ok (.aload_n 0, 1) := by decide +kernel
theorem d_K_init_44 : decode b_K_init 44 = .ok (.bipush 120, 2) := by decide +kernel
theorem d_K_init_46 : decode b_K_init 46 = .ok (.newarray .int, 2) := by decide +kernel
theorem d_K_init_48 : decode b_K_init 48 = .ok (.putfield 25, 3) := by decide +kernel
theorem d_K_init_51 : decode b_K_init 51 = .ok (.aload_n 0, 1) := by decide +kernel
theorem d_K_init_52 : decode b_K_init 52 = .ok (.sipush 600, 3) := by decide +kernel
theorem d_K_init_55 : decode b_K_init 55 = .ok (.newarray .boolean, 2) := by decide +kernel
theorem d_K_init_57 : decode b_K_init 57 = .ok (.putfield 28, 3) := by decide +kernel
theorem d_K_init_60 : decode b_K_init 60 = .ok (.aload_n 0, 1) := by decide +kernel
theorem d_K_init_61 : decode b_K_init 61 = .ok (.sipush 3000, 3) := by decide +kernel
theorem d_K_init_64 : decode b_K_init 64 = .ok (.newarray .boolean, 2) := by decide +kernel
theorem d_K_init_66 : decode b_K_init 66 = .ok (.putfield 32, 3) := by decide +kernel
theorem d_K_init_69 : decode b_K_init 69 = .ok (.aload_n 0, 1) := by decide +kernel
theorem d_K_init_70 : decode b_K_init 70 = .ok (.ldc 35, 2) := by decide +kernel
theorem d_K_init_72 : decode b_K_init 72 = .ok (.newarray .int, 2) := by decide +kernel
theorem d_K_init_74 : decode b_K_init 74 = .ok (.putfield 36, 3) := by decide +kernel
theorem d_K_init_77 : decode b_K_init 77 = .ok (.aload_n 0, 1) := by decide +kernel
theorem d_K_init_78 : decode b_K_init 78 = .ok (.sipush 400, 3) := by decide +kernel
theorem d_K_init_81 : decode b_K_init 81 = .ok (.newarray .int, 2) := by decide +kernel
theorem d_K_init_83 : decode b_K_init 83 = .ok (.putfield 39, 3) := by decide +kernel
theorem d_K_init_86 : decode b_K_init 86 = .ok (.aload_n 0, 1) := by decide +kernel
theorem d_K_init_87 : decode b_K_init 87 = .ok (.sipush 400, 3) := by decide +kernel
theorem d_K_init_90 : decode b_K_init 90 = .ok (.newarray .int, 2) := by decide +kernel
theorem d_K_init_92 : decode b_K_init 92 = .ok (.putfield 42, 3) := by decide +kernel
theorem d_K_init_95 : decode b_K_init 95 = .ok (.aload_n 0, 1) := by decide +kernel
theorem d_K_init_96 : decode b_K_init 96 = .ok (.bipush 120, 2) := by decide +kernel
theorem d_K_init_98 : decode b_K_init 98 = .ok (.newarray .int, 2) := by decide +kernel
theorem d_K_init_100 : decode b_K_init 100 = .ok (.putfield 45, 3) := by decide +kernel
theorem d_K_init_103 : decode b_K_init 103 = .ok (.aload_n 0, 1) := by decide +kernel
theorem d_K_init_104 : decode b_K_init 104 = .ok (.bipush 120, 2) := by decide +kernel
theorem d_K_init_106 : decode b_K_init 106 = .ok (.newarray .int, 2) := by decide +kernel
theorem d_K_init_108 : decode b_K_init 108 = .ok (.putfield 48, 3) := by decide +kernel
theorem d_K_init_111 : decode b_K_init 111 = .ok (.aload_n 0, 1) := by decide +kernel
theorem d_K_init_112 : decode b_K_init 112 = .ok (.bipush 120, 2) := by decide +kernel
theorem d_K_init_114 : decode b_K_init 114 = .ok (.newarray .boolean, 2) := by decide +kernel
theorem d_K_init_116 : decode b_K_init 116 = .ok (.putfield 51, 3) := by decide +kernel
theorem d_K_init_119 : decode b_K_init 119 = .ok (.aload_n 0, 1) := by decide +kernel
theorem d_K_init_120 : decode b_K_init 120 = .ok (.sipush 130, 3) := by decide +kernel
theorem d_K_init_123 : decode b_K_init 123 = .ok (.newarray .int, 2) := by decide +kernel
theorem d_K_init_125 : decode b_K_init 125 = .ok (.putfield 54, 3) := by decide +kernel
theorem d_K_init_128 : decode b_K_init 128 = .ok (.aload_n 0, 1) := by decide +kernel
theorem d_K_init_129 : decode b_K_init 129 = .ok (.sipush 130, 3) := by decide +kernel
theorem d_K_init_132 : decode b_K_init 132 = .ok (.newarray .int, 2) := by decide +kernel
theorem d_K_init_134 : decode b_K_init 134 = .ok (.putfield 57, 3) := by decide +kernel
theorem d_K_init_137 : decode b_K_init 137 = .ok (.aload_n 0, 1) := by decide +kernel
theorem d_K_init_138 : decode b_K_init 138 = .ok (.sipush 130, 3) := by decide +kernel
theorem d_K_init_141 : decode b_K_init 141 = .ok (.newarray .int, 2) := by decide +kernel
theorem d_K_init_143 : decode b_K_init 143 = .ok (.putfield 60, 3) := by decide +kernel
theorem d_K_init_146 : decode b_K_init 146 = .ok (.aload_n 0, 1) := by decide +kernel
theorem d_K_init_147 : decode b_K_init 147 = .ok (.iconst 5, 1) := by decide +kernel
theorem d_K_init_148 : decode b_K_init 148 = .ok (.newarray .int, 2) := by decide +kernel
theorem d_K_init_150 : decode b_K_init 150 = .ok (.putfield 63, 3) := by decide +kernel
theorem d_K_init_153 : decode b_K_init 153 = .ok (.aload_n 0, 1) := by decide +kernel
theorem d_K_init_154 : decode b_K_init 154 = .ok (.bipush 120, 2) := by decide +kernel
theorem d_K_init_156 : decode b_K_init 156 = .ok (.newarray .boolean, 2) := by decide +kernel
theorem d_K_init_158 : decode b_K_init 158 = .ok (.putfield 66, 3) := by decide +kernel
theorem d_K_init_161 : decode b_K_init 161 = .ok (.aload_n 0, 1) := by decide +kernel
theorem d_K_init_162 : decode b_K_init 162 = .ok (.bipush 120, 2) := by decide +kernel
theorem d_K_init_164 : decode b_K_init 164 = .ok (.newarray .int, 2) := by decide +kernel
theorem d_K_init_166 : decode b_K_init 166 = .ok (.putfield 69, 3) := by decide +kernel
theorem d_K_init_169 : decode b_K_init 169 = .ok (.return_, 1) := by decide +kernel
abbrev rm_K_init : Room := { frames := 1, cells := 20, slots := 66000, locals := 30 }
def w0_K (a : Nat) (g : Nat → Nat) (cI cZ cC : ClassId) : va_W := [(a, .inr (5, [.int 0, .ref (g 0), .int 0, .int 0, .ref (g 1), .ref (g 2), .ref (g 3), .ref (g 4), .ref (g 5), .ref (g 6), .ref (g 7), .ref (g 8), .ref (g 9), .ref (g 10), .ref (g 11), .ref (g 12), .int 0, .int 0, .int 0, .ref (g 13), .ref (g 14), .ref (g 15), .ref (g 16), .int 0, .ref (g 17), .ref (g 18), .ref (g 19), .int 0])), ((g 0), .inl (cI, 5, .inl (fun _ => 0))), ((g 1), .inl (cI, 120, .inl (fun _ => 0))), ((g 2), .inl (cI, 120, .inl (fun _ => 0))), ((g 3), .inl (cI, 120, .inl (fun _ => 0))), ((g 4), .inl (cI, 120, .inl (fun _ => 0))), ((g 5), .inl (cI, 120, .inl (fun _ => 0))), ((g 6), .inl (cZ, 600, .inl (fun _ => 0))), ((g 7), .inl (cZ, 3000, .inl (fun _ => 0))), ((g 8), .inl (cI, 60000, .inl (fun _ => 0))), ((g 9), .inl (cI, 400, .inl (fun _ => 0))), ((g 10), .inl (cI, 400, .inl (fun _ => 0))), ((g 11), .inl (cI, 120, .inl (fun _ => 0))), ((g 12), .inl (cI, 120, .inl (fun _ => 0))), ((g 13), .inl (cZ, 120, .inl (fun _ => 0))), ((g 14), .inl (cI, 130, .inl (fun _ => 0))), ((g 15), .inl (cI, 130, .inl (fun _ => 0))), ((g 16), .inl (cI, 130, .inl (fun _ => 0))), ((g 17), .inl (cI, 5, .inl (fun _ => 0))), ((g 18), .inl (cZ, 120, .inl (fun _ => 0))), ((g 19), .inl (cI, 120, .inl (fun _ => 0)))]
set_option maxRecDepth 100000 in
theorem c_K_init (hZ : gw_ZOK Z) {a : Nat} : CX l y_K_init ws_K_init rm_K_init D vwCl (tysW cI cZ cC) Z [.ref a] [(a, .inr (5, [.int 0, .null, .int 0, .int 0, .null, .null, .null, .null, .null, .null, .null, .null, .null, .null, .null, .null, .int 0, .int 0, .int 0, .null, .null, .null, .null, .int 0, .null, .null, .null, .int 0]))] (fun wf => ∃ g : Nat → Nat, wf = w0_K a g cI cZ cC) 20 66000 := by
  refine CX.ofG hZ (by decide) rfl (Nat.le_of_ble_eq_true rfl) (fun p e s m below meth c A C hin2 => ?_)
  refine gw_aload_n C 0 d_K_init_0 rfl rfl ?_
  refine gw_objInit C tv_684 tv_82 tv_83 d_K_init_1 (Nat.le_of_ble_eq_true rfl) (Nat.le_of_ble_eq_true rfl) ?_
  refine gw_aload_n C 0 d_K_init_4 rfl rfl ?_
  refine gw_iconst (v := 5) C d_K_init_5 (by decide) ?_
  refine gw_newa (ty := .int) (N := 5) C rfl tv_127 0 rfl ra_i rfl (by decide) (by decide) (by decide) (Nat.le_of_ble_eq_true rfl) (Nat.le_of_ble_eq_true rfl) d_K_init_6 (fun q6 => ?_)
  refine gw_w (w' := [(a, .inr (5, [.int 0, .null, .int 0, .int 0, .null, .null, .null, .null, .null, .null, .null, .null, .null, .null, .null, .null, .int 0, .int 0, .int 0, .null, .null, .null, .null, .int 0, .null, .null, .null, .int 0])), (q6, .inl (cI, 5, .inl (fun _ => 0)))]) rfl ?_
  refine gw_widen (k := 1) (n := 5) (Nat.le_of_ble_eq_true rfl) (Nat.le_of_ble_eq_true rfl) ?_
  refine gw_putF (w' := [(a, .inr (5, [.int 0, .ref q6, .int 0, .int 0, .null, .null, .null, .null, .null, .null, .null, .null, .null, .null, .null, .null, .int 0, .int 0, .int 0, .null, .null, .null, .null, .int 0, .null, .null, .null, .int 0])), (q6, .inl (cI, 5, .inl (fun _ => 0)))]) C hin2 in_K ty_K tk_K nm_K 0 rfl clg_5 1 (by decide) tv_687 rfl rfl rfl rfl (Nat.le_of_ble_eq_true rfl) d_K_init_8 rfl ?_
  refine gw_aload_n C 0 d_K_init_11 rfl rfl ?_
  refine gw_bipush (v := 120) C d_K_init_12 (by decide) ?_
  refine gw_newa (ty := .int) (N := 120) C rfl tv_127 0 rfl ra_i rfl (by decide) (by decide) (by decide) (Nat.le_of_ble_eq_true rfl) (Nat.le_of_ble_eq_true rfl) d_K_init_14 (fun q14 => ?_)
  refine gw_w (w' := [(a, .inr (5, [.int 0, .ref q6, .int 0, .int 0, .null, .null, .null, .null, .null, .null, .null, .null, .null, .null, .null, .null, .int 0, .int 0, .int 0, .null, .null, .null, .null, .int 0, .null, .null, .null, .int 0])), (q6, .inl (cI, 5, .inl (fun _ => 0))), (q14, .inl (cI, 120, .inl (fun _ => 0)))]) rfl ?_
  refine gw_widen (k := 2) (n := 125) (Nat.le_of_ble_eq_true rfl) (Nat.le_of_ble_eq_true rfl) ?_
  refine gw_putF (w' := [(a, .inr (5, [.int 0, .ref q6, .int 0, .int 0, .ref q14, .null, .null, .null, .null, .null, .null, .null, .null, .null, .null, .null, .int 0, .int 0, .int 0, .null, .null, .null, .null, .int 0, .null, .null, .null, .int 0])), (q6, .inl (cI, 5, .inl (fun _ => 0))), (q14, .inl (cI, 120, .inl (fun _ => 0)))]) C hin2 in_K ty_K tk_K nm_K 0 rfl clg_5 4 (by decide) tv_690 rfl rfl rfl rfl (Nat.le_of_ble_eq_true rfl) d_K_init_16 rfl ?_
  refine gw_aload_n C 0 d_K_init_19 rfl rfl ?_
  refine gw_bipush (v := 120) C d_K_init_20 (by decide) ?_
  refine gw_newa (ty := .int) (N := 120) C rfl tv_127 0 rfl ra_i rfl (by decide) (by decide) (by decide) (Nat.le_of_ble_eq_true rfl) (Nat.le_of_ble_eq_true rfl) d_K_init_22 (fun q22 => ?_)
  refine gw_w (w' := [(a, .inr (5, [.int 0, .ref q6, .int 0, .int 0, .ref q14, .null, .null, .null, .null, .null, .null, .null, .null, .null, .null, .null, .int 0, .int 0, .int 0, .null, .null, .null, .null, .int 0, .null, .null, .null, .int 0])), (q6, .inl (cI, 5, .inl (fun _ => 0))), (q14, .inl (cI, 120, .inl (fun _ => 0))), (q22, .inl (cI, 120, .inl (fun _ => 0)))]) rfl ?_
  refine gw_widen (k := 3) (n := 245) (Nat.le_of_ble_eq_true rfl) (Nat.le_of_ble_eq_true rfl) ?_
  refine gw_putF (w' := [(a, .inr (5, [.int 0, .ref q6, .int 0, .int 0, .ref q14, .ref q22, .null, .null, .null, .null, .null, .null, .null, .null, .null, .null, .int 0, .int 0, .int 0, .null, .null, .null, .null, .int 0, .null, .null, .null, .int 0])), (q6, .inl (cI, 5, .inl (fun _ => 0))), (q14, .inl (cI, 120, .inl (fun _ => 0))), (q22, .inl (cI, 120, .inl (fun _ => 0)))]) C hin2 in_K ty_K tk_K nm_K 0 rfl clg_5 5 (by decide) tv_691 rfl rfl rfl rfl (Nat.le_of_ble_eq_true rfl) d_K_init_24 rfl ?_
  refine gw_aload_n C 0 d_K_init_27 rfl rfl ?_
  refine gw_bipush (v := 120) C d_K_init_28 (by decide) ?_
  refine gw_newa (ty := .int) (N := 120) C rfl tv_127 0 rfl ra_i rfl (by decide) (by decide) (by decide) (Nat.le_of_ble_eq_true rfl) (Nat.le_of_ble_eq_true rfl) d_K_init_30 (fun q30 => ?_)
  refine gw_w (w' := [(a, .inr (5, [.int 0, .ref q6, .int 0, .int 0, .ref q14, .ref q22, .null, .null, .null, .null, .null, .null, .null, .null, .null, .null, .int 0, .int 0, .int 0, .null, .null, .null, .null, .int 0, .null, .null, .null, .int 0])), (q6, .inl (cI, 5, .inl (fun _ => 0))), (q14, .inl (cI, 120, .inl (fun _ => 0))), (q22, .inl (cI, 120, .inl (fun _ => 0))), (q30, .inl (cI, 120, .inl (fun _ => 0)))]) rfl ?_
  refine gw_widen (k := 4) (n := 365) (Nat.le_of_ble_eq_true rfl) (Nat.le_of_ble_eq_true rfl) ?_
  refine gw_putF (w' := [(a, .inr (5, [.int 0, .ref q6, .int 0, .int 0, .ref q14, .ref q22, .ref q30, .null, .null, .null, .null, .null, .null, .null, .null, .null, .int 0, .int 0, .int 0, .null, .null, .null, .null, .int 0, .null, .null, .null, .int 0])), (q6, .inl (cI, 5, .inl (fun _ => 0))), (q14, .inl (cI, 120, .inl (fun _ => 0))), (q22, .inl (cI, 120, .inl (fun _ => 0))), (q30, .inl (cI, 120, .inl (fun _ => 0)))]) C hin2 in_K ty_K tk_K nm_K 0 rfl clg_5 6 (by decide) tv_692 rfl rfl rfl rfl (Nat.le_of_ble_eq_true rfl) d_K_init_32 rfl ?_
  refine gw_aload_n C 0 d_K_init_35 rfl rfl ?_
  refine gw_bipush (v := 120) C d_K_init_36 (by decide) ?_
  refine gw_newa (ty := .int) (N := 120) C rfl tv_127 0 rfl ra_i rfl (by decide) (by decide) (by decide) (Nat.le_of_ble_eq_true rfl) (Nat.le_of_ble_eq_true rfl) d_K_init_38 (fun q38 => ?_)
  refine gw_w (w' := [(a, .inr (5, [.int 0, .ref q6, .int 0, .int 0, .ref q14, .ref q22, .ref q30, .null, .null, .null, .null, .null, .null, .null, .null, .null, .int 0, .int 0, .int 0, .null, .null, .null, .null, .int 0, .null, .null, .null, .int 0])), (q6, .inl (cI, 5, .inl (fun _ => 0))), (q14, .inl (cI, 120, .inl (fun _ => 0))), (q22, .inl (cI, 120, .inl (fun _ => 0))), (q30, .inl (cI, 120, .inl (fun _ => 0))), (q38, .inl (cI, 120, .inl (fun _ => 0)))]) rfl ?_
  refine gw_widen (k := 5) (n := 485) (Nat.le_of_ble_eq_true rfl) (Nat.le_of_ble_eq_true rfl) ?_
  refine gw_putF (w' := [(a, .inr (5, [.int 0, .ref q6, .int 0, .int 0, .ref q14, .ref q22, .ref q30, .ref q38, .null, .null, .null, .null, .null, .null, .null, .null, .int 0, .int 0, .int 0, .null, .null, .null, .null, .int 0, .null, .null, .null, .int 0])), (q6, .inl (cI, 5, .inl (fun _ => 0))), (q14, .inl (cI, 120, .inl (fun _ => 0))), (q22, .inl (cI, 120, .inl (fun _ => 0))), (q30, .inl (cI, 120, .inl (fun _ => 0))), (q38, .inl (cI, 120, .inl (fun _ => 0)))]) C hin2 in_K ty_K tk_K nm_K 0 rfl clg_5 7 (by decide) tv_693 rfl rfl rfl rfl (Nat.le_of_ble_eq_true rfl) d_K_init_40 rfl ?_
  refine gw_aload_n C 0 d_K_init_43 rfl rfl ?_
  refine gw_bipush (v := 120) C d_K_init_44 (by decide) ?_
  refine gw_newa (ty := .int) (N := 120) C rfl tv_127 0 rfl ra_i rfl (by decide) (by decide) (by decide) (Nat.le_of_ble_eq_true rfl) (Nat.le_of_ble_eq_true rfl) d_K_init_46 (fun q46 => ?_)
  refine gw_w (w' := [(a, .inr (5, [.int 0, .ref q6, .int 0, .int 0, .ref q14, .ref q22, .ref q30, .ref q38, .null, .null, .null, .null, .null, .null, .null, .null, .int 0, .int 0, .int 0, .null, .null, .null, .null, .int 0, .null, .null, .null, .int 0])), (q6, .inl (cI, 5, .inl (fun _ => 0))), (q14, .inl (cI, 120, .inl (fun _ => 0))), (q22, .inl (cI, 120, .inl (fun _ => 0))), (q30, .inl (cI, 120, .inl (fun _ => 0))), (q38, .inl (cI, 120, .inl (fun _ => 0))), (q46, .inl (cI, 120, .inl (fun _ => 0)))]) rfl ?_
  refine gw_widen (k := 6) (n := 605) (Nat.le_of_ble_eq_true rfl) (Nat.le_of_ble_eq_true rfl) ?_
  refine gw_putF (w' := [(a, .inr (5, [.int 0, .ref q6, .int 0, .int 0, .ref q14, .ref q22, .ref q30, .ref q38, .ref q46, .null, .null, .null, .null, .null, .null, .null, .int 0, .int 0, .int 0, .null, .null, .null, .null, .int 0, .null, .null, .null, .int 0])), (q6, .inl (cI, 5, .inl (fun _ => 0))), (q14, .inl (cI, 120, .inl (fun _ => 0))), (q22, .inl (cI, 120, .inl (fun _ => 0))), (q30, .inl (cI, 120, .inl (fun _ => 0))), (q38, .inl (cI, 120, .inl (fun _ => 0))), (q46, .inl (cI, 120, .inl (fun _ => 0)))]) C hin2 in_K ty_K tk_K nm_K 0 rfl clg_5 8 (by decide) tv_694 rfl rfl rfl rfl (Nat.le_of_ble_eq_true rfl) d_K_init_48 rfl ?_
  refine gw_aload_n C 0 d_K_init_51 rfl rfl ?_
  refine gw_sipush (v := 600) C d_K_init_52 (by decide) ?_
  refine gw_newa (ty := .boolean) (N := 600) C rfl tv_225 1 rfl ra_z rfl (by decide) (by decide) (by decide) (Nat.le_of_ble_eq_true rfl) (Nat.le_of_ble_eq_true rfl) d_K_init_55 (fun q55 => ?_)
  refine gw_w (w' := [(a, .inr (5, [.int 0, .ref q6, .int 0, .int 0, .ref q14, .ref q22, .ref q30, .ref q38, .ref q46, .null, .null, .null, .null, .null, .null, .null, .int 0, .int 0, .int 0, .null, .null, .null, .null, .int 0, .null, .null, .null, .int 0])), (q6, .inl (cI, 5, .inl (fun _ => 0))), (q14, .inl (cI, 120, .inl (fun _ => 0))), (q22, .inl (cI, 120, .inl (fun _ => 0))), (q30, .inl (cI, 120, .inl (fun _ => 0))), (q38, .inl (cI, 120, .inl (fun _ => 0))), (q46, .inl (cI, 120, .inl (fun _ => 0))), (q55, .inl (cZ, 600, .inl (fun _ => 0)))]) rfl ?_
  refine gw_widen (k := 7) (n := 1205) (Nat.le_of_ble_eq_true rfl) (Nat.le_of_ble_eq_true rfl) ?_
  refine gw_putF (w' := [(a, .inr (5, [.int 0, .ref q6, .int 0, .int 0, .ref q14, .ref q22, .ref q30, .ref q38, .ref q46, .ref q55, .null, .null, .null, .null, .null, .null, .int 0, .int 0, .int 0, .null, .null, .null, .null, .int 0, .null, .null, .null, .int 0])), (q6, .inl (cI, 5, .inl (fun _ => 0))), (q14, .inl (cI, 120, .inl (fun _ => 0))), (q22, .inl (cI, 120, .inl (fun _ => 0))), (q30, .inl (cI, 120, .inl (fun _ => 0))), (q38, .inl (cI, 120, .inl (fun _ => 0))), (q46, .inl (cI, 120, .inl (fun _ => 0))), (q55, .inl (cZ, 600, .inl (fun _ => 0)))]) C hin2 in_K ty_K tk_K nm_K 0 rfl clg_5 9 (by decide) tv_695 rfl rfl rfl rfl (Nat.le_of_ble_eq_true rfl) d_K_init_57 rfl ?_
  refine gw_aload_n C 0 d_K_init_60 rfl rfl ?_
  refine gw_sipush (v := 3000) C d_K_init_61 (by decide) ?_
  refine gw_newa (ty := .boolean) (N := 3000) C rfl tv_225 1 rfl ra_z rfl (by decide) (by decide) (by decide) (Nat.le_of_ble_eq_true rfl) (Nat.le_of_ble_eq_true rfl) d_K_init_64 (fun q64 => ?_)
  refine gw_w (w' := [(a, .inr (5, [.int 0, .ref q6, .int 0, .int 0, .ref q14, .ref q22, .ref q30, .ref q38, .ref q46, .ref q55, .null, .null, .null, .null, .null, .null, .int 0, .int 0, .int 0, .null, .null, .null, .null, .int 0, .null, .null, .null, .int 0])), (q6, .inl (cI, 5, .inl (fun _ => 0))), (q14, .inl (cI, 120, .inl (fun _ => 0))), (q22, .inl (cI, 120, .inl (fun _ => 0))), (q30, .inl (cI, 120, .inl (fun _ => 0))), (q38, .inl (cI, 120, .inl (fun _ => 0))), (q46, .inl (cI, 120, .inl (fun _ => 0))), (q55, .inl (cZ, 600, .inl (fun _ => 0))), (q64, .inl (cZ, 3000, .inl (fun _ => 0)))]) rfl ?_
  refine gw_widen (k := 8) (n := 4205) (Nat.le_of_ble_eq_true rfl) (Nat.le_of_ble_eq_true rfl) ?_
  refine gw_putF (w' := [(a, .inr (5, [.int 0, .ref q6, .int 0, .int 0, .ref q14, .ref q22, .ref q30, .ref q38, .ref q46, .ref q55, .ref q64, .null, .null, .null, .null, .null, .int 0, .int 0, .int 0, .null, .null, .null, .null, .int 0, .null, .null, .null, .int 0])), (q6, .inl (cI, 5, .inl (fun _ => 0))), (q14, .inl (cI, 120, .inl (fun _ => 0))), (q22, .inl (cI, 120, .inl (fun _ => 0))), (q30, .inl (cI, 120, .inl (fun _ => 0))), (q38, .inl (cI, 120, .inl (fun _ => 0))), (q46, .inl (cI, 120, .inl (fun _ => 0))), (q55, .inl (cZ, 600, .inl (fun _ => 0))), (q64, .inl (cZ, 3000, .inl (fun _ => 0)))]) C hin2 in_K ty_K tk_K nm_K 0 rfl clg_5 10 (by decide) tv_696 rfl rfl rfl rfl (Nat.le_of_ble_eq_true rfl) d_K_init_66 rfl ?_
  refine gw_aload_n C 0 d_K_init_69 rfl rfl ?_
  refine gw_ldc (v := 60000) C d_K_init_70 tv_685 ?_
  refine gw_newa (ty := .int) (N := 60000) C rfl tv_127 0 rfl ra_i rfl (by decide) (by decide) (by decide) (Nat.le_of_ble_eq_true rfl) (Nat.le_of_ble_eq_true rfl) d_K_init_72 (fun q72 => ?_)
  refine gw_w (w' := [(a, .inr (5, [.int 0, .ref q6, .int 0, .int 0, .ref q14, .ref q22, .ref q30, .ref q38, .ref q46, .ref q55, .ref q64, .null, .null, .null, .null, .null, .int 0, .int 0, .int 0, .null, .null, .null, .null, .int 0, .null, .null, .null, .int 0])), (q6, .inl (cI, 5, .inl (fun _ => 0))), (q14, .inl (cI, 120, .inl (fun _ => 0))), (q22, .inl (cI, 120, .inl (fun _ => 0))), (q30, .inl (cI, 120, .inl (fun _ => 0))), (q38, .inl (cI, 120, .inl (fun _ => 0))), (q46, .inl (cI, 120, .inl (fun _ => 0))), (q55, .inl (cZ, 600, .inl (fun _ => 0))), (q64, .inl (cZ, 3000, .inl (fun _ => 0))), (q72, .inl (cI, 60000, .inl (fun _ => 0)))]) rfl ?_
  refine gw_widen (k := 9) (n := 64205) (Nat.le_of_ble_eq_true rfl) (Nat.le_of_ble_eq_true rfl) ?_
  refine gw_putF (w' := [(a, .inr (5, [.int 0, .ref q6, .int 0, .int 0, .ref q14, .ref q22, .ref q30, .ref q38, .ref q46, .ref q55, .ref q64, .ref q72, .null, .null, .null, .null, .int 0, .int 0, .int 0, .null, .null, .null, .null, .int 0, .null, .null, .null, .int 0])), (q6, .inl (cI, 5, .inl (fun _ => 0))), (q14, .inl (cI, 120, .inl (fun _ => 0))), (q22, .inl (cI, 120, .inl (fun _ => 0))), (q30, .inl (cI, 120, .inl (fun _ => 0))), (q38, .inl (cI, 120, .inl (fun _ => 0))), (q46, .inl (cI, 120, .inl (fun _ => 0))), (q55, .inl (cZ, 600, .inl (fun _ => 0))), (q64, .inl (cZ, 3000, .inl (fun _ => 0))), (q72, .inl (cI, 60000, .inl (fun _ => 0)))]) C hin2 in_K ty_K tk_K nm_K 0 rfl clg_5 11 (by decide) tv_697 rfl rfl rfl rfl (Nat.le_of_ble_eq_true rfl) d_K_init_74 rfl ?_
  refine gw_aload_n C 0 d_K_init_77 rfl rfl ?_
  refine gw_sipush (v := 400) C d_K_init_78 (by decide) ?_
  refine gw_newa (ty := .int) (N := 400) C rfl tv_127 0 rfl ra_i rfl (by decide) (by decide) (by decide) (Nat.le_of_ble_eq_true rfl) (Nat.le_of_ble_eq_true rfl) d_K_init_81 (fun q81 => ?_)
  refine gw_w (w' := [(a, .inr (5, [.int 0, .ref q6, .int 0, .int 0, .ref q14, .ref q22, .ref q30, .ref q38, .ref q46, .ref q55, .ref q64, .ref q72, .null, .null, .null, .null, .int 0, .int 0, .int 0, .null, .null, .null, .null, .int 0, .null, .null, .null, .int 0])), (q6, .inl (cI, 5, .inl (fun _ => 0))), (q14, .inl (cI, 120, .inl (fun _ => 0))), (q22, .inl (cI, 120, .inl (fun _ => 0))), (q30, .inl (cI, 120, .inl (fun _ => 0))), (q38, .inl (cI, 120, .inl (fun _ => 0))), (q46, .inl (cI, 120, .inl (fun _ => 0))), (q55, .inl (cZ, 600, .inl (fun _ => 0))), (q64, .inl (cZ, 3000, .inl (fun _ => 0))), (q72, .inl (cI, 60000, .inl (fun _ => 0))), (q81, .inl (cI, 400, .inl (fun _ => 0)))]) rfl ?_
  refine gw_widen (k := 10) (n := 64605) (Nat.le_of_ble_eq_true rfl) (Nat.le_of_ble_eq_true rfl) ?_
  refine gw_putF (w' := [(a, .inr (5, [.int 0, .ref q6, .int 0, .int 0, .ref q14, .ref q22, .ref q30, .ref q38, .ref q46, .ref q55, .ref q64, .ref q72, .ref q81, .null, .null, .null, .int 0, .int 0, .int 0, .null, .null, .null, .null, .int 0, .null, .null, .null, .int 0])), (q6, .inl (cI, 5, .inl (fun _ => 0))), (q14, .inl (cI, 120, .inl (fun _ => 0))), (q22, .inl (cI, 120, .inl (fun _ => 0))), (q30, .inl (cI, 120, .inl (fun _ => 0))), (q38, .inl (cI, 120, .inl (fun _ => 0))), (q46, .inl (cI, 120, .inl (fun _ => 0))), (q55, .inl (cZ, 600, .inl (fun _ => 0))), (q64, .inl (cZ, 3000, .inl (fun _ => 0))), (q72, .inl (cI, 60000, .inl (fun _ => 0))), (q81, .inl (cI, 400, .inl (fun _ => 0)))]) C hin2 in_K ty_K tk_K nm_K 0 rfl clg_5 12 (by decide) tv_698 rfl rfl rfl rfl (Nat.le_of_ble_eq_true rfl) d_K_init_83 rfl ?_
  refine gw_aload_n C 0 d_K_init_86 rfl rfl ?_
  refine gw_sipush (v := 400) C d_K_init_87 (by decide) ?_
  refine gw_newa (ty := .int) (N := 400) C rfl tv_127 0 rfl ra_i rfl (by decide) (by decide) (by decide) (Nat.le_of_ble_eq_true rfl) (Nat.le_of_ble_eq_true rfl) d_K_init_90 (fun q90 => ?_)
  refine gw_w (w' := [(a, .inr (5, [.int 0, .ref q6, .int 0, .int 0, .ref q14, .ref q22, .ref q30, .ref q38, .ref q46, .ref q55, .ref q64, .ref q72, .ref q81, .null, .null, .null, .int 0, .int 0, .int 0, .null, .null, .null, .null, .int 0, .null, .null, .null, .int 0])), (q6, .inl (cI, 5, .inl (fun _ => 0))), (q14, .inl (cI, 120, .inl (fun _ => 0))), (q22, .inl (cI, 120, .inl (fun _ => 0))), (q30, .inl (cI, 120, .inl (fun _ => 0))), (q38, .inl (cI, 120, .inl (fun _ => 0))), (q46, .inl (cI, 120, .inl (fun _ => 0))), (q55, .inl (cZ, 600, .inl (fun _ => 0))), (q64, .inl (cZ, 3000, .inl (fun _ => 0))), (q72, .inl (cI, 60000, .inl (fun _ => 0))), (q81, .inl (cI, 400, .inl (fun _ => 0))), (q90, .inl (cI, 400, .inl (fun _ => 0)))]) rfl ?_
  refine gw_widen (k := 11) (n := 65005) (Nat.le_of_ble_eq_true rfl) (Nat.le_of_ble_eq_true rfl) ?_
  refine gw_putF (w' := [(a, .inr (5, [.int 0, .ref q6, .int 0, .int 0, .ref q14, .ref q22, .ref q30, .ref q38, .ref q46, .ref q55, .ref q64, .ref q72, .ref q81, .ref q90, .null, .null, .int 0, .int 0, .int 0, .null, .null, .null, .null, .int 0, .null, .null, .null, .int 0])), (q6, .inl (cI, 5, .inl (fun _ => 0))), (q14, .inl (cI, 120, .inl (fun _ => 0))), (q22, .inl (cI, 120, .inl (fun _ => 0))), (q30, .inl (cI, 120, .inl (fun _ => 0))), (q38, .inl (cI, 120, .inl (fun _ => 0))), (q46, .inl (cI, 120, .inl (fun _ => 0))), (q55, .inl (cZ, 600, .inl (fun _ => 0))), (q64, .inl (cZ, 3000, .inl (fun _ => 0))), (q72, .inl (cI, 60000, .inl (fun _ => 0))), (q81, .inl (cI, 400, .inl (fun _ => 0))), (q90, .inl (cI, 400, .inl (fun _ => 0)))]) C hin2 in_K ty_K tk_K nm_K 0 rfl clg_5 13 (by decide) tv_699 rfl rfl rfl rfl (Nat.le_of_ble_eq_true rfl) d_K_init_92 rfl ?_
  refine gw_aload_n C 0 d_K_init_95 rfl rfl ?_
  refine gw_bipush (v := 120) C d_K_init_96 (by decide) ?_
  refine gw_newa (ty := .int) (N := 120) C rfl tv_127 0 rfl ra_i rfl (by decide) (by decide) (by decide) (Nat.le_of_ble_eq_true rfl) (Nat.le_of_ble_eq_true rfl) d_K_init_98 (fun q98 => ?_)
  refine gw_w (w' := [(a, .inr (5, [.int 0, .ref q6, .int 0, .int 0, .ref q14, .ref q22, .ref q30, .ref q38, .ref q46, .ref q55, .ref q64, .ref q72, .ref q81, .ref q90, .null, .null, .int 0, .int 0, .int 0, .null, .null, .null, .null, .int 0, .null, .null, .null, .int 0])), (q6, .inl (cI, 5, .inl (fun _ => 0))), (q14, .inl (cI, 120, .inl (fun _ => 0))), (q22, .inl (cI, 120, .inl (fun _ => 0))), (q30, .inl (cI, 120, .inl (fun _ => 0))), (q38, .inl (cI, 120, .inl (fun _ => 0))), (q46, .inl (cI, 120, .inl (fun _ => 0))), (q55, .inl (cZ, 600, .inl (fun _ => 0))), (q64, .inl (cZ, 3000, .inl (fun _ => 0))), (q72, .inl (cI, 60000, .inl (fun _ => 0))), (q81, .inl (cI, 400, .inl (fun _ => 0))), (q90, .inl (cI, 400, .inl (fun _ => 0))), (q98, .inl (cI, 120, .inl (fun _ => 0)))]) rfl ?_
  refine gw_widen (k := 12) (n := 65125) (Nat.le_of_ble_eq_true rfl) (Nat.le_of_ble_eq_true rfl) ?_
  refine gw_putF (w' := [(a, .inr (5, [.int 0, .ref q6, .int 0, .int 0, .ref q14, .ref q22, .ref q30, .ref q38, .ref q46, .ref q55, .ref q64, .ref q72, .ref q81, .ref q90, .ref q98, .null, .int 0, .int 0, .int 0, .null, .null, .null, .null, .int 0, .null, .null, .null, .int 0])), (q6, .inl (cI, 5, .inl (fun _ => 0))), (q14, .inl (cI, 120, .inl (fun _ => 0))), (q22, .inl (cI, 120, .inl (fun _ => 0))), (q30, .inl (cI, 120, .inl (fun _ => 0))), (q38, .inl (cI, 120, .inl (fun _ => 0))), (q46, .inl (cI, 120, .inl (fun _ => 0))), (q55, .inl (cZ, 600, .inl (fun _ => 0))), (q64, .inl (cZ, 3000, .inl (fun _ => 0))), (q72, .inl (cI, 60000, .inl (fun _ => 0))), (q81, .inl (cI, 400, .inl (fun _ => 0))), (q90, .inl (cI, 400, .inl (fun _ => 0))), (q98, .inl (cI, 120, .inl (fun _ => 0)))]) C hin2 in_K ty_K tk_K nm_K 0 rfl clg_5 14 (by decide) tv_700 rfl rfl rfl rfl (Nat.le_of_ble_eq_true rfl) d_K_init_100 rfl ?_
  refine gw_aload_n C 0 d_K_init_103 rfl rfl ?_
  refine gw_bipush (v := 120) C d_K_init_104 (by decide) ?_
  refine gw_newa (ty := .int) (N := 120) C rfl tv_127 0 rfl ra_i rfl (by decide) (by decide) (by decide) (Nat.le_of_ble_eq_true rfl) (Nat.le_of_ble_eq_true rfl) d_K_init_106 (fun q106 => ?_)
  refine gw_w (w' := [(a, .inr (5, [.int 0, .ref q6, .int 0, .int 0, .ref q14, .ref q22, .ref q30, .ref q38, .ref q46, .ref q55, .ref q64, .ref q72, .ref q81, .ref q90, .ref q98, .null, .int 0, .int 0, .int 0, .null, .null, .null, .null, .int 0, .null, .null, .null, .int 0])), (q6, .inl (cI, 5, .inl (fun _ => 0))), (q14, .inl (cI, 120, .inl (fun _ => 0))), (q22, .inl (cI, 120, .inl (fun _ => 0))), (q30, .inl (cI, 120, .inl (fun _ => 0))), (q38, .inl (cI, 120, .inl (fun _ => 0))), (q46, .inl (cI, 120, .inl (fun _ => 0))), (q55, .inl (cZ, 600, .inl (fun _ => 0))), (q64, .inl (cZ, 3000, .inl (fun _ => 0))), (q72, .inl (cI, 60000, .inl (fun _ => 0))), (q81, .inl (cI, 400, .inl (fun _ => 0))), (q90, .inl (cI, 400, .inl (fun _ => 0))), (q98, .inl (cI, 120, .inl (fun _ => 0))), (q106, .inl (cI, 120, .inl (fun _ => 0)))]) rfl ?_
  refine gw_widen (k := 13) (n := 65245) (Nat.le_of_ble_eq_true rfl) (Nat.le_of_ble_eq_true rfl) ?_
  refine gw_putF (w' := [(a, .inr (5, [.int 0, .ref q6, .int 0, .int 0, .ref q14, .ref q22, .ref q30, .ref q38, .ref q46, .ref q55, .ref q64, .ref q72, .ref q81, .ref q90, .ref q98, .ref q106, .int 0, .int 0, .int 0, .null, .null, .null, .null, .int 0, .null, .null, .null, .int 0])), (q6, .inl (cI, 5, .inl (fun _ => 0))), (q14, .inl (cI, 120, .inl (fun _ => 0))), (q22, .inl (cI, 120, .inl (fun _ => 0))), (q30, .inl (cI, 120, .inl (fun _ => 0))), (q38, .inl (cI, 120, .inl (fun _ => 0))), (q46, .inl (cI, 120, .inl (fun _ => 0))), (q55, .inl (cZ, 600, .inl (fun _ => 0))), (q64, .inl (cZ, 3000, .inl (fun _ => 0))), (q72, .inl (cI, 60000, .inl (fun _ => 0))), (q81, .inl (cI, 400, .inl (fun _ => 0))), (q90, .inl (cI, 400, .inl (fun _ => 0))), (q98, .inl (cI, 120, .inl (fun _ => 0))), (q106, .inl (cI, 120, .inl (fun _ => 0)))]) C hin2 in_K ty_K tk_K nm_K 0 rfl clg_5 15 (by decide) tv_701 rfl rfl rfl rfl (Nat.le_of_ble_eq_true rfl) d_K_init_108 rfl ?_
  refine gw_aload_n C 0 d_K_init_111 rfl rfl ?_
  refine gw_bipush (v := 120) C d_K_init_112 (by decide) ?_
  refine gw_newa (ty := .boolean) (N := 120) C rfl tv_225 1 rfl ra_z rfl (by decide) (by decide) (by decide) (Nat.le_of_ble_eq_true rfl) (Nat.le_of_ble_eq_true rfl) d_K_init_114 (fun q114 => ?_)
  refine gw_w (w' := [(a, .inr (5, [.int 0, .ref q6, .int 0, .int 0, .ref q14, .ref q22, .ref q30, .ref q38, .ref q46, .ref q55, .ref q64, .ref q72, .ref q81, .ref q90, .ref q98, .ref q106, .int 0, .int 0, .int 0, .null, .null, .null, .null, .int 0, .null, .null, .null, .int 0])), (q6, .inl (cI, 5, .inl (fun _ => 0))), (q14, .inl (cI, 120, .inl (fun _ => 0))), (q22, .inl (cI, 120, .inl (fun _ => 0))), (q30, .inl (cI, 120, .inl (fun _ => 0))), (q38, .inl (cI, 120, .inl (fun _ => 0))), (q46, .inl (cI, 120, .inl (fun _ => 0))), (q55, .inl (cZ, 600, .inl (fun _ => 0))), (q64, .inl (cZ, 3000, .inl (fun _ => 0))), (q72, .inl (cI, 60000, .inl (fun _ => 0))), (q81, .inl (cI, 400, .inl (fun _ => 0))), (q90, .inl (cI, 400, .inl (fun _ => 0))), (q98, .inl (cI, 120, .inl (fun _ => 0))), (q106, .inl (cI, 120, .inl (fun _ => 0))), (q114, .inl (cZ, 120, .inl (fun _ => 0)))]) rfl ?_
  refine gw_widen (k := 14) (n := 65365) (Nat.le_of_ble_eq_true rfl) (Nat.le_of_ble_eq_true rfl) ?_
  refine gw_putF (w' := [(a, .inr (5, [.int 0, .ref q6, .int 0, .int 0, .ref q14, .ref q22, .ref q30, .ref q38, .ref q46, .ref q55, .ref q64, .ref q72, .ref q81, .ref q90, .ref q98, .ref q106, .int 0, .int 0, .int 0, .ref q114, .null, .null, .null, .int 0, .null, .null, .null, .int 0])), (q6, .inl (cI, 5, .inl (fun _ => 0))), (q14, .inl (cI, 120, .inl (fun _ => 0))), (q22, .inl (cI, 120, .inl (fun _ => 0))), (q30, .inl (cI, 120, .inl (fun _ => 0))), (q38, .inl (cI, 120, .inl (fun _ => 0))), (q46, .inl (cI, 120, .inl (fun _ => 0))), (q55, .inl (cZ, 600, .inl (fun _ => 0))), (q64, .inl (cZ, 3000, .inl (fun _ => 0))), (q72, .inl (cI, 60000, .inl (fun _ => 0))), (q81, .inl (cI, 400, .inl (fun _ => 0))), (q90, .inl (cI, 400, .inl (fun _ => 0))), (q98, .inl (cI, 120, .inl (fun _ => 0))), (q106, .inl (cI, 120, .inl (fun _ => 0))), (q114, .inl (cZ, 120, .inl (fun _ => 0)))]) C hin2 in_K ty_K tk_K nm_K 0 rfl clg_5 19 (by decide) tv_705 rfl rfl rfl rfl (Nat.le_of_ble_eq_true rfl) d_K_init_116 rfl ?_
  refine gw_aload_n C 0 d_K_init_119 rfl rfl ?_
  refine gw_sipush (v := 130) C d_K_init_120 (by decide) ?_
  refine gw_newa (ty := .int) (N := 130) C rfl tv_127 0 rfl ra_i rfl (by decide) (by decide) (by decide) (Nat.le_of_ble_eq_true rfl) (Nat.le_of_ble_eq_true rfl) d_K_init_123 (fun q123 => ?_)
  refine gw_w (w' := [(a, .inr (5, [.int 0, .ref q6, .int 0, .int 0, .ref q14, .ref q22, .ref q30, .ref q38, .ref q46, .ref q55, .ref q64, .ref q72, .ref q81, .ref q90, .ref q98, .ref q106, .int 0, .int 0, .int 0, .ref q114, .null, .null, .null, .int 0, .null, .null, .null, .int 0])), (q6, .inl (cI, 5, .inl (fun _ => 0))), (q14, .inl (cI, 120, .inl (fun _ => 0))), (q22, .inl (cI, 120, .inl (fun _ => 0))), (q30, .inl (cI, 120, .inl (fun _ => 0))), (q38, .inl (cI, 120, .inl (fun _ => 0))), (q46, .inl (cI, 120, .inl (fun _ => 0))), (q55, .inl (cZ, 600, .inl (fun _ => 0))), (q64, .inl (cZ, 3000, .inl (fun _ => 0))), (q72, .inl (cI, 60000, .inl (fun _ => 0))), (q81, .inl (cI, 400, .inl (fun _ => 0))), (q90, .inl (cI, 400, .inl (fun _ => 0))), (q98, .inl (cI, 120, .inl (fun _ => 0))), (q106, .inl (cI, 120, .inl (fun _ => 0))), (q114, .inl (cZ, 120, .inl (fun _ => 0))), (q123, .inl (cI, 130, .inl (fun _ => 0)))]) rfl ?_
  refine gw_widen (k := 15) (n := 65495) (Nat.le_of_ble_eq_true rfl) (Nat.le_of_ble_eq_true rfl) ?_
  refine gw_putF (w' := [(a, .inr (5, [.int 0, .ref q6, .int 0, .int 0, .ref q14, .ref q22, .ref q30, .ref q38, .ref q46, .ref q55, .ref q64, .ref q72, .ref q81, .ref q90, .ref q98, .ref q106, .int 0, .int 0, .int 0, .ref q114, .ref q123, .null, .null, .int 0, .null, .null, .null, .int 0])), (q6, .inl (cI, 5, .inl (fun _ => 0))), (q14, .inl (cI, 120, .inl (fun _ => 0))), (q22, .inl (cI, 120, .inl (fun _ => 0))), (q30, .inl (cI, 120, .inl (fun _ => 0))), (q38, .inl (cI, 120, .inl (fun _ => 0))), (q46, .inl (cI, 120, .inl (fun _ => 0))), (q55, .inl (cZ, 600, .inl (fun _ => 0))), (q64, .inl (cZ, 3000, .inl (fun _ => 0))), (q72, .inl (cI, 60000, .inl (fun _ => 0))), (q81, .inl (cI, 400, .inl (fun _ => 0))), (q90, .inl (cI, 400, .inl (fun _ => 0))), (q98, .inl (cI, 120, .inl (fun _ => 0))), (q106, .inl (cI, 120, .inl (fun _ => 0))), (q114, .inl (cZ, 120, .inl (fun _ => 0))), (q123, .inl (cI, 130, .inl (fun _ => 0)))]) C hin2 in_K ty_K tk_K nm_K 0 rfl clg_5 20 (by decide) tv_706 rfl rfl rfl rfl (Nat.le_of_ble_eq_true rfl) d_K_init_125 rfl ?_
  refine gw_aload_n C 0 d_K_init_128 rfl rfl ?_
  refine gw_sipush (v := 130) C d_K_init_129 (by decide) ?_
  refine gw_newa (ty := .int) (N := 130) C rfl tv_127 0 rfl ra_i rfl (by decide) (by decide) (by decide) (Nat.le_of_ble_eq_true rfl) (Nat.le_of_ble_eq_true rfl) d_K_init_132 (fun q132 => ?_)
  refine gw_w (w' := [(a, .inr (5, [.int 0, .ref q6, .int 0, .int 0, .ref q14, .ref q22, .ref q30, .ref q38, .ref q46, .ref q55, .ref q64, .ref q72, .ref q81, .ref q90, .ref q98, .ref q106, .int 0, .int 0, .int 0, .ref q114, .ref q123, .null, .null, .int 0, .null, .null, .null, .int 0])), (q6, .inl (cI, 5, .inl (fun _ => 0))), (q14, .inl (cI, 120, .inl (fun _ => 0))), (q22, .inl (cI, 120, .inl (fun _ => 0))), (q30, .inl (cI, 120, .inl (fun _ => 0))), (q38, .inl (cI, 120, .inl (fun _ => 0))), (q46, .inl (cI, 120, .inl (fun _ => 0))), (q55, .inl (cZ, 600, .inl (fun _ => 0))), (q64, .inl (cZ, 3000, .inl (fun _ => 0))), (q72, .inl (cI, 60000, .inl (fun _ => 0))), (q81, .inl (cI, 400, .inl (fun _ => 0))), (q90, .inl (cI, 400, .inl (fun _ => 0))), (q98, .inl (cI, 120, .inl (fun _ => 0))), (q106, .inl (cI, 120, .inl (fun _ => 0))), (q114, .inl (cZ, 120, .inl (fun _ => 0))), (q123, .inl (cI, 130, .inl (fun _ => 0))), (q132, .inl (cI, 130, .inl (fun _ => 0)))]) rfl ?_
  refine gw_widen (k := 16) (n := 65625) (Nat.le_of_ble_eq_true rfl) (Nat.le_of_ble_eq_true rfl) ?_
  refine gw_putF (w' := [(a, .inr (5, [.int 0, .ref q6, .int 0, .int 0, .ref q14, .ref q22, .ref q30, .ref q38, .ref q46, .ref q55, .ref q64, .ref q72, .ref q81, .ref q90, .ref q98, .ref q106, .int 0, .int 0, .int 0, .ref q114, .ref q123, .ref q132, .null, .int 0, .null, .null, .null, .int 0])), (q6, .inl (cI, 5, .inl (fun _ => 0))), (q14, .inl (cI, 120, .inl (fun _ => 0))), (q22, .inl (cI, 120, .inl (fun _ => 0))), (q30, .inl (cI, 120, .inl (fun _ => 0))), (q38, .inl (cI, 120, .inl (fun _ => 0))), (q46, .inl (cI, 120, .inl (fun _ => 0))), (q55, .inl (cZ, 600, .inl (fun _ => 0))), (q64, .inl (cZ, 3000, .inl (fun _ => 0))), (q72, .inl (cI, 60000, .inl (fun _ => 0))), (q81, .inl (cI, 400, .inl (fun _ => 0))), (q90, .inl (cI, 400, .inl (fun _ => 0))), (q98, .inl (cI, 120, .inl (fun _ => 0))), (q106, .inl (cI, 120, .inl (fun _ => 0))), (q114, .inl (cZ, 120, .inl (fun _ => 0))), (q123, .inl (cI, 130, .inl (fun _ => 0))), (q132, .inl (cI, 130, .inl (fun _ => 0)))]) C hin2 in_K ty_K tk_K nm_K 0 rfl clg_5 21 (by decide) tv_707 rfl rfl rfl rfl (Nat.le_of_ble_eq_true rfl) d_K_init_134 rfl ?_
  refine gw_aload_n C 0 d_K_init_137 rfl rfl ?_
  refine gw_sipush (v := 130) C d_K_init_138 (by decide) ?_
  refine gw_newa (ty := .int) (N := 130) C rfl tv_127 0 rfl ra_i rfl (by decide) (by decide) (by decide) (Nat.le_of_ble_eq_true rfl) (Nat.le_of_ble_eq_true rfl) d_K_init_141 (fun q141 => ?_)
  refine gw_w (w' := [(a, .inr (5, [.int 0, .ref q6, .int 0, .int 0, .ref q14, .ref q22, .ref q30, .ref q38, .ref q46, .ref q55, .ref q64, .ref q72, .ref q81, .ref q90, .ref q98, .ref q106, .int 0, .int 0, .int 0, .ref q114, .ref q123, .ref q132, .null, .int 0, .null, .null, .null, .int 0])), (q6, .inl (cI, 5, .inl (fun _ => 0))), (q14, .inl (cI, 120, .inl (fun _ => 0))), (q22, .inl (cI, 120, .inl (fun _ => 0))), (q30, .inl (cI, 120, .inl (fun _ => 0))), (q38, .inl (cI, 120, .inl (fun _ => 0))), (q46, .inl (cI, 120, .inl (fun _ => 0))), (q55, .inl (cZ, 600, .inl (fun _ => 0))), (q64, .inl (cZ, 3000, .inl (fun _ => 0))), (q72, .inl (cI, 60000, .inl (fun _ => 0))), (q81, .inl (cI, 400, .inl (fun _ => 0))), (q90, .inl (cI, 400, .inl (fun _ => 0))), (q98, .inl (cI, 120, .inl (fun _ => 0))), (q106, .inl (cI, 120, .inl (fun _ => 0))), (q114, .inl (cZ, 120, .inl (fun _ => 0))), (q123, .inl (cI, 130, .inl (fun _ => 0))), (q132, .inl (cI, 130, .inl (fun _ => 0))), (q141, .inl (cI, 130, .inl (fun _ => 0)))]) rfl ?_
  refine gw_widen (k := 17) (n := 65755) (Nat.le_of_ble_eq_true rfl) (Nat.le_of_ble_eq_true rfl) ?_
  refine gw_putF (w' := [(a, .inr (5, [.int 0, .ref q6, .int 0, .int 0, .ref q14, .ref q22, .ref q30, .ref q38, .ref q46, .ref q55, .ref q64, .ref q72, .ref q81, .ref q90, .ref q98, .ref q106, .int 0, .int 0, .int 0, .ref q114, .ref q123, .ref q132, .ref q141, .int 0, .null, .null, .null, .int 0])), (q6, .inl (cI, 5, .inl (fun _ => 0))), (q14, .inl (cI, 120, .inl (fun _ => 0))), (q22, .inl (cI, 120, .inl (fun _ => 0))), (q30, .inl (cI, 120, .inl (fun _ => 0))), (q38, .inl (cI, 120, .inl (fun _ => 0))), (q46, .inl (cI, 120, .inl (fun _ => 0))), (q55, .inl (cZ, 600, .inl (fun _ => 0))), (q64, .inl (cZ, 3000, .inl (fun _ => 0))), (q72, .inl (cI, 60000, .inl (fun _ => 0))), (q81, .inl (cI, 400, .inl (fun _ => 0))), (q90, .inl (cI, 400, .inl (fun _ => 0))), (q98, .inl (cI, 120, .inl (fun _ => 0))), (q106, .inl (cI, 120, .inl (fun _ => 0))), (q114, .inl (cZ, 120, .inl (fun _ => 0))), (q123, .inl (cI, 130, .inl (fun _ => 0))), (q132, .inl (cI, 130, .inl (fun _ => 0))), (q141, .inl (cI, 130, .inl (fun _ => 0)))]) C hin2 in_K ty_K tk_K nm_K 0 rfl clg_5 22 (by decide) tv_708 rfl rfl rfl rfl (Nat.le_of_ble_eq_true rfl) d_K_init_143 rfl ?_
  refine gw_aload_n C 0 d_K_init_146 rfl rfl ?_
  refine gw_iconst (v := 5) C d_K_init_147 (by decide) ?_
  refine gw_newa (ty := .int) (N := 5) C rfl tv_127 0 rfl ra_i rfl (by decide) (by decide) (by decide) (Nat.le_of_ble_eq_true rfl) (Nat.le_of_ble_eq_true rfl) d_K_init_148 (fun q148 => ?_)
  refine gw_w (w' := [(a, .inr (5, [.int 0, .ref q6, .int 0, .int 0, .ref q14, .ref q22, .ref q30, .ref q38, .ref q46, .ref q55, .ref q64, .ref q72, .ref q81, .ref q90, .ref q98, .ref q106, .int 0, .int 0, .int 0, .ref q114, .ref q123, .ref q132, .ref q141, .int 0, .null, .null, .null, .int 0])), (q6, .inl (cI, 5, .inl (fun _ => 0))), (q14, .inl (cI, 120, .inl (fun _ => 0))), (q22, .inl (cI, 120, .inl (fun _ => 0))), (q30, .inl (cI, 120, .inl (fun _ => 0))), (q38, .inl (cI, 120, .inl (fun _ => 0))), (q46, .inl (cI, 120, .inl (fun _ => 0))), (q55, .inl (cZ, 600, .inl (fun _ => 0))), (q64, .inl (cZ, 3000, .inl (fun _ => 0))), (q72, .inl (cI, 60000, .inl (fun _ => 0))), (q81, .inl (cI, 400, .inl (fun _ => 0))), (q90, .inl (cI, 400, .inl (fun _ => 0))), (q98, .inl (cI, 120, .inl (fun _ => 0))), (q106, .inl (cI, 120, .inl (fun _ => 0))), (q114, .inl (cZ, 120, .inl (fun _ => 0))), (q123, .inl (cI, 130, .inl (fun _ => 0))), (q132, .inl (cI, 130, .inl (fun _ => 0))), (q141, .inl (cI, 130, .inl (fun _ => 0))), (q148, .inl (cI, 5, .inl (fun _ => 0)))]) rfl ?_
  refine gw_widen (k := 18) (n := 65760) (Nat.le_of_ble_eq_true rfl) (Nat.le_of_ble_eq_true rfl) ?_
  refine gw_putF (w' := [(a, .inr (5, [.int 0, .ref q6, .int 0, .int 0, .ref q14, .ref q22, .ref q30, .ref q38, .ref q46, .ref q55, .ref q64, .ref q72, .ref q81, .ref q90, .ref q98, .ref q106, .int 0, .int 0, .int 0, .ref q114, .ref q123, .ref q132, .ref q141, .int 0, .ref q148, .null, .null, .int 0])), (q6, .inl (cI, 5, .inl (fun _ => 0))), (q14, .inl (cI, 120, .inl (fun _ => 0))), (q22, .inl (cI, 120, .inl (fun _ => 0))), (q30, .inl (cI, 120, .inl (fun _ => 0))), (q38, .inl (cI, 120, .inl (fun _ => 0))), (q46, .inl (cI, 120, .inl (fun _ => 0))), (q55, .inl (cZ, 600, .inl (fun _ => 0))), (q64, .inl (cZ, 3000, .inl (fun _ => 0))), (q72, .inl (cI, 60000, .inl (fun _ => 0))), (q81, .inl (cI, 400, .inl (fun _ => 0))), (q90, .inl (cI, 400, .inl (fun _ => 0))), (q98, .inl (cI, 120, .inl (fun _ => 0))), (q106, .inl (cI, 120, .inl (fun _ => 0))), (q114, .inl (cZ, 120, .inl (fun _ => 0))), (q123, .inl (cI, 130, .inl (fun _ => 0))), (q132, .inl (cI, 130, .inl (fun _ => 0))), (q141, .inl (cI, 130, .inl (fun _ => 0))), (q148, .inl (cI, 5, .inl (fun _ => 0)))]) C hin2 in_K ty_K tk_K nm_K 0 rfl clg_5 24 (by decide) tv_710 rfl rfl rfl rfl (Nat.le_of_ble_eq_true rfl) d_K_init_150 rfl ?_
  refine gw_aload_n C 0 d_K_init_153 rfl rfl ?_
  refine gw_bipush (v := 120) C d_K_init_154 (by decide) ?_
  refine gw_newa (ty := .boolean) (N := 120) C rfl tv_225 1 rfl ra_z rfl (by decide) (by decide) (by decide) (Nat.le_of_ble_eq_true rfl) (Nat.le_of_ble_eq_true rfl) d_K_init_156 (fun q156 => ?_)
  refine gw_w (w' := [(a, .inr (5, [.int 0, .ref q6, .int 0, .int 0, .ref q14, .ref q22, .ref q30, .ref q38, .ref q46, .ref q55, .ref q64, .ref q72, .ref q81, .ref q90, .ref q98, .ref q106, .int 0, .int 0, .int 0, .ref q114, .ref q123, .ref q132, .ref q141, .int 0, .ref q148, .null, .null, .int 0])), (q6, .inl (cI, 5, .inl (fun _ => 0))), (q14, .inl (cI, 120, .inl (fun _ => 0))), (q22, .inl (cI, 120, .inl (fun _ => 0))), (q30, .inl (cI, 120, .inl (fun _ => 0))), (q38, .inl (cI, 120, .inl (fun _ => 0))), (q46, .inl (cI, 120, .inl (fun _ => 0))), (q55, .inl (cZ, 600, .inl (fun _ => 0))), (q64, .inl (cZ, 3000, .inl (fun _ => 0))), (q72, .inl (cI, 60000, .inl (fun _ => 0))), (q81, .inl (cI, 400, .inl (fun _ => 0))), (q90, .inl (cI, 400, .inl (fun _ => 0))), (q98, .inl (cI, 120, .inl (fun _ => 0))), (q106, .inl (cI, 120, .inl (fun _ => 0))), (q114, .inl (cZ, 120, .inl (fun _ => 0))), (q123, .inl (cI, 130, .inl (fun _ => 0))), (q132, .inl (cI, 130, .inl (fun _ => 0))), (q141, .inl (cI, 130, .inl (fun _ => 0))), (q148, .inl (cI, 5, .inl (fun _ => 0))), (q156, .inl (cZ, 120, .inl (fun _ => 0)))]) rfl ?_
  refine gw_widen (k := 19) (n := 65880) (Nat.le_of_ble_eq_true rfl) (Nat.le_of_ble_eq_true rfl) ?_
  refine gw_putF (w' := [(a, .inr (5, [.int 0, .ref q6, .int 0, .int 0, .ref q14, .ref q22, .ref q30, .ref q38, .ref q46, .ref q55, .ref q64, .ref q72, .ref q81, .ref q90, .ref q98, .ref q106, .int 0, .int 0, .int 0, .ref q114, .ref q123, .ref q132, .ref q141, .int 0, .ref q148, .ref q156, .null, .int 0])), (q6, .inl (cI, 5, .inl (fun _ => 0))), (q14, .inl (cI, 120, .inl (fun _ => 0))), (q22, .inl (cI, 120, .inl (fun _ => 0))), (q30, .inl (cI, 120, .inl (fun _ => 0))), (q38, .inl (cI, 120, .inl (fun _ => 0))), (q46, .inl (cI, 120, .inl (fun _ => 0))), (q55, .inl (cZ, 600, .inl (fun _ => 0))), (q64, .inl (cZ, 3000, .inl (fun _ => 0))), (q72, .inl (cI, 60000, .inl (fun _ => 0))), (q81, .inl (cI, 400, .inl (fun _ => 0))), (q90, .inl (cI, 400, .inl (fun _ => 0))), (q98, .inl (cI, 120, .inl (fun _ => 0))), (q106, .inl (cI, 120, .inl (fun _ => 0))), (q114, .inl (cZ, 120, .inl (fun _ => 0))), (q123, .inl (cI, 130, .inl (fun _ => 0))), (q132, .inl (cI, 130, .inl (fun _ => 0))), (q141, .inl (cI, 130, .inl (fun _ => 0))), (q148, .inl (cI, 5, .inl (fun _ => 0))), (q156, .inl (cZ, 120, .inl (fun _ => 0)))]) C hin2 in_K ty_K tk_K nm_K 0 rfl clg_5 25 (by decide) tv_711 rfl rfl rfl rfl (Nat.le_of_ble_eq_true rfl) d_K_init_158 rfl ?_
  refine gw_aload_n C 0 d_K_init_161 rfl rfl ?_
  refine gw_bipush (v := 120) C d_K_init_162 (by decide) ?_
  refine gw_newa (ty := .int) (N := 120) C rfl tv_127 0 rfl ra_i rfl (by decide) (by decide) (by decide) (Nat.le_of_ble_eq_true rfl) (Nat.le_of_ble_eq_true rfl) d_K_init_164 (fun q164 => ?_)
  refine gw_w (w' := [(a, .inr (5, [.int 0, .ref q6, .int 0, .int 0, .ref q14, .ref q22, .ref q30, .ref q38, .ref q46, .ref q55, .ref q64, .ref q72, .ref q81, .ref q90, .ref q98, .ref q106, .int 0, .int 0, .int 0, .ref q114, .ref q123, .ref q132, .ref q141, .int 0, .ref q148, .ref q156, .null, .int 0])), (q6, .inl (cI, 5, .inl (fun _ => 0))), (q14, .inl (cI, 120, .inl (fun _ => 0))), (q22, .inl (cI, 120, .inl (fun _ => 0))), (q30, .inl (cI, 120, .inl (fun _ => 0))), (q38, .inl (cI, 120, .inl (fun _ => 0))), (q46, .inl (cI, 120, .inl (fun _ => 0))), (q55, .inl (cZ, 600, .inl (fun _ => 0))), (q64, .inl (cZ, 3000, .inl (fun _ => 0))), (q72, .inl (cI, 60000, .inl (fun _ => 0))), (q81, .inl (cI, 400, .inl (fun _ => 0))), (q90, .inl (cI, 400, .inl (fun _ => 0))), (q98, .inl (cI, 120, .inl (fun _ => 0))), (q106, .inl (cI, 120, .inl (fun _ => 0))), (q114, .inl (cZ, 120, .inl (fun _ => 0))), (q123, .inl (cI, 130, .inl (fun _ => 0))), (q132, .inl (cI, 130, .inl (fun _ => 0))), (q141, .inl (cI, 130, .inl (fun _ => 0))), (q148, .inl (cI, 5, .inl (fun _ => 0))), (q156, .inl (cZ, 120, .inl (fun _ => 0))), (q164, .inl (cI, 120, .inl (fun _ => 0)))]) rfl ?_
  refine gw_widen (k := 20) (n := 66000) (Nat.le_of_ble_eq_true rfl) (Nat.le_of_ble_eq_true rfl) ?_
  refine gw_putF (w' := [(a, .inr (5, [.int 0, .ref q6, .int 0, .int 0, .ref q14, .ref q22, .ref q30, .ref q38, .ref q46, .ref q55, .ref q64, .ref q72, .ref q81, .ref q90, .ref q98, .ref q106, .int 0, .int 0, .int 0, .ref q114, .ref q123, .ref q132, .ref q141, .int 0, .ref q148, .ref q156, .ref q164, .int 0])), (q6, .inl (cI, 5, .inl (fun _ => 0))), (q14, .inl (cI, 120, .inl (fun _ => 0))), (q22, .inl (cI, 120, .inl (fun _ => 0))), (q30, .inl (cI, 120, .inl (fun _ => 0))), (q38, .inl (cI, 120, .inl (fun _ => 0))), (q46, .inl (cI, 120, .inl (fun _ => 0))), (q55, .inl (cZ, 600, .inl (fun _ => 0))), (q64, .inl (cZ, 3000, .inl (fun _ => 0))), (q72, .inl (cI, 60000, .inl (fun _ => 0))), (q81, .inl (cI, 400, .inl (fun _ => 0))), (q90, .inl (cI, 400, .inl (fun _ => 0))), (q98, .inl (cI, 120, .inl (fun _ => 0))), (q106, .inl (cI, 120, .inl (fun _ => 0))), (q114, .inl (cZ, 120, .inl (fun _ => 0))), (q123, .inl (cI, 130, .inl (fun _ => 0))), (q132, .inl (cI, 130, .inl (fun _ => 0))), (q141, .inl (cI, 130, .inl (fun _ => 0))), (q148, .inl (cI, 5, .inl (fun _ => 0))), (q156, .inl (cZ, 120, .inl (fun _ => 0))), (q164, .inl (cI, 120, .inl (fun _ => 0)))]) C hin2 in_K ty_K tk_K nm_K 0 rfl clg_5 26 (by decide) tv_712 rfl rfl rfl rfl (Nat.le_of_ble_eq_true rfl) d_K_init_166 rfl ?_
  exact gw_vretX C ⟨fun k => ([q6, q14, q22, q30, q38, q46, q55, q64, q72, q81, q90, q98, q106, q114, q123, q132, q141, q148, q156, q164] : List Nat).getD k 0, rfl⟩ d_K_init_169
abbrev b_N_init : ByteArray := prog_1_method_1_code
def y_N_init : MethodName := ⟨"NoneWords", "<init>", "()V"⟩
abbrev ws_N_init : List Cond := Cond.code y_N_init b_N_init 1 (none) :: TB
set_option maxRecDepth 100000 in
theorem tc_N_init : Cond.code y_N_init b_N_init 1 (none) ∈ TB := inTB 80 rfl rfl
theorem mv_N_init : Cond.instanceMethod y_N_init ∈ TB ∧ Cond.initialized "NoneWords" ∈ TB ∧ Cond.code y_N_init b_N_init 1 (none) ∈ TB := ⟨inTB 79 (by decide +kernel) (by decide +kernel), inTB 65 (by decide +kernel) (by decide +kernel), tc_N_init⟩
theorem pd_N_init : y_N_init.cls ≠ "java/lang/invoke/MethodHandle" ∧ y_N_init.cls ≠ "java/lang/invoke/VarHandle" ∧ (parseMethodDescriptor y_N_init.desc).map (fun d => d.parameters.length) = some 0 := by decide +kernel
theorem d_N_init_0 : decode b_N_init 0 = .ok (.aload_n 0, 1) := by decide +kernel
theorem d_N_init_1 : decode b_N_init 1 = .ok (.invokespecial 1, 3) := by decide +kernel
theorem d_N_init_4 : decode b_N_init 4 = .ok (.aload_n 0, 1) := by decide +kernel
theorem d_N_init_5 : decode b_N_init 5 = .ok (.new 7, 3) := by decide +kernel
theorem d_N_init_8 : decode b_N_init 8 = .ok (.dup, 1) := by decide +kernel
theorem d_N_init_9 : decode b_N_init 9 = .ok (.invokespecial 9, 3) := by decide +kernel
theorem d_N_init_12 : decode b_N_init 12 = .ok (.putfield 10, 3) := by decide +kernel
theorem d_N_init_15 : decode b_N_init 15 = .ok (.aload_n 0, 1) := by decide +kernel
theorem d_N_init_16 : decode b_N_init 16 = .ok (.new 16, 3) := by decide +kernel
theorem d_N_init_19 : decode b_N_init 19 = .ok (.dup, 1) := by decide +kernel
theorem d_N_init_20 : decode b_N_init 20 = .ok (.aload_n 0, 1) := by decide +kernel
theorem d_N_init_21 : decode b_N_init 21 = .ok (.getfield 10, 3) := by decide +kernel
theorem d_N_init_24 : decode b_N_init 24 = .ok (.invokespecial 18, 3) := by decide +kernel
theorem d_N_init_27 : decode b_N_init 27 = .ok (.putfield 21, 3) := by decide +kernel
theorem d_N_init_30 : decode b_N_init 30 = .ok (.aload_n 0, 1) := by decide +kernel
theorem d_N_init_31 : decode b_N_init 31 = .ok (.new 25, 3) := by decide +kernel
theorem d_N_init_34 : decode b_N_init 34 = .ok (.dup, 1) := by decide +kernel
theorem d_N_init_35 : decode b_N_init 35 = .ok (.aload_n 0, 1) := by decide +kernel
theorem d_N_init_36 : decode b_N_init 36 = .ok (.getfield 10, 3) := by decide +kernel
theorem d_N_init_39 : decode b_N_init 39 = .ok (.aload_n 0, 1) := by decide +kernel
theorem d_N_init_40 : decode b_N_init 40 = .ok (.getfield 21, 3) := by decide +kernel
theorem d_N_init_43 : decode b_N_init 43 = .ok (.invokespecial 27, 3) := by decide +kernel
theorem d_N_init_46 : decode b_N_init 46 = .ok (.putfield 30, 3) := by decide +kernel
theorem d_N_init_49 : decode b_N_init 49 = .ok (.aload_n 0, 1) := by decide +kernel
theorem d_N_init_50 : decode b_N_init 50 = .ok (.new 34, 3) := by decide +kernel
theorem d_N_init_53 : decode b_N_init 53 = .ok (.dup, 1) := by decide +kernel
theorem d_N_init_54 : decode b_N_init 54 = .ok (.aload_n 0, 1) := by decide +kernel
theorem d_N_init_55 : decode b_N_init 55 = .ok (.getfield 10, 3) := by decide +kernel
theorem d_N_init_58 : decode b_N_init 58 = .ok (.invokespecial 36, 3) := by decide +kernel
theorem d_N_init_61 : decode b_N_init 61 = .ok (.putfield 37, 3) := by decide +kernel
theorem d_N_init_64 : decode b_N_init 64 = .ok (.return_, 1) := by decide +kernel
abbrev rm_N_init : Room := { frames := 2, cells := 28, slots := 2846, locals := 70 }
theorem df_F : ∀ j, j < 11 → defaultValue (ty_F j) = vp_V [.null, .int 0, .null, .null, .null, .null, .null, .null, .null, .null, .int 0] j := by decide +kernel
theorem df_S : ∀ j, j < 5 → defaultValue (ty_S j) = vp_V [.null, .null, .null, .null, .int 0] j := by decide +kernel
theorem df_P : ∀ j, j < 5 → defaultValue (ty_P j) = vp_V [.null, .null, .null, .int 0, .int 0] j := by decide +kernel
theorem df_W : ∀ j, j < 15 → defaultValue (ty_W j) = vp_V [.null, .null, .null, .int 0, .null, .null, .null, .null, .null, .int 0, .null, .null, .null, .null, .int 0] j := by decide +kernel
theorem df_K : ∀ j, j < 28 → defaultValue (ty_K j) = vp_V [.int 0, .null, .int 0, .int 0, .null, .null, .null, .null, .null, .null, .null, .null, .null, .null, .null, .null, .int 0, .int 0, .int 0, .null, .null, .null, .null, .int 0, .null, .null, .null, .int 0] j := by decide +kernel
theorem df_N : ∀ j, j < 4 → defaultValue (ty_N j) = vp_V [.null, .null, .null, .null] j := by decide +kernel
/-- the memory of a new object: zeros, but for the parts of no join, and no sentence shown -/
def M0 : Mem := fun q i => if q = 9 ∨ q = 10 then (if i < 120 then (-1) else 0) else if q = 23 ∧ i = 4 then (-1) else 0
set_option maxRecDepth 100000 in
theorem c_N_init (hZ : gw_ZOK Z) {a : Nat} : CX l y_N_init ws_N_init rm_N_init D vwCl (tysW cI cZ cC) Z [.ref a] [(a, .inr (4, [.null, .null, .null, .null]))] (fun wf => ∃ ad : Nat → Nat, ad 0 = a ∧ wf = wc ad cI cZ cC M0) 28 2846 := by
  refine CX.ofG hZ (by decide) rfl (Nat.le_of_ble_eq_true rfl) (fun p e s m below meth c A C hin2 => ?_)
  refine gw_aload_n C 0 d_N_init_0 rfl rfl ?_
  refine gw_objInit C tv_81 tv_82 tv_83 d_N_init_1 (Nat.le_of_ble_eq_true rfl) (Nat.le_of_ble_eq_true rfl) ?_
  refine gw_aload_n C 0 d_N_init_4 rfl rfl ?_
  refine gw_new C in_F ty_F tk_F tv_84 tv_85 tv_66 clg_0 df_F (Nat.le_of_ble_eq_true rfl) (Nat.le_of_ble_eq_true rfl) d_N_init_5 (fun q5 => ?_)
  refine gw_widen (k := 1) (n := 11) (Nat.le_of_ble_eq_true rfl) (Nat.le_of_ble_eq_true rfl) ?_
  refine gw_dup C d_N_init_8 rfl ?_
  refine gw_callIX (wl := [(a, .inr (4, [.null, .null, .null, .null]))]) (wc := [(q5, .inr (0, [.null, .int 0, .null, .null, .null, .null, .null, .null, .null, .null, .int 0]))]) (wr := []) (rest := [.ref q5, .ref a]) C rfl (c_F_init hZ) (cwI 0 C.2.2.2.2.1 (gTB_c tc_F_init) rfl rfl rfl (C.2.2.2.2.1 _ tv_66) (C.2.2.2.2.1 _ tv_86) (C.2.2.2.2.1 _ tv_87) rfl pd_F_init ⟨Nat.le_of_ble_eq_true rfl, Nat.le_of_ble_eq_true rfl⟩) rfl rfl (Nat.le_of_ble_eq_true rfl) d_N_init_9 ⟨Nat.le_of_ble_eq_true rfl, Nat.le_of_ble_eq_true rfl⟩ (fun wf hwf => ?_)
  obtain ⟨g9, rfl⟩ := hwf
  refine gw_w (w' := [(a, .inr (4, [.null, .null, .null, .null]))] ++ w0_F q5 g9 cI cZ cC) rfl ?_
  refine gw_widen (k := 10) (n := 976) (Nat.le_of_ble_eq_true rfl) (Nat.le_of_ble_eq_true rfl) ?_
  refine gw_putF (w' := [(a, .inr (4, [.ref q5, .null, .null, .null]))] ++ w0_F q5 g9 cI cZ cC) C hin2 in_N ty_N tk_N nm_N 0 rfl clg_4 0 (by decide) tv_226 rfl rfl rfl rfl (Nat.le_of_ble_eq_true rfl) d_N_init_12 rfl ?_
  refine gw_aload_n C 0 d_N_init_15 rfl rfl ?_
  refine gw_new C in_W ty_W tk_W tv_128 tv_129 tv_68 clg_3 df_W (Nat.le_of_ble_eq_true rfl) (Nat.le_of_ble_eq_true rfl) d_N_init_16 (fun q16 => ?_)
  refine gw_widen (k := 11) (n := 991) (Nat.le_of_ble_eq_true rfl) (Nat.le_of_ble_eq_true rfl) ?_
  refine gw_dup C d_N_init_19 rfl ?_
  refine gw_aload_n C 0 d_N_init_20 rfl rfl ?_
  refine gw_get C in_N 0 rfl clg_4 0 (by decide) tv_226 rfl rfl d_N_init_21 ?_
  refine gw_callIX (wl := [(a, .inr (4, [.ref q5, .null, .null, .null]))] ++ w0_F q5 g9 cI cZ cC) (wc := [(q16, .inr (3, [.null, .null, .null, .int 0, .null, .null, .null, .null, .null, .int 0, .null, .null, .null, .null, .int 0]))]) (wr := []) (rest := [.ref q16, .ref a]) C rfl (c_W_init hZ) (cwI 1 C.2.2.2.2.1 (gTB_c tc_W_init) rfl rfl rfl (C.2.2.2.2.1 _ tv_68) (C.2.2.2.2.1 _ tv_130) (C.2.2.2.2.1 _ tv_131) rfl pd_W_init ⟨Nat.le_of_ble_eq_true rfl, Nat.le_of_ble_eq_true rfl⟩) rfl rfl (Nat.le_of_ble_eq_true rfl) d_N_init_24 ⟨Nat.le_of_ble_eq_true rfl, Nat.le_of_ble_eq_true rfl⟩ (fun wf hwf => ?_)
  obtain ⟨g24, rfl⟩ := hwf
  refine gw_w (w' := [(a, .inr (4, [.ref q5, .null, .null, .null]))] ++ w0_F q5 g9 cI cZ cC ++ w0_W q16 q5 g24 cI cZ cC) rfl ?_
  refine gw_widen (k := 22) (n := 2315) (Nat.le_of_ble_eq_true rfl) (Nat.le_of_ble_eq_true rfl) ?_
  refine gw_putF (w' := [(a, .inr (4, [.ref q5, .ref q16, .null, .null]))] ++ w0_F q5 g9 cI cZ cC ++ w0_W q16 q5 g24 cI cZ cC) C hin2 in_N ty_N tk_N nm_N 0 rfl clg_4 1 (by decide) tv_227 rfl rfl rfl rfl (Nat.le_of_ble_eq_true rfl) d_N_init_27 rfl ?_
  refine gw_aload_n C 0 d_N_init_30 rfl rfl ?_
  refine gw_new C in_P ty_P tk_P tv_180 tv_181 tv_69 clg_2 df_P (Nat.le_of_ble_eq_true rfl) (Nat.le_of_ble_eq_true rfl) d_N_init_31 (fun q31 => ?_)
  refine gw_widen (k := 23) (n := 2320) (Nat.le_of_ble_eq_true rfl) (Nat.le_of_ble_eq_true rfl) ?_
  refine gw_dup C d_N_init_34 rfl ?_
  refine gw_aload_n C 0 d_N_init_35 rfl rfl ?_
  refine gw_get C in_N 0 rfl clg_4 0 (by decide) tv_226 rfl rfl d_N_init_36 ?_
  refine gw_aload_n C 0 d_N_init_39 rfl rfl ?_
  refine gw_get C in_N 0 rfl clg_4 1 (by decide) tv_227 rfl rfl d_N_init_40 ?_
  refine gw_callIX (wl := [(a, .inr (4, [.ref q5, .ref q16, .null, .null]))] ++ w0_F q5 g9 cI cZ cC ++ w0_W q16 q5 g24 cI cZ cC) (wc := [(q31, .inr (2, [.null, .null, .null, .int 0, .int 0]))]) (wr := []) (rest := [.ref q31, .ref a]) C rfl (c_P_init hZ) (cwI 2 C.2.2.2.2.1 (gTB_c tc_P_init) rfl rfl rfl (C.2.2.2.2.1 _ tv_69) (C.2.2.2.2.1 _ tv_182) (C.2.2.2.2.1 _ tv_183) rfl pd_P_init ⟨Nat.le_of_ble_eq_true rfl, Nat.le_of_ble_eq_true rfl⟩) rfl rfl (Nat.le_of_ble_eq_true rfl) d_N_init_43 ⟨Nat.le_of_ble_eq_true rfl, Nat.le_of_ble_eq_true rfl⟩ (fun wf hwf => ?_)
  obtain ⟨g43, rfl⟩ := hwf
  refine gw_w (w' := [(a, .inr (4, [.ref q5, .ref q16, .null, .null]))] ++ w0_F q5 g9 cI cZ cC ++ w0_W q16 q5 g24 cI cZ cC ++ w0_P q31 q5 q16 g43 cI cZ cC) rfl ?_
  refine gw_widen (k := 24) (n := 2576) (Nat.le_of_ble_eq_true rfl) (Nat.le_of_ble_eq_true rfl) ?_
  refine gw_putF (w' := [(a, .inr (4, [.ref q5, .ref q16, .ref q31, .null]))] ++ w0_F q5 g9 cI cZ cC ++ w0_W q16 q5 g24 cI cZ cC ++ w0_P q31 q5 q16 g43 cI cZ cC) C hin2 in_N ty_N tk_N nm_N 0 rfl clg_4 2 (by decide) tv_228 rfl rfl rfl rfl (Nat.le_of_ble_eq_true rfl) d_N_init_46 rfl ?_
  refine gw_aload_n C 0 d_N_init_49 rfl rfl ?_
  refine gw_new C in_S ty_S tk_S tv_203 tv_204 tv_70 clg_1 df_S (Nat.le_of_ble_eq_true rfl) (Nat.le_of_ble_eq_true rfl) d_N_init_50 (fun q50 => ?_)
  refine gw_widen (k := 25) (n := 2581) (Nat.le_of_ble_eq_true rfl) (Nat.le_of_ble_eq_true rfl) ?_
  refine gw_dup C d_N_init_53 rfl ?_
  refine gw_aload_n C 0 d_N_init_54 rfl rfl ?_
  refine gw_get C in_N 0 rfl clg_4 0 (by decide) tv_226 rfl rfl d_N_init_55 ?_
  refine gw_callIX (wl := [(a, .inr (4, [.ref q5, .ref q16, .ref q31, .null]))] ++ w0_F q5 g9 cI cZ cC ++ w0_W q16 q5 g24 cI cZ cC ++ w0_P q31 q5 q16 g43 cI cZ cC) (wc := [(q50, .inr (1, [.null, .null, .null, .null, .int 0]))]) (wr := []) (rest := [.ref q50, .ref a]) C rfl (c_S_init hZ) (cwI 1 C.2.2.2.2.1 (gTB_c tc_S_init) rfl rfl rfl (C.2.2.2.2.1 _ tv_70) (C.2.2.2.2.1 _ tv_205) (C.2.2.2.2.1 _ tv_206) rfl pd_S_init ⟨Nat.le_of_ble_eq_true rfl, Nat.le_of_ble_eq_true rfl⟩) rfl rfl (Nat.le_of_ble_eq_true rfl) d_N_init_58 ⟨Nat.le_of_ble_eq_true rfl, Nat.le_of_ble_eq_true rfl⟩ (fun wf hwf => ?_)
  obtain ⟨g58, rfl⟩ := hwf
  refine gw_w (w' := [(a, .inr (4, [.ref q5, .ref q16, .ref q31, .null]))] ++ w0_F q5 g9 cI cZ cC ++ w0_W q16 q5 g24 cI cZ cC ++ w0_P q31 q5 q16 g43 cI cZ cC ++ w0_S q50 q5 g58 cI cZ cC) rfl ?_
  refine gw_widen (k := 28) (n := 2846) (Nat.le_of_ble_eq_true rfl) (Nat.le_of_ble_eq_true rfl) ?_
  refine gw_putF (w' := [(a, .inr (4, [.ref q5, .ref q16, .ref q31, .ref q50]))] ++ w0_F q5 g9 cI cZ cC ++ w0_W q16 q5 g24 cI cZ cC ++ w0_P q31 q5 q16 g43 cI cZ cC ++ w0_S q50 q5 g58 cI cZ cC) C hin2 in_N ty_N tk_N nm_N 0 rfl clg_4 3 (by decide) tv_229 rfl rfl rfl rfl (Nat.le_of_ble_eq_true rfl) d_N_init_61 rfl ?_
  exact gw_vretX C ⟨fun k => ([a, q5, g9 0, g9 1, g9 2, g9 3, g9 4, g9 5, g9 6, g9 7, g9 8, q16, g24 0, g24 1, g24 2, g24 3, g24 4, g24 5, g24 6, g24 7, g24 8, g24 9, g24 10, q31, g43 0, q50, g58 0, g58 1, g58 2] : List Nat).getD k 0, rfl, rfl⟩ d_N_init_64
def K0 : Mem := fun _ _ => 0
theorem w0_K_wk {a : Nat} {g : Nat → Nat} {cI cZ cC : ClassId} : ∃ ad : Nat → Nat, ad 0 = a ∧ w0_K a g cI cZ cC = wk ad cI cZ cC K0 := ⟨fun k => if k = 0 then a else g (k - 1), rfl, rfl⟩
end CTOR
