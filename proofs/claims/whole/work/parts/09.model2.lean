theorem tw_697 : Cond.fieldLink "NoneWordsModel" 36 "NoneWordsModel" "out" "[I" ∈ TB := inTB 697 (by decide +kernel) (by decide +kernel)
theorem tw_702 : Cond.fieldLink "NoneWordsModel" 126 "NoneWordsModel" "size" "I" ∈ TB := inTB 702 (by decide +kernel) (by decide +kernel)
theorem tw_875 : Cond.constantLong "NoneWordsModel" 129 255 ∈ TB := inTB 875 (by decide +kernel) (by decide +kernel)
theorem tw_876 : Cond.methodLink "NoneWordsModel" 131 ⟨"NoneWordsModel", "put", "(I)V"⟩ ∈ TB := inTB 876 (by decide +kernel) (by decide +kernel)
theorem tw_906 : Cond.constantLong "NoneWordsModel" 135 7237408 ∈ TB := inTB 906 (by decide +kernel) (by decide +kernel)
theorem tw_871 : Cond.methodLink "NoneWordsModel" 137 ⟨"NoneWordsModel", "say", "(J)V"⟩ ∈ TB := inTB 871 (by decide +kernel) (by decide +kernel)
theorem tw_902 : Cond.methodLink "NoneWordsModel" 141 ⟨"NoneWordsModel", "words", "(II)V"⟩ ∈ TB := inTB 902 (by decide +kernel) (by decide +kernel)
theorem tw_917 : Cond.constantLong "NoneWordsModel" 144 2335524464679414629 ∈ TB := inTB 917 (by decide +kernel) (by decide +kernel)
theorem tw_918 : Cond.constantLong "NoneWordsModel" 146 430040313714 ∈ TB := inTB 918 (by decide +kernel) (by decide +kernel)
theorem tw_919 : Cond.constantLong "NoneWordsModel" 148 9128581026575136 ∈ TB := inTB 919 (by decide +kernel) (by decide +kernel)
theorem tw_920 : Cond.constantLong "NoneWordsModel" 150 2335524465047860328 ∈ TB := inTB 920 (by decide +kernel) (by decide +kernel)
theorem tw_921 : Cond.constantLong "NoneWordsModel" 152 431415719790 ∈ TB := inTB 921 (by decide +kernel) (by decide +kernel)
theorem tw_922 : Cond.constantLong "NoneWordsModel" 154 2334404350278198373 ∈ TB := inTB 922 (by decide +kernel) (by decide +kernel)
theorem tw_923 : Cond.constantLong "NoneWordsModel" 156 29472 ∈ TB := inTB 923 (by decide +kernel) (by decide +kernel)
theorem tw_901 : Cond.constantLong "NoneWordsModel" 160 544174624 ∈ TB := inTB 901 (by decide +kernel) (by decide +kernel)
theorem tw_900 : Cond.constantLong "NoneWordsModel" 158 139073578016 ∈ TB := inTB 900 (by decide +kernel) (by decide +kernel)
theorem tw_912 : Cond.constantLong "NoneWordsModel" 183 25189 ∈ TB := inTB 912 (by decide +kernel) (by decide +kernel)
theorem tw_911 : Cond.constantLong "NoneWordsModel" 181 1634495520 ∈ TB := inTB 911 (by decide +kernel) (by decide +kernel)
theorem tw_896 : Cond.methodLink "NoneWordsModel" 170 ⟨"NoneWordsModel", "row", "(IZ)I"⟩ ∈ TB := inTB 896 (by decide +kernel) (by decide +kernel)
theorem tw_890 : Cond.methodLink "NoneWordsModel" 162 ⟨"NoneWordsModel", "counted", "(IZ)I"⟩ ∈ TB := inTB 890 (by decide +kernel) (by decide +kernel)
theorem tw_909 : Cond.constantLong "NoneWordsModel" 177 9116469365797920 ∈ TB := inTB 909 (by decide +kernel) (by decide +kernel)
theorem tw_910 : Cond.constantLong "NoneWordsModel" 179 422776694816 ∈ TB := inTB 910 (by decide +kernel) (by decide +kernel)
theorem tw_908 : Cond.constantLong "NoneWordsModel" 175 139274314094 ∈ TB := inTB 908 (by decide +kernel) (by decide +kernel)
theorem tw_907 : Cond.constantLong "NoneWordsModel" 173 2336652920405123685 ∈ TB := inTB 907 (by decide +kernel) (by decide +kernel)
theorem tw_894 : Cond.constantLong "NoneWordsModel" 166 7957707058381219616 ∈ TB := inTB 894 (by decide +kernel) (by decide +kernel)
theorem tw_895 : Cond.constantLong "NoneWordsModel" 168 29681455649351284 ∈ TB := inTB 895 (by decide +kernel) (by decide +kernel)
theorem tw_700 : Cond.fieldLink "NoneWordsModel" 45 "NoneWordsModel" "number" "[I" ∈ TB := inTB 700 (by decide +kernel) (by decide +kernel)
theorem tw_913 : Cond.methodLink "NoneWordsModel" 188 ⟨"NoneWordsModel", "leafWords", "(I)V"⟩ ∈ TB := inTB 913 (by decide +kernel) (by decide +kernel)
theorem tw_886 : Cond.methodLink "NoneWordsModel" 185 ⟨"NoneWordsModel", "joinWords", "(I)V"⟩ ∈ TB := inTB 886 (by decide +kernel) (by decide +kernel)
theorem tw_698 : Cond.fieldLink "NoneWordsModel" 39 "NoneWordsModel" "begins" "[I" ∈ TB := inTB 698 (by decide +kernel) (by decide +kernel)
theorem tw_703 : Cond.fieldLink "NoneWordsModel" 191 "NoneWordsModel" "sentences" "I" ∈ TB := inTB 703 (by decide +kernel) (by decide +kernel)
theorem tw_699 : Cond.fieldLink "NoneWordsModel" 42 "NoneWordsModel" "lines" "[I" ∈ TB := inTB 699 (by decide +kernel) (by decide +kernel)
theorem tw_882 : Cond.methodLink "NoneWordsModel" 203 ⟨"NoneWordsModel", "told", "(I)V"⟩ ∈ TB := inTB 882 (by decide +kernel) (by decide +kernel)
theorem tw_866 : Cond.methodLink "NoneWordsModel" 194 ⟨"NoneWordsModel", "begin", "()V"⟩ ∈ TB := inTB 866 (by decide +kernel) (by decide +kernel)
theorem tw_881 : Cond.constantLong "NoneWordsModel" 201 4784339449384494368 ∈ TB := inTB 881 (by decide +kernel) (by decide +kernel)
theorem tw_870 : Cond.constantLong "NoneWordsModel" 197 4714815950156030817 ∈ TB := inTB 870 (by decide +kernel) (by decide +kernel)
theorem tw_880 : Cond.constantLong "NoneWordsModel" 199 1970496800 ∈ TB := inTB 880 (by decide +kernel) (by decide +kernel)
theorem tw_704 : Cond.fieldLink "NoneWordsModel" 206 "NoneWordsModel" "numbers" "I" ∈ TB := inTB 704 (by decide +kernel) (by decide +kernel)
theorem tw_706 : Cond.fieldLink "NoneWordsModel" 54 "NoneWordsModel" "pile" "[I" ∈ TB := inTB 706 (by decide +kernel) (by decide +kernel)
theorem tw_709 : Cond.fieldLink "NoneWordsModel" 209 "NoneWordsModel" "piled" "I" ∈ TB := inTB 709 (by decide +kernel) (by decide +kernel)
theorem tw_707 : Cond.fieldLink "NoneWordsModel" 57 "NoneWordsModel" "steps" "[I" ∈ TB := inTB 707 (by decide +kernel) (by decide +kernel)
theorem tw_708 : Cond.fieldLink "NoneWordsModel" 60 "NoneWordsModel" "kept" "[I" ∈ TB := inTB 708 (by decide +kernel) (by decide +kernel)
theorem tw_846 : Cond.methodLink "NoneWordsModel" 212 ⟨"NoneWordsModel", "push", "(I)V"⟩ ∈ TB := inTB 846 (by decide +kernel) (by decide +kernel)
theorem tw_701 : Cond.fieldLink "NoneWordsModel" 48 "NoneWordsModel" "used" "[I" ∈ TB := inTB 701 (by decide +kernel) (by decide +kernel)
theorem tw_928 : Cond.methodLink "NoneWordsModel" 215 ⟨"NoneWordsModel", "give", "(I)V"⟩ ∈ TB := inTB 928 (by decide +kernel) (by decide +kernel)
theorem tw_705 : Cond.fieldLink "NoneWordsModel" 51 "NoneWordsModel" "in" "[Z" ∈ TB := inTB 705 (by decide +kernel) (by decide +kernel)
theorem tw_952 : Cond.constantLong "NoneWordsModel" 250 92807623814176 ∈ TB := inTB 952 (by decide +kernel) (by decide +kernel)
section MODEL2
variable {p : Program} {l : Launch} {e : Env} {s : State} {m : MethodId} {args : Array Value} {below : List Frame} {meth : Method} {c : Code} {D : va_G} {A : Nat → Prop} {Z : gw_Z} {ad : Nat → Nat} {cI cZ cC : ClassId}
abbrev b_K_put : ByteArray := prog_7_method_20_code
def y_K_put : MethodName := ⟨"NoneWordsModel", "put", "(I)V"⟩
abbrev ws_K_put : List Cond := Cond.code y_K_put b_K_put 2 (none) :: TB
set_option maxRecDepth 100000 in
theorem tc_K_put : Cond.code y_K_put b_K_put 2 (none) ∈ TB := inTB 879 rfl rfl
theorem mv_K_put : Cond.instanceMethod y_K_put ∈ TB ∧ Cond.selects "NoneWordsModel" y_K_put y_K_put ∈ TB ∧ Cond.initialized "NoneWordsModel" ∈ TB ∧ Cond.code y_K_put b_K_put 2 (none) ∈ TB := ⟨inTB 878 (by decide +kernel) (by decide +kernel), inTB 45 (by decide +kernel) (by decide +kernel), inTB 71 (by decide +kernel) (by decide +kernel), tc_K_put⟩
theorem pd_K_put : y_K_put.cls = "NoneWordsModel" ∧ y_K_put.cls ≠ "java/lang/invoke/MethodHandle" ∧ y_K_put.cls ≠ "java/lang/invoke/VarHandle" ∧ (parseMethodDescriptor y_K_put.desc).map (fun d => d.parameters.length) = some 1 := by decide +kernel
theorem d_K_put_0 : decode b_K_put 0 = .ok (.aload_n 0, 1) := by decide +kernel
theorem d_K_put_1 : decode b_K_put 1 = .ok (.getfield 36, 3) := by decide +kernel
theorem d_K_put_4 : decode b_K_put 4 = .ok (.aload_n 0, 1) := by decide +kernel
theorem d_K_put_5 : decode b_K_put 5 = .ok (.getfield 126, 3) := by decide +kernel
theorem d_K_put_8 : decode b_K_put 8 = .ok (.iload_n 1, 1) := by decide +kernel
theorem d_K_put_9 : decode b_K_put 9 = .ok (.iastore, 1) := by decide +kernel
theorem d_K_put_10 : decode b_K_put 10 = .ok (.aload_n 0, 1) := by decide +kernel
theorem d_K_put_11 : decode b_K_put 11 = .ok (.dup, 1) := by decide +kernel
theorem d_K_put_12 : decode b_K_put 12 = .ok (.getfield 126, 3) := by decide +kernel
theorem d_K_put_15 : decode b_K_put 15 = .ok (.iconst 1, 1) := by decide +kernel
theorem d_K_put_16 : decode b_K_put 16 = .ok (.iadd, 1) := by decide +kernel
theorem d_K_put_17 : decode b_K_put 17 = .ok (.putfield 126, 3) := by decide +kernel
theorem d_K_put_20 : decode b_K_put 20 = .ok (.return_, 1) := by decide +kernel
abbrev rm_K_put : Room := { frames := 0, cells := 0, slots := 0, locals := 0 }
def f_K_put (x1 : Int32) (M : Mem) : Option Mem :=
  gd (inb (M 0 16) 60000) (some (ms (ms M 9 (M 0 16).toNatClampNeg x1) 0 16 (((ms M 9 (M 0 16).toNatClampNeg x1) 0 16) + (1 : Int32))))
set_option maxRecDepth 100000 in
theorem g_K_put {M' : Mem} (C : GC p s m args meth c b_K_put 2 (none) "NoneWordsModel" TB D vwCl (tysW cI cZ cC) A Z) {x1 : Int32} {M : Mem} (hf : f_K_put x1 M = some M') : GW p l e rm_K_put s m args below meth c (MQ below (QW D vwCl (tysW cI cZ cC) A none (wk ad cI cZ cC M')) args s 0 0 A) D vwCl A 2 0 0 (wk ad cI cZ cC M) 0 [(0, .ref (ad 0)), (1, .int x1)] [] := by
  unfold f_K_put at hf
  refine gw_aload_n C 0 d_K_put_0 rfl rfl ?_
  refine gw_get C in_K 0 wkg_0 clg_5 11 (by decide) tw_697 rfl rfl d_K_put_1 ?_
  refine gw_aload_n C 0 d_K_put_4 rfl rfl ?_
  refine gw_get C in_K 0 wkg_0 clg_5 16 (by decide) tw_702 rfl rfl d_K_put_5 ?_
  refine gw_iload_n C 1 d_K_put_8 rfl rfl ?_
  obtain ⟨hb9, hf⟩ := gd_some hf
  refine gw_iast C 9 0 wkg_9 rfl hb9 d_K_put_9 wka_9 ?_
  refine gw_aload_n C 0 d_K_put_10 rfl rfl ?_
  refine gw_dup C d_K_put_11 rfl ?_
  refine gw_get C in_K 0 wkg_0 clg_5 16 (by decide) tw_702 rfl rfl d_K_put_12 ?_
  refine gw_iconst (v := (1 : Int32)) C d_K_put_15 (by decide) ?_
  refine gw_iadd C d_K_put_16 ?_
  refine gw_put C in_K ty_K tk_K nm_K 0 wkg_0 clg_5 16 (by decide) tw_702 rfl rfl rfl rfl (Nat.le_of_ble_eq_true rfl) d_K_put_17 wkf_0_16 ?_
  exact gw_vreti C d_K_put_20 (wk ad cI cZ cC) hf
theorem c_K_put (hZ : gw_ZOK Z) {x1 : Int32} {M : Mem} {M' : Mem} (hf : f_K_put x1 M = some M') : CW l y_K_put ws_K_put rm_K_put D vwCl (tysW cI cZ cC) Z [.ref (ad 0), .int x1] (wk ad cI cZ cC M) none (wk ad cI cZ cC M') 0 0 :=
  CW.ofG hZ (by decide) rfl (Nat.le_of_ble_eq_true rfl) (fun _ _ _ _ _ _ _ _ C _ => g_K_put C hf)
abbrev b_K_say : ByteArray := prog_7_method_21_code
def y_K_say : MethodName := ⟨"NoneWordsModel", "say", "(J)V"⟩
abbrev ws_K_say : List Cond := Cond.code y_K_say b_K_say 4 (none) :: TB
set_option maxRecDepth 100000 in
theorem tc_K_say : Cond.code y_K_say b_K_say 4 (none) ∈ TB := inTB 874 rfl rfl
theorem mv_K_say : Cond.instanceMethod y_K_say ∈ TB ∧ Cond.selects "NoneWordsModel" y_K_say y_K_say ∈ TB ∧ Cond.initialized "NoneWordsModel" ∈ TB ∧ Cond.code y_K_say b_K_say 4 (none) ∈ TB := ⟨inTB 873 (by decide +kernel) (by decide +kernel), inTB 44 (by decide +kernel) (by decide +kernel), inTB 71 (by decide +kernel) (by decide +kernel), tc_K_say⟩
theorem pd_K_say : y_K_say.cls = "NoneWordsModel" ∧ y_K_say.cls ≠ "java/lang/invoke/MethodHandle" ∧ y_K_say.cls ≠ "java/lang/invoke/VarHandle" ∧ (parseMethodDescriptor y_K_say.desc).map (fun d => d.parameters.length) = some 1 := by decide +kernel
theorem d_K_say_0 : decode b_K_say 0 = .ok (.bipush 56, 2) := by decide +kernel
theorem d_K_say_2 : decode b_K_say 2 = .ok (.istore_n 3, 1) := by decide +kernel
theorem d_K_say_3 : decode b_K_say 3 = .ok (.iload_n 3, 1) := by decide +kernel
theorem d_K_say_4 : decode b_K_say 4 = .ok (.ifCond .lt 33, 3) := by decide +kernel
theorem d_K_say_7 : decode b_K_say 7 = .ok (.lload_n 1, 1) := by decide +kernel
theorem d_K_say_8 : decode b_K_say 8 = .ok (.iload_n 3, 1) := by decide +kernel
theorem d_K_say_9 : decode b_K_say 9 = .ok (.lushr, 1) := by decide +kernel
theorem d_K_say_10 : decode b_K_say 10 = .ok (.ldc2_w 129, 3) := by decide +kernel
theorem d_K_say_13 : decode b_K_say 13 = .ok (.land, 1) := by decide +kernel
theorem d_K_say_14 : decode b_K_say 14 = .ok (.lconst 0, 1) := by decide +kernel
theorem d_K_say_15 : decode b_K_say 15 = .ok (.lcmp, 1) := by decide +kernel
theorem d_K_say_16 : decode b_K_say 16 = .ok (.ifCond .eq 15, 3) := by decide +kernel
theorem d_K_say_19 : decode b_K_say 19 = .ok (.aload_n 0, 1) := by decide +kernel
theorem d_K_say_20 : decode b_K_say 20 = .ok (.lload_n 1, 1) := by decide +kernel
theorem d_K_say_21 : decode b_K_say 21 = .ok (.iload_n 3, 1) := by decide +kernel
theorem d_K_say_22 : decode b_K_say 22 = .ok (.lushr, 1) := by decide +kernel
theorem d_K_say_23 : decode b_K_say 23 = .ok (.ldc2_w 129, 3) := by decide +kernel
theorem d_K_say_26 : decode b_K_say 26 = .ok (.land, 1) := by decide +kernel
theorem d_K_say_27 : decode b_K_say 27 = .ok (.l2i, 1) := by decide +kernel
theorem d_K_say_28 : decode b_K_say 28 = .ok (.invokevirtual 131, 3) := by decide +kernel
theorem d_K_say_31 : decode b_K_say 31 = .ok (.iinc 3 (-8), 3) := by decide +kernel
theorem d_K_say_34 : decode b_K_say 34 = .ok (.goto (-31), 3) := by decide +kernel
theorem d_K_say_37 : decode b_K_say 37 = .ok (.return_, 1) := by decide +kernel
abbrev rm_K_say : Room := { frames := 1, cells := 0, slots := 0, locals := 21 }
def f_K_say_3 : Nat → Int64 → Int32 → Mem → Option Mem
  | 0, _, _, _ => none
  | n + 1, x1, x3, M => if x3 < 0 then some M else if (lg_cmp (((x1.toUInt64 >>> (x3.toInt64.toUInt64 &&& Int64.toUInt64 63)).toInt64) &&& (255 : Int64)) (0 : Int64)) = 0 then (f_K_say_3 n) x1 (x3 + (-8 : Int32)) M else om (f_K_put ((((x1.toUInt64 >>> (x3.toInt64.toUInt64 &&& Int64.toUInt64 63)).toInt64) &&& (255 : Int64)).toInt32) M) fun M28 => (f_K_say_3 n) x1 (x3 + (-8 : Int32)) M28
set_option maxRecDepth 100000 in
theorem g_K_say_3 {M' : Mem} (C : GC p s m args meth c b_K_say 4 (none) "NoneWordsModel" TB D vwCl (tysW cI cZ cC) A Z) : ∀ (n : Nat) (x1 : Int64) (x3 : Int32) (M : Mem), f_K_say_3 n x1 x3 M = some M' → GW p l e rm_K_say s m args below meth c (MQ below (QW D vwCl (tysW cI cZ cC) A none (wk ad cI cZ cC M')) args s 0 0 A) D vwCl A 4 0 0 (wk ad cI cZ cC M) 3 [(0, .ref (ad 0)), (1, .long x1), (3, .int x3)] [] := by
  intro n
  induction n with
  | zero => intro _ _ _ hf; cases hf
  | succ n ih =>
    intro x1 x3 M hf
    rw [f_K_say_3] at hf
    refine gw_iload_n C 2 d_K_say_3 rfl rfl ?_
    refine gw_if_lt (tgt := 37) C d_K_say_4 (by decide) (fun c => ?_) (fun c => ?_)
    · have hf := (if_pos c).symm.trans hf
      exact gw_vreti C d_K_say_37 (wk ad cI cZ cC) hf
    · have hf := (if_neg c).symm.trans hf
      refine gw_lload_n C 1 d_K_say_7 rfl rfl ?_
      refine gw_iload_n C 2 d_K_say_8 rfl rfl ?_
      refine gw_lushr C d_K_say_9 ?_
      refine gw_ldc2 (v := (255 : Int64)) C d_K_say_10 tw_875 ?_
      refine gw_land C d_K_say_13 ?_
      refine gw_lconst (v := (0 : Int64)) C d_K_say_14 (by decide) ?_
      refine gw_lcmp C d_K_say_15 ?_
      refine gw_if_eq (tgt := 31) C d_K_say_16 (by decide) (fun c => ?_) (fun c => ?_)
      · have hf := (if_pos c).symm.trans hf
        refine gw_iinc (v := x3 + (-8 : Int32)) (lv' := [(3, .int (x3 + (-8 : Int32))), (0, .ref (ad 0)), (1, .long x1)]) C 2 d_K_say_31 rfl rfl (by decide) rfl ?_
        refine gw_goto (tgt := 3) C d_K_say_34 (by decide) ?_
        exact gw_sub [1, 2, 0] rfl (ih _ _ _ hf)
      · have hf := (if_neg c).symm.trans hf
        refine gw_aload_n C 0 d_K_say_19 rfl rfl ?_
        refine gw_lload_n C 1 d_K_say_20 rfl rfl ?_
        refine gw_iload_n C 2 d_K_say_21 rfl rfl ?_
        refine gw_lushr C d_K_say_22 ?_
        refine gw_ldc2 (v := (255 : Int64)) C d_K_say_23 tw_875 ?_
        refine gw_land C d_K_say_26 ?_
        refine gw_l2i C d_K_say_27 ?_
        obtain ⟨M28, hc28, hf⟩ := om_some hf
        refine gw_callVv (rest := []) C 0 wkg_0 clg_5 (c_K_put C.2.2.2.2.2.2.2.2.2.2 hc28) (cwV 1 C.2.2.2.2.1 (gTB_V tw_876 mv_K_put) rfl rfl rfl pd_K_put ⟨Nat.le_of_ble_eq_true rfl, Nat.le_of_ble_eq_true rfl⟩) rfl rfl (Nat.le_of_ble_eq_true rfl) d_K_say_28 ⟨Nat.le_of_ble_eq_true rfl, Nat.le_of_ble_eq_true rfl⟩ ?_
        refine gw_iinc (v := x3 + (-8 : Int32)) (lv' := [(3, .int (x3 + (-8 : Int32))), (0, .ref (ad 0)), (1, .long x1)]) C 2 d_K_say_31 rfl rfl (by decide) rfl ?_
        refine gw_goto (tgt := 3) C d_K_say_34 (by decide) ?_
        exact gw_sub [1, 2, 0] rfl (ih _ _ _ hf)
def f_K_say (x1 : Int64) (M : Mem) : Option Mem :=
  f_K_say_3 100000 x1 (56 : Int32) M
set_option maxRecDepth 100000 in
theorem g_K_say {M' : Mem} (C : GC p s m args meth c b_K_say 4 (none) "NoneWordsModel" TB D vwCl (tysW cI cZ cC) A Z) {x1 : Int64} {M : Mem} (hf : f_K_say x1 M = some M') : GW p l e rm_K_say s m args below meth c (MQ below (QW D vwCl (tysW cI cZ cC) A none (wk ad cI cZ cC M')) args s 0 0 A) D vwCl A 4 0 0 (wk ad cI cZ cC M) 0 [(0, .ref (ad 0)), (1, .long x1)] [] := by
  unfold f_K_say at hf
  refine gw_bipush (v := (56 : Int32)) C d_K_say_0 (by decide) ?_
  refine gw_istore_n (lv' := [(3, .int (56 : Int32)), (0, .ref (ad 0)), (1, .long x1)]) C d_K_say_2 rfl (by decide) rfl ?_
  exact gw_sub [1, 2, 0] rfl (g_K_say_3 C _ _ _ _ hf)
theorem c_K_say (hZ : gw_ZOK Z) {x1 : Int64} {M : Mem} {M' : Mem} (hf : f_K_say x1 M = some M') : CW l y_K_say ws_K_say rm_K_say D vwCl (tysW cI cZ cC) Z [.ref (ad 0), .long x1] (wk ad cI cZ cC M) none (wk ad cI cZ cC M') 0 0 :=
  CW.ofG hZ (by decide) rfl (Nat.le_of_ble_eq_true rfl) (fun _ _ _ _ _ _ _ _ C _ => g_K_say C hf)
abbrev b_K_words : ByteArray := prog_7_method_22_code
def y_K_words : MethodName := ⟨"NoneWordsModel", "words", "(II)V"⟩
abbrev ws_K_words : List Cond := Cond.code y_K_words b_K_words 6 (none) :: TB
set_option maxRecDepth 100000 in
theorem tc_K_words : Cond.code y_K_words b_K_words 6 (none) ∈ TB := inTB 905 rfl rfl
theorem mv_K_words : Cond.instanceMethod y_K_words ∈ TB ∧ Cond.selects "NoneWordsModel" y_K_words y_K_words ∈ TB ∧ Cond.initialized "NoneWordsModel" ∈ TB ∧ Cond.code y_K_words b_K_words 6 (none) ∈ TB := ⟨inTB 904 (by decide +kernel) (by decide +kernel), inTB 50 (by decide +kernel) (by decide +kernel), inTB 71 (by decide +kernel) (by decide +kernel), tc_K_words⟩
theorem pd_K_words : y_K_words.cls = "NoneWordsModel" ∧ y_K_words.cls ≠ "java/lang/invoke/MethodHandle" ∧ y_K_words.cls ≠ "java/lang/invoke/VarHandle" ∧ (parseMethodDescriptor y_K_words.desc).map (fun d => d.parameters.length) = some 2 := by decide +kernel
theorem d_K_words_0 : decode b_K_words 0 = .ok (.iload_n 2, 1) := by decide +kernel
theorem d_K_words_1 : decode b_K_words 1 = .ok (.ifCond .ne 10, 3) := by decide +kernel
theorem d_K_words_4 : decode b_K_words 4 = .ok (.aload_n 0, 1) := by decide +kernel
theorem d_K_words_5 : decode b_K_words 5 = .ok (.ldc2_w 135, 3) := by decide +kernel
theorem d_K_words_8 : decode b_K_words 8 = .ok (.invokevirtual 137, 3) := by decide +kernel
theorem d_K_words_11 : decode b_K_words 11 = .ok (.aload_n 0, 1) := by decide +kernel
theorem d_K_words_12 : decode b_K_words 12 = .ok (.bipush 97, 2) := by decide +kernel
theorem d_K_words_14 : decode b_K_words 14 = .ok (.iload_n 1, 1) := by decide +kernel
theorem d_K_words_15 : decode b_K_words 15 = .ok (.iadd, 1) := by decide +kernel
theorem d_K_words_16 : decode b_K_words 16 = .ok (.invokevirtual 131, 3) := by decide +kernel
theorem d_K_words_19 : decode b_K_words 19 = .ok (.iload_n 2, 1) := by decide +kernel
theorem d_K_words_20 : decode b_K_words 20 = .ok (.ifCond .eq 17, 3) := by decide +kernel
theorem d_K_words_23 : decode b_K_words 23 = .ok (.iload_n 2, 1) := by decide +kernel
theorem d_K_words_24 : decode b_K_words 24 = .ok (.iconst 1, 1) := by decide +kernel
theorem d_K_words_25 : decode b_K_words 25 = .ok (.aload_n 0, 1) := by decide +kernel
theorem d_K_words_26 : decode b_K_words 26 = .ok (.getfield 7, 3) := by decide +kernel
theorem d_K_words_29 : decode b_K_words 29 = .ok (.iload_n 1, 1) := by decide +kernel
theorem d_K_words_30 : decode b_K_words 30 = .ok (.iaload, 1) := by decide +kernel
theorem d_K_words_31 : decode b_K_words 31 = .ok (.ishl, 1) := by decide +kernel
theorem d_K_words_32 : decode b_K_words 32 = .ok (.iconst 1, 1) := by decide +kernel
theorem d_K_words_33 : decode b_K_words 33 = .ok (.isub, 1) := by decide +kernel
theorem d_K_words_34 : decode b_K_words 34 = .ok (.if_icmp .ne 4, 3) := by decide +kernel
theorem d_K_words_37 : decode b_K_words 37 = .ok (.return_, 1) := by decide +kernel
theorem d_K_words_38 : decode b_K_words 38 = .ok (.aload_n 0, 1) := by decide +kernel
theorem d_K_words_39 : decode b_K_words 39 = .ok (.bipush 32, 2) := by decide +kernel
theorem d_K_words_41 : decode b_K_words 41 = .ok (.invokevirtual 131, 3) := by decide +kernel
theorem d_K_words_44 : decode b_K_words 44 = .ok (.iconst 0, 1) := by decide +kernel
theorem d_K_words_45 : decode b_K_words 45 = .ok (.istore_n 3, 1) := by decide +kernel
theorem d_K_words_46 : decode b_K_words 46 = .ok (.iconst 0, 1) := by decide +kernel
theorem d_K_words_47 : decode b_K_words 47 = .ok (.istore 4, 2) := by decide +kernel
theorem d_K_words_49 : decode b_K_words 49 = .ok (.iload 4, 2) := by decide +kernel
theorem d_K_words_51 : decode b_K_words 51 = .ok (.aload_n 0, 1) := by decide +kernel
theorem d_K_words_52 : decode b_K_words 52 = .ok (.getfield 7, 3) := by decide +kernel
theorem d_K_words_55 : decode b_K_words 55 = .ok (.iload_n 1, 1) := by decide +kernel
theorem d_K_words_56 : decode b_K_words 56 = .ok (.iaload, 1) := by decide +kernel
theorem d_K_words_57 : decode b_K_words 57 = .ok (.if_icmp .ge 106, 3) := by decide +kernel
theorem d_K_words_60 : decode b_K_words 60 = .ok (.iload_n 2, 1) := by decide +kernel
theorem d_K_words_61 : decode b_K_words 61 = .ok (.iload 4, 2) := by decide +kernel
theorem d_K_words_63 : decode b_K_words 63 = .ok (.ishr, 1) := by decide +kernel
theorem d_K_words_64 : decode b_K_words 64 = .ok (.iconst 1, 1) := by decide +kernel
theorem d_K_words_65 : decode b_K_words 65 = .ok (.iand, 1) := by decide +kernel
theorem d_K_words_66 : decode b_K_words 66 = .ok (.ifCond .eq 91, 3) := by decide +kernel
theorem d_K_words_69 : decode b_K_words 69 = .ok (.iload 4, 2) := by decide +kernel
theorem d_K_words_71 : decode b_K_words 71 = .ok (.ifCond .le 18, 3) := by decide +kernel
theorem d_K_words_74 : decode b_K_words 74 = .ok (.iload_n 2, 1) := by decide +kernel
theorem d_K_words_75 : decode b_K_words 75 = .ok (.iload 4, 2) := by decide +kernel
theorem d_K_words_77 : decode b_K_words 77 = .ok (.iconst 1, 1) := by decide +kernel
theorem d_K_words_78 : decode b_K_words 78 = .ok (.isub, 1) := by decide +kernel
theorem d_K_words_79 : decode b_K_words 79 = .ok (.ishr, 1) := by decide +kernel
theorem d_K_words_80 : decode b_K_words 80 = .ok (.iconst 1, 1) := by decide +kernel
theorem d_K_words_81 : decode b_K_words 81 = .ok (.iand, 1) := by decide +kernel
theorem d_K_words_82 : decode b_K_words 82 = .ok (.iconst 1, 1) := by decide +kernel
theorem d_K_words_83 : decode b_K_words 83 = .ok (.if_icmp .ne 6, 3) := by decide +kernel
theorem d_K_words_86 : decode b_K_words 86 = .ok (.goto 71, 3) := by decide +kernel
theorem d_K_words_89 : decode b_K_words 89 = .ok (.iload 4, 2) := by decide +kernel
theorem d_K_words_91 : decode b_K_words 91 = .ok (.istore 5, 2) := by decide +kernel
theorem d_K_words_93 : decode b_K_words 93 = .ok (.iload_n 2, 1) := by decide +kernel
theorem d_K_words_94 : decode b_K_words 94 = .ok (.iload 5, 2) := by decide +kernel
theorem d_K_words_96 : decode b_K_words 96 = .ok (.iconst 1, 1) := by decide +kernel
theorem d_K_words_97 : decode b_K_words 97 = .ok (.iadd, 1) := by decide +kernel
theorem d_K_words_98 : decode b_K_words 98 = .ok (.ishr, 1) := by decide +kernel
theorem d_K_words_99 : decode b_K_words 99 = .ok (.iconst 1, 1) := by decide +kernel
theorem d_K_words_100 : decode b_K_words 100 = .ok (.iand, 1) := by decide +kernel
theorem d_K_words_101 : decode b_K_words 101 = .ok (.iconst 1, 1) := by decide +kernel
theorem d_K_words_102 : decode b_K_words 102 = .ok (.if_icmp .ne 9, 3) := by decide +kernel
theorem d_K_words_105 : decode b_K_words 105 = .ok (.iinc 5 1, 3) := by decide +kernel
theorem d_K_words_108 : decode b_K_words 108 = .ok (.goto (-15), 3) := by decide +kernel
theorem d_K_words_111 : decode b_K_words 111 = .ok (.iload_n 3, 1) := by decide +kernel
theorem d_K_words_112 : decode b_K_words 112 = .ok (.ifCond .eq 9, 3) := by decide +kernel
theorem d_K_words_115 : decode b_K_words 115 = .ok (.aload_n 0, 1) := by decide +kernel
theorem d_K_words_116 : decode b_K_words 116 = .ok (.bipush 44, 2) := by decide +kernel
theorem d_K_words_118 : decode b_K_words 118 = .ok (.invokevirtual 131, 3) := by decide +kernel
theorem d_K_words_121 : decode b_K_words 121 = .ok (.iconst 1, 1) := by decide +kernel
theorem d_K_words_122 : decode b_K_words 122 = .ok (.istore_n 3, 1) := by decide +kernel
theorem d_K_words_123 : decode b_K_words 123 = .ok (.aload_n 0, 1) := by decide +kernel
theorem d_K_words_124 : decode b_K_words 124 = .ok (.bipush 48, 2) := by decide +kernel
theorem d_K_words_126 : decode b_K_words 126 = .ok (.iload 4, 2) := by decide +kernel
theorem d_K_words_128 : decode b_K_words 128 = .ok (.iadd, 1) := by decide +kernel
theorem d_K_words_129 : decode b_K_words 129 = .ok (.invokevirtual 131, 3) := by decide +kernel
theorem d_K_words_132 : decode b_K_words 132 = .ok (.iload 5, 2) := by decide +kernel
theorem d_K_words_134 : decode b_K_words 134 = .ok (.iload 4, 2) := by decide +kernel
theorem d_K_words_136 : decode b_K_words 136 = .ok (.if_icmp .ne 6, 3) := by decide +kernel
theorem d_K_words_139 : decode b_K_words 139 = .ok (.goto 18, 3) := by decide +kernel
theorem d_K_words_142 : decode b_K_words 142 = .ok (.aload_n 0, 1) := by decide +kernel
theorem d_K_words_143 : decode b_K_words 143 = .ok (.bipush 45, 2) := by decide +kernel
theorem d_K_words_145 : decode b_K_words 145 = .ok (.invokevirtual 131, 3) := by decide +kernel
theorem d_K_words_148 : decode b_K_words 148 = .ok (.aload_n 0, 1) := by decide +kernel
theorem d_K_words_149 : decode b_K_words 149 = .ok (.bipush 48, 2) := by decide +kernel
theorem d_K_words_151 : decode b_K_words 151 = .ok (.iload 5, 2) := by decide +kernel
theorem d_K_words_153 : decode b_K_words 153 = .ok (.iadd, 1) := by decide +kernel
theorem d_K_words_154 : decode b_K_words 154 = .ok (.invokevirtual 131, 3) := by decide +kernel
theorem d_K_words_157 : decode b_K_words 157 = .ok (.iinc 4 1, 3) := by decide +kernel
theorem d_K_words_160 : decode b_K_words 160 = .ok (.goto (-111), 3) := by decide +kernel
theorem d_K_words_163 : decode b_K_words 163 = .ok (.return_, 1) := by decide +kernel
abbrev rm_K_words : Room := { frames := 2, cells := 0, slots := 0, locals := 44 }
def f_K_words_121 (k49 : Int32 → Int32 → Int32 → Int32 → Mem → Option Mem) (x1 : Int32) (x2 : Int32) (x4 : Int32) (x5 : Int32) (M : Mem) : Option Mem :=
  om (f_K_put ((48 : Int32) + x4) M) fun M129 => if x5 = x4 then k49 x1 x2 (1 : Int32) (x4 + (1 : Int32)) M129 else om (f_K_put (45 : Int32) M129) fun M145 => om (f_K_put ((48 : Int32) + x5) M145) fun M154 => k49 x1 x2 (1 : Int32) (x4 + (1 : Int32)) M154
set_option maxRecDepth 100000 in
theorem g_K_words_121 {M' : Mem} (C : GC p s m args meth c b_K_words 6 (none) "NoneWordsModel" TB D vwCl (tysW cI cZ cC) A Z) {k49 : Int32 → Int32 → Int32 → Int32 → Mem → Option Mem} (hk49 : ∀ (x1 : Int32) (x2 : Int32) (x3 : Int32) (x4 : Int32) (M : Mem), k49 x1 x2 x3 x4 M = some M' → GW p l e rm_K_words s m args below meth c (MQ below (QW D vwCl (tysW cI cZ cC) A none (wk ad cI cZ cC M')) args s 0 0 A) D vwCl A 6 0 0 (wk ad cI cZ cC M) 49 [(0, .ref (ad 0)), (1, .int x1), (2, .int x2), (3, .int x3), (4, .int x4)] []) {x1 : Int32} {x2 : Int32} {x4 : Int32} {x5 : Int32} {M : Mem} (hf : f_K_words_121 k49 x1 x2 x4 x5 M = some M') : GW p l e rm_K_words s m args below meth c (MQ below (QW D vwCl (tysW cI cZ cC) A none (wk ad cI cZ cC M')) args s 0 0 A) D vwCl A 6 0 0 (wk ad cI cZ cC M) 121 [(0, .ref (ad 0)), (1, .int x1), (2, .int x2), (4, .int x4), (5, .int x5)] [] := by
  unfold f_K_words_121 at hf
  refine gw_iconst (v := (1 : Int32)) C d_K_words_121 (by decide) ?_
  refine gw_istore_n (lv' := [(3, .int (1 : Int32)), (0, .ref (ad 0)), (1, .int x1), (2, .int x2), (4, .int x4), (5, .int x5)]) C d_K_words_122 rfl (by decide) rfl ?_
  refine gw_aload_n C 1 d_K_words_123 rfl rfl ?_
  refine gw_bipush (v := (48 : Int32)) C d_K_words_124 (by decide) ?_
  refine gw_iload C 4 d_K_words_126 rfl ?_
  refine gw_iadd C d_K_words_128 ?_
  obtain ⟨M129, hc129, hf⟩ := om_some hf
  refine gw_callVv (rest := []) C 0 wkg_0 clg_5 (c_K_put C.2.2.2.2.2.2.2.2.2.2 hc129) (cwV 1 C.2.2.2.2.1 (gTB_V tw_876 mv_K_put) rfl rfl rfl pd_K_put ⟨Nat.le_of_ble_eq_true rfl, Nat.le_of_ble_eq_true rfl⟩) rfl rfl (Nat.le_of_ble_eq_true rfl) d_K_words_129 ⟨Nat.le_of_ble_eq_true rfl, Nat.le_of_ble_eq_true rfl⟩ ?_
  refine gw_iload C 5 d_K_words_132 rfl ?_
  refine gw_iload C 4 d_K_words_134 rfl ?_
  refine gw_icmp_ne (tgt := 142) C d_K_words_136 (by decide) (fun c => ?_) (fun c => ?_)
  · have hf := (if_neg c).symm.trans hf
    refine gw_aload_n C 1 d_K_words_142 rfl rfl ?_
    refine gw_bipush (v := (45 : Int32)) C d_K_words_143 (by decide) ?_
    obtain ⟨M145, hc145, hf⟩ := om_some hf
    refine gw_callVv (rest := []) C 0 wkg_0 clg_5 (c_K_put C.2.2.2.2.2.2.2.2.2.2 hc145) (cwV 1 C.2.2.2.2.1 (gTB_V tw_876 mv_K_put) rfl rfl rfl pd_K_put ⟨Nat.le_of_ble_eq_true rfl, Nat.le_of_ble_eq_true rfl⟩) rfl rfl (Nat.le_of_ble_eq_true rfl) d_K_words_145 ⟨Nat.le_of_ble_eq_true rfl, Nat.le_of_ble_eq_true rfl⟩ ?_
    refine gw_aload_n C 1 d_K_words_148 rfl rfl ?_
    refine gw_bipush (v := (48 : Int32)) C d_K_words_149 (by decide) ?_
    refine gw_iload C 5 d_K_words_151 rfl ?_
    refine gw_iadd C d_K_words_153 ?_
    obtain ⟨M154, hc154, hf⟩ := om_some hf
    refine gw_callVv (rest := []) C 0 wkg_0 clg_5 (c_K_put C.2.2.2.2.2.2.2.2.2.2 hc154) (cwV 1 C.2.2.2.2.1 (gTB_V tw_876 mv_K_put) rfl rfl rfl pd_K_put ⟨Nat.le_of_ble_eq_true rfl, Nat.le_of_ble_eq_true rfl⟩) rfl rfl (Nat.le_of_ble_eq_true rfl) d_K_words_154 ⟨Nat.le_of_ble_eq_true rfl, Nat.le_of_ble_eq_true rfl⟩ ?_
    refine gw_iinc (v := x4 + (1 : Int32)) (lv' := [(4, .int (x4 + (1 : Int32))), (3, .int (1 : Int32)), (0, .ref (ad 0)), (1, .int x1), (2, .int x2), (5, .int x5)]) C 4 d_K_words_157 rfl rfl (by decide) rfl ?_
    refine gw_goto (tgt := 49) C d_K_words_160 (by decide) ?_
    exact gw_sub [2, 3, 4, 1, 0] rfl (hk49 _ _ _ _ _ hf)
  · have hf := (if_pos c).symm.trans hf
    refine gw_goto (tgt := 157) C d_K_words_139 (by decide) ?_
    refine gw_iinc (v := x4 + (1 : Int32)) (lv' := [(4, .int (x4 + (1 : Int32))), (3, .int (1 : Int32)), (0, .ref (ad 0)), (1, .int x1), (2, .int x2), (5, .int x5)]) C 4 d_K_words_157 rfl rfl (by decide) rfl ?_
    refine gw_goto (tgt := 49) C d_K_words_160 (by decide) ?_
    exact gw_sub [2, 3, 4, 1, 0] rfl (hk49 _ _ _ _ _ hf)
def f_K_words_93 (k49 : Int32 → Int32 → Int32 → Int32 → Mem → Option Mem) : Nat → Int32 → Int32 → Int32 → Int32 → Int32 → Mem → Option Mem
  | 0, _, _, _, _, _, _ => none
  | n + 1, x1, x2, x3, x4, x5, M => if ((x2 >>> ((x5 + (1 : Int32)) &&& 31)) &&& (1 : Int32)) = (1 : Int32) then (f_K_words_93 k49 n) x1 x2 x3 x4 (x5 + (1 : Int32)) M else if x3 = 0 then f_K_words_121 k49 x1 x2 x4 x5 M else om (f_K_put (44 : Int32) M) fun M118 => f_K_words_121 k49 x1 x2 x4 x5 M118
set_option maxRecDepth 100000 in
theorem g_K_words_93 {M' : Mem} (C : GC p s m args meth c b_K_words 6 (none) "NoneWordsModel" TB D vwCl (tysW cI cZ cC) A Z) {k49 : Int32 → Int32 → Int32 → Int32 → Mem → Option Mem} (hk49 : ∀ (x1 : Int32) (x2 : Int32) (x3 : Int32) (x4 : Int32) (M : Mem), k49 x1 x2 x3 x4 M = some M' → GW p l e rm_K_words s m args below meth c (MQ below (QW D vwCl (tysW cI cZ cC) A none (wk ad cI cZ cC M')) args s 0 0 A) D vwCl A 6 0 0 (wk ad cI cZ cC M) 49 [(0, .ref (ad 0)), (1, .int x1), (2, .int x2), (3, .int x3), (4, .int x4)] []) : ∀ (n : Nat) (x1 : Int32) (x2 : Int32) (x3 : Int32) (x4 : Int32) (x5 : Int32) (M : Mem), f_K_words_93 k49 n x1 x2 x3 x4 x5 M = some M' → GW p l e rm_K_words s m args below meth c (MQ below (QW D vwCl (tysW cI cZ cC) A none (wk ad cI cZ cC M')) args s 0 0 A) D vwCl A 6 0 0 (wk ad cI cZ cC M) 93 [(0, .ref (ad 0)), (1, .int x1), (2, .int x2), (3, .int x3), (4, .int x4), (5, .int x5)] [] := by
  intro n
  induction n with
  | zero => intro _ _ _ _ _ _ hf; cases hf
  | succ n ih =>
    intro x1 x2 x3 x4 x5 M hf
    rw [f_K_words_93] at hf
    refine gw_iload_n C 2 d_K_words_93 rfl rfl ?_
    refine gw_iload C 5 d_K_words_94 rfl ?_
    refine gw_iconst (v := (1 : Int32)) C d_K_words_96 (by decide) ?_
    refine gw_iadd C d_K_words_97 ?_
    refine gw_ishr C d_K_words_98 ?_
    refine gw_iconst (v := (1 : Int32)) C d_K_words_99 (by decide) ?_
    refine gw_iand C d_K_words_100 ?_
    refine gw_iconst (v := (1 : Int32)) C d_K_words_101 (by decide) ?_
    refine gw_icmp_ne (tgt := 111) C d_K_words_102 (by decide) (fun c => ?_) (fun c => ?_)
    · have hf := (if_neg c).symm.trans hf
      refine gw_iload_n C 3 d_K_words_111 rfl rfl ?_
      refine gw_if_eq (tgt := 121) C d_K_words_112 (by decide) (fun c => ?_) (fun c => ?_)
      · have hf := (if_pos c).symm.trans hf
        exact gw_sub [0, 1, 2, 4, 5] rfl (g_K_words_121 C hk49 hf)
      · have hf := (if_neg c).symm.trans hf
        refine gw_aload_n C 0 d_K_words_115 rfl rfl ?_
        refine gw_bipush (v := (44 : Int32)) C d_K_words_116 (by decide) ?_
        obtain ⟨M118, hc118, hf⟩ := om_some hf
        refine gw_callVv (rest := []) C 0 wkg_0 clg_5 (c_K_put C.2.2.2.2.2.2.2.2.2.2 hc118) (cwV 1 C.2.2.2.2.1 (gTB_V tw_876 mv_K_put) rfl rfl rfl pd_K_put ⟨Nat.le_of_ble_eq_true rfl, Nat.le_of_ble_eq_true rfl⟩) rfl rfl (Nat.le_of_ble_eq_true rfl) d_K_words_118 ⟨Nat.le_of_ble_eq_true rfl, Nat.le_of_ble_eq_true rfl⟩ ?_
        exact gw_sub [0, 1, 2, 4, 5] rfl (g_K_words_121 C hk49 hf)
    · have hf := (if_pos c).symm.trans hf
      refine gw_iinc (v := x5 + (1 : Int32)) (lv' := [(5, .int (x5 + (1 : Int32))), (0, .ref (ad 0)), (1, .int x1), (2, .int x2), (3, .int x3), (4, .int x4)]) C 5 d_K_words_105 rfl rfl (by decide) rfl ?_
      refine gw_goto (tgt := 93) C d_K_words_108 (by decide) ?_
      exact gw_sub [1, 2, 3, 4, 5, 0] rfl (ih _ _ _ _ _ _ hf)
def f_K_words_49 : Nat → Int32 → Int32 → Int32 → Int32 → Mem → Option Mem
  | 0, _, _, _, _, _ => none
  | n + 1, x1, x2, x3, x4, M => gd (inb x1 5) (if (M 1 x1.toNatClampNeg) ≤ x4 then some M else if ((x2 >>> (x4 &&& 31)) &&& (1 : Int32)) = 0 then (f_K_words_49 n) x1 x2 x3 (x4 + (1 : Int32)) M else if x4 ≤ 0 then f_K_words_93 (f_K_words_49 n) 100000 x1 x2 x3 x4 x4 M else if ((x2 >>> ((x4 - (1 : Int32)) &&& 31)) &&& (1 : Int32)) = (1 : Int32) then (f_K_words_49 n) x1 x2 x3 (x4 + (1 : Int32)) M else f_K_words_93 (f_K_words_49 n) 100000 x1 x2 x3 x4 x4 M)
set_option maxRecDepth 100000 in
theorem g_K_words_49 {M' : Mem} (C : GC p s m args meth c b_K_words 6 (none) "NoneWordsModel" TB D vwCl (tysW cI cZ cC) A Z) : ∀ (n : Nat) (x1 : Int32) (x2 : Int32) (x3 : Int32) (x4 : Int32) (M : Mem), f_K_words_49 n x1 x2 x3 x4 M = some M' → GW p l e rm_K_words s m args below meth c (MQ below (QW D vwCl (tysW cI cZ cC) A none (wk ad cI cZ cC M')) args s 0 0 A) D vwCl A 6 0 0 (wk ad cI cZ cC M) 49 [(0, .ref (ad 0)), (1, .int x1), (2, .int x2), (3, .int x3), (4, .int x4)] [] := by
  intro n
  induction n with
  | zero => intro _ _ _ _ _ hf; cases hf
  | succ n ih =>
    intro x1 x2 x3 x4 M hf
    rw [f_K_words_49] at hf
    refine gw_iload C 4 d_K_words_49 rfl ?_
    refine gw_aload_n C 0 d_K_words_51 rfl rfl ?_
    refine gw_get C in_K 0 wkg_0 clg_5 1 (by decide) tw_687 rfl rfl d_K_words_52 ?_
    refine gw_iload_n C 1 d_K_words_55 rfl rfl ?_
    obtain ⟨hb56, hf⟩ := gd_some hf
    refine gw_iald C 1 0 wkg_1 rfl hb56 d_K_words_56 ?_
    refine gw_icmp_ge (tgt := 163) C d_K_words_57 (by decide) (fun c => ?_) (fun c => ?_)
    · have hf := (if_pos c).symm.trans hf
      exact gw_vreti C d_K_words_163 (wk ad cI cZ cC) hf
    · have hf := (if_neg c).symm.trans hf
      refine gw_iload_n C 2 d_K_words_60 rfl rfl ?_
      refine gw_iload C 4 d_K_words_61 rfl ?_
      refine gw_ishr C d_K_words_63 ?_
      refine gw_iconst (v := (1 : Int32)) C d_K_words_64 (by decide) ?_
      refine gw_iand C d_K_words_65 ?_
      refine gw_if_eq (tgt := 157) C d_K_words_66 (by decide) (fun c => ?_) (fun c => ?_)
      · have hf := (if_pos c).symm.trans hf
        refine gw_iinc (v := x4 + (1 : Int32)) (lv' := [(4, .int (x4 + (1 : Int32))), (0, .ref (ad 0)), (1, .int x1), (2, .int x2), (3, .int x3)]) C 4 d_K_words_157 rfl rfl (by decide) rfl ?_
        refine gw_goto (tgt := 49) C d_K_words_160 (by decide) ?_
        exact gw_sub [1, 2, 3, 4, 0] rfl (ih _ _ _ _ _ hf)
      · have hf := (if_neg c).symm.trans hf
        refine gw_iload C 4 d_K_words_69 rfl ?_
        refine gw_if_le (tgt := 89) C d_K_words_71 (by decide) (fun c => ?_) (fun c => ?_)
        · have hf := (if_pos c).symm.trans hf
          refine gw_iload C 4 d_K_words_89 rfl ?_
          refine gw_istore (lv' := [(5, .int x4), (0, .ref (ad 0)), (1, .int x1), (2, .int x2), (3, .int x3), (4, .int x4)]) C d_K_words_91 (by decide) rfl ?_
          exact gw_sub [1, 2, 3, 4, 5, 0] rfl (g_K_words_93 C ih _ _ _ _ _ _ _ hf)
        · have hf := (if_neg c).symm.trans hf
          refine gw_iload_n C 2 d_K_words_74 rfl rfl ?_
          refine gw_iload C 4 d_K_words_75 rfl ?_
          refine gw_iconst (v := (1 : Int32)) C d_K_words_77 (by decide) ?_
          refine gw_isub C d_K_words_78 ?_
          refine gw_ishr C d_K_words_79 ?_
          refine gw_iconst (v := (1 : Int32)) C d_K_words_80 (by decide) ?_
          refine gw_iand C d_K_words_81 ?_
          refine gw_iconst (v := (1 : Int32)) C d_K_words_82 (by decide) ?_
          refine gw_icmp_ne (tgt := 89) C d_K_words_83 (by decide) (fun c => ?_) (fun c => ?_)
          · have hf := (if_neg c).symm.trans hf
            refine gw_iload C 4 d_K_words_89 rfl ?_
            refine gw_istore (lv' := [(5, .int x4), (0, .ref (ad 0)), (1, .int x1), (2, .int x2), (3, .int x3), (4, .int x4)]) C d_K_words_91 (by decide) rfl ?_
            exact gw_sub [1, 2, 3, 4, 5, 0] rfl (g_K_words_93 C ih _ _ _ _ _ _ _ hf)
          · have hf := (if_pos c).symm.trans hf
            refine gw_goto (tgt := 157) C d_K_words_86 (by decide) ?_
            refine gw_iinc (v := x4 + (1 : Int32)) (lv' := [(4, .int (x4 + (1 : Int32))), (0, .ref (ad 0)), (1, .int x1), (2, .int x2), (3, .int x3)]) C 4 d_K_words_157 rfl rfl (by decide) rfl ?_
            refine gw_goto (tgt := 49) C d_K_words_160 (by decide) ?_
            exact gw_sub [1, 2, 3, 4, 0] rfl (ih _ _ _ _ _ hf)
def f_K_words_11 (x1 : Int32) (x2 : Int32) (M : Mem) : Option Mem :=
  om (f_K_put ((97 : Int32) + x1) M) fun M16 => if x2 = 0 then some M16 else gd (inb x1 5) (if x2 = (((1 : Int32) <<< ((M16 1 x1.toNatClampNeg) &&& 31)) - (1 : Int32)) then some M16 else om (f_K_put (32 : Int32) M16) fun M41 => f_K_words_49 100000 x1 x2 (0 : Int32) (0 : Int32) M41)
set_option maxRecDepth 100000 in
theorem g_K_words_11 {M' : Mem} (C : GC p s m args meth c b_K_words 6 (none) "NoneWordsModel" TB D vwCl (tysW cI cZ cC) A Z) {x1 : Int32} {x2 : Int32} {M : Mem} (hf : f_K_words_11 x1 x2 M = some M') : GW p l e rm_K_words s m args below meth c (MQ below (QW D vwCl (tysW cI cZ cC) A none (wk ad cI cZ cC M')) args s 0 0 A) D vwCl A 6 0 0 (wk ad cI cZ cC M) 11 [(0, .ref (ad 0)), (1, .int x1), (2, .int x2)] [] := by
  unfold f_K_words_11 at hf
  refine gw_aload_n C 0 d_K_words_11 rfl rfl ?_
  refine gw_bipush (v := (97 : Int32)) C d_K_words_12 (by decide) ?_
  refine gw_iload_n C 1 d_K_words_14 rfl rfl ?_
  refine gw_iadd C d_K_words_15 ?_
  obtain ⟨M16, hc16, hf⟩ := om_some hf
  refine gw_callVv (rest := []) C 0 wkg_0 clg_5 (c_K_put C.2.2.2.2.2.2.2.2.2.2 hc16) (cwV 1 C.2.2.2.2.1 (gTB_V tw_876 mv_K_put) rfl rfl rfl pd_K_put ⟨Nat.le_of_ble_eq_true rfl, Nat.le_of_ble_eq_true rfl⟩) rfl rfl (Nat.le_of_ble_eq_true rfl) d_K_words_16 ⟨Nat.le_of_ble_eq_true rfl, Nat.le_of_ble_eq_true rfl⟩ ?_
  refine gw_iload_n C 2 d_K_words_19 rfl rfl ?_
  refine gw_if_eq (tgt := 37) C d_K_words_20 (by decide) (fun c => ?_) (fun c => ?_)
  · have hf := (if_pos c).symm.trans hf
    exact gw_vreti C d_K_words_37 (wk ad cI cZ cC) hf
  · have hf := (if_neg c).symm.trans hf
    refine gw_iload_n C 2 d_K_words_23 rfl rfl ?_
    refine gw_iconst (v := (1 : Int32)) C d_K_words_24 (by decide) ?_
    refine gw_aload_n C 0 d_K_words_25 rfl rfl ?_
    refine gw_get C in_K 0 wkg_0 clg_5 1 (by decide) tw_687 rfl rfl d_K_words_26 ?_
    refine gw_iload_n C 1 d_K_words_29 rfl rfl ?_
    obtain ⟨hb30, hf⟩ := gd_some hf
    refine gw_iald C 1 0 wkg_1 rfl hb30 d_K_words_30 ?_
    refine gw_ishl C d_K_words_31 ?_
    refine gw_iconst (v := (1 : Int32)) C d_K_words_32 (by decide) ?_
    refine gw_isub C d_K_words_33 ?_
    refine gw_icmp_ne (tgt := 38) C d_K_words_34 (by decide) (fun c => ?_) (fun c => ?_)
    · have hf := (if_neg c).symm.trans hf
      refine gw_aload_n C 0 d_K_words_38 rfl rfl ?_
      refine gw_bipush (v := (32 : Int32)) C d_K_words_39 (by decide) ?_
      obtain ⟨M41, hc41, hf⟩ := om_some hf
      refine gw_callVv (rest := []) C 0 wkg_0 clg_5 (c_K_put C.2.2.2.2.2.2.2.2.2.2 hc41) (cwV 1 C.2.2.2.2.1 (gTB_V tw_876 mv_K_put) rfl rfl rfl pd_K_put ⟨Nat.le_of_ble_eq_true rfl, Nat.le_of_ble_eq_true rfl⟩) rfl rfl (Nat.le_of_ble_eq_true rfl) d_K_words_41 ⟨Nat.le_of_ble_eq_true rfl, Nat.le_of_ble_eq_true rfl⟩ ?_
      refine gw_iconst (v := (0 : Int32)) C d_K_words_44 (by decide) ?_
      refine gw_istore_n (lv' := [(3, .int (0 : Int32)), (0, .ref (ad 0)), (1, .int x1), (2, .int x2)]) C d_K_words_45 rfl (by decide) rfl ?_
      refine gw_iconst (v := (0 : Int32)) C d_K_words_46 (by decide) ?_
      refine gw_istore (lv' := [(4, .int (0 : Int32)), (3, .int (0 : Int32)), (0, .ref (ad 0)), (1, .int x1), (2, .int x2)]) C d_K_words_47 (by decide) rfl ?_
      exact gw_sub [2, 3, 4, 1, 0] rfl (g_K_words_49 C _ _ _ _ _ _ hf)
    · have hf := (if_pos c).symm.trans hf
      exact gw_vreti C d_K_words_37 (wk ad cI cZ cC) hf
def f_K_words (x1 : Int32) (x2 : Int32) (M : Mem) : Option Mem :=
  if x2 = 0 then om (f_K_say (7237408 : Int64) M) fun M8 => f_K_words_11 x1 x2 M8 else f_K_words_11 x1 x2 M
set_option maxRecDepth 100000 in
theorem g_K_words {M' : Mem} (C : GC p s m args meth c b_K_words 6 (none) "NoneWordsModel" TB D vwCl (tysW cI cZ cC) A Z) {x1 : Int32} {x2 : Int32} {M : Mem} (hf : f_K_words x1 x2 M = some M') : GW p l e rm_K_words s m args below meth c (MQ below (QW D vwCl (tysW cI cZ cC) A none (wk ad cI cZ cC M')) args s 0 0 A) D vwCl A 6 0 0 (wk ad cI cZ cC M) 0 [(0, .ref (ad 0)), (1, .int x1), (2, .int x2)] [] := by
  unfold f_K_words at hf
  refine gw_iload_n C 2 d_K_words_0 rfl rfl ?_
  refine gw_if_ne (tgt := 11) C d_K_words_1 (by decide) (fun c => ?_) (fun c => ?_)
  · have hf := (if_neg c).symm.trans hf
    exact gw_sub [0, 1, 2] rfl (g_K_words_11 C hf)
  · have hf := (if_pos c).symm.trans hf
    refine gw_aload_n C 0 d_K_words_4 rfl rfl ?_
    refine gw_ldc2 (v := (7237408 : Int64)) C d_K_words_5 tw_906 ?_
    obtain ⟨M8, hc8, hf⟩ := om_some hf
    refine gw_callVv (rest := []) C 0 wkg_0 clg_5 (c_K_say C.2.2.2.2.2.2.2.2.2.2 hc8) (cwV 1 C.2.2.2.2.1 (gTB_V tw_871 mv_K_say) rfl rfl rfl pd_K_say ⟨Nat.le_of_ble_eq_true rfl, Nat.le_of_ble_eq_true rfl⟩) rfl rfl (Nat.le_of_ble_eq_true rfl) d_K_words_8 ⟨Nat.le_of_ble_eq_true rfl, Nat.le_of_ble_eq_true rfl⟩ ?_
    exact gw_sub [0, 1, 2] rfl (g_K_words_11 C hf)
theorem c_K_words (hZ : gw_ZOK Z) {x1 : Int32} {x2 : Int32} {M : Mem} {M' : Mem} (hf : f_K_words x1 x2 M = some M') : CW l y_K_words ws_K_words rm_K_words D vwCl (tysW cI cZ cC) Z [.ref (ad 0), .int x1, .int x2] (wk ad cI cZ cC M) none (wk ad cI cZ cC M') 0 0 :=
  CW.ofG hZ (by decide) rfl (Nat.le_of_ble_eq_true rfl) (fun _ _ _ _ _ _ _ _ C _ => g_K_words C hf)
abbrev b_K_leafWords : ByteArray := prog_7_method_23_code
def y_K_leafWords : MethodName := ⟨"NoneWordsModel", "leafWords", "(I)V"⟩
abbrev ws_K_leafWords : List Cond := Cond.code y_K_leafWords b_K_leafWords 2 (none) :: TB
set_option maxRecDepth 100000 in
theorem tc_K_leafWords : Cond.code y_K_leafWords b_K_leafWords 2 (none) ∈ TB := inTB 916 rfl rfl
theorem mv_K_leafWords : Cond.instanceMethod y_K_leafWords ∈ TB ∧ Cond.selects "NoneWordsModel" y_K_leafWords y_K_leafWords ∈ TB ∧ Cond.initialized "NoneWordsModel" ∈ TB ∧ Cond.code y_K_leafWords b_K_leafWords 2 (none) ∈ TB := ⟨inTB 915 (by decide +kernel) (by decide +kernel), inTB 51 (by decide +kernel) (by decide +kernel), inTB 71 (by decide +kernel) (by decide +kernel), tc_K_leafWords⟩
theorem pd_K_leafWords : y_K_leafWords.cls = "NoneWordsModel" ∧ y_K_leafWords.cls ≠ "java/lang/invoke/MethodHandle" ∧ y_K_leafWords.cls ≠ "java/lang/invoke/VarHandle" ∧ (parseMethodDescriptor y_K_leafWords.desc).map (fun d => d.parameters.length) = some 1 := by decide +kernel
theorem d_K_leafWords_0 : decode b_K_leafWords 0 = .ok (.aload_n 0, 1) := by decide +kernel
theorem d_K_leafWords_1 : decode b_K_leafWords 1 = .ok (.aload_n 0, 1) := by decide +kernel
theorem d_K_leafWords_2 : decode b_K_leafWords 2 = .ok (.getfield 16, 3) := by decide +kernel
theorem d_K_leafWords_5 : decode b_K_leafWords 5 = .ok (.iload_n 1, 1) := by decide +kernel
theorem d_K_leafWords_6 : decode b_K_leafWords 6 = .ok (.iaload, 1) := by decide +kernel
theorem d_K_leafWords_7 : decode b_K_leafWords 7 = .ok (.aload_n 0, 1) := by decide +kernel
theorem d_K_leafWords_8 : decode b_K_leafWords 8 = .ok (.getfield 19, 3) := by decide +kernel
theorem d_K_leafWords_11 : decode b_K_leafWords 11 = .ok (.iload_n 1, 1) := by decide +kernel
theorem d_K_leafWords_12 : decode b_K_leafWords 12 = .ok (.iaload, 1) := by decide +kernel
theorem d_K_leafWords_13 : decode b_K_leafWords 13 = .ok (.invokevirtual 141, 3) := by decide +kernel
theorem d_K_leafWords_16 : decode b_K_leafWords 16 = .ok (.aload_n 0, 1) := by decide +kernel
theorem d_K_leafWords_17 : decode b_K_leafWords 17 = .ok (.getfield 13, 3) := by decide +kernel
theorem d_K_leafWords_20 : decode b_K_leafWords 20 = .ok (.iload_n 1, 1) := by decide +kernel
theorem d_K_leafWords_21 : decode b_K_leafWords 21 = .ok (.iaload, 1) := by decide +kernel
theorem d_K_leafWords_22 : decode b_K_leafWords 22 = .ok (.tableswitch 86 0 2 #[26, 43, 69], 26) := by decide +kernel
theorem d_K_leafWords_48 : decode b_K_leafWords 48 = .ok (.aload_n 0, 1) := by decide +kernel
theorem d_K_leafWords_49 : decode b_K_leafWords 49 = .ok (.ldc2_w 144, 3) := by decide +kernel
theorem d_K_leafWords_52 : decode b_K_leafWords 52 = .ok (.invokevirtual 137, 3) := by decide +kernel
theorem d_K_leafWords_55 : decode b_K_leafWords 55 = .ok (.aload_n 0, 1) := by decide +kernel
theorem d_K_leafWords_56 : decode b_K_leafWords 56 = .ok (.ldc2_w 146, 3) := by decide +kernel
theorem d_K_leafWords_59 : decode b_K_leafWords 59 = .ok (.invokevirtual 137, 3) := by decide +kernel
theorem d_K_leafWords_62 : decode b_K_leafWords 62 = .ok (.goto 76, 3) := by decide +kernel
theorem d_K_leafWords_65 : decode b_K_leafWords 65 = .ok (.aload_n 0, 1) := by decide +kernel
theorem d_K_leafWords_66 : decode b_K_leafWords 66 = .ok (.ldc2_w 148, 3) := by decide +kernel
theorem d_K_leafWords_69 : decode b_K_leafWords 69 = .ok (.invokevirtual 137, 3) := by decide +kernel
theorem d_K_leafWords_72 : decode b_K_leafWords 72 = .ok (.aload_n 0, 1) := by decide +kernel
theorem d_K_leafWords_73 : decode b_K_leafWords 73 = .ok (.aload_n 0, 1) := by decide +kernel
theorem d_K_leafWords_74 : decode b_K_leafWords 74 = .ok (.getfield 22, 3) := by decide +kernel
theorem d_K_leafWords_77 : decode b_K_leafWords 77 = .ok (.iload_n 1, 1) := by decide +kernel
theorem d_K_leafWords_78 : decode b_K_leafWords 78 = .ok (.iaload, 1) := by decide +kernel
theorem d_K_leafWords_79 : decode b_K_leafWords 79 = .ok (.aload_n 0, 1) := by decide +kernel
theorem d_K_leafWords_80 : decode b_K_leafWords 80 = .ok (.getfield 25, 3) := by decide +kernel
theorem d_K_leafWords_83 : decode b_K_leafWords 83 = .ok (.iload_n 1, 1) := by decide +kernel
theorem d_K_leafWords_84 : decode b_K_leafWords 84 = .ok (.iaload, 1) := by decide +kernel
theorem d_K_leafWords_85 : decode b_K_leafWords 85 = .ok (.invokevirtual 141, 3) := by decide +kernel
theorem d_K_leafWords_88 : decode b_K_leafWords 88 = .ok (.goto 50, 3) := by decide +kernel
theorem d_K_leafWords_91 : decode b_K_leafWords 91 = .ok (.aload_n 0, 1) := by decide +kernel
theorem d_K_leafWords_92 : decode b_K_leafWords 92 = .ok (.ldc2_w 150, 3) := by decide +kernel
theorem d_K_leafWords_95 : decode b_K_leafWords 95 = .ok (.invokevirtual 137, 3) := by decide +kernel
theorem d_K_leafWords_98 : decode b_K_leafWords 98 = .ok (.aload_n 0, 1) := by decide +kernel
theorem d_K_leafWords_99 : decode b_K_leafWords 99 = .ok (.ldc2_w 152, 3) := by decide +kernel
theorem d_K_leafWords_102 : decode b_K_leafWords 102 = .ok (.invokevirtual 137, 3) := by decide +kernel
theorem d_K_leafWords_105 : decode b_K_leafWords 105 = .ok (.goto 33, 3) := by decide +kernel
theorem d_K_leafWords_108 : decode b_K_leafWords 108 = .ok (.aload_n 0, 1) := by decide +kernel
theorem d_K_leafWords_109 : decode b_K_leafWords 109 = .ok (.ldc2_w 154, 3) := by decide +kernel
theorem d_K_leafWords_112 : decode b_K_leafWords 112 = .ok (.invokevirtual 137, 3) := by decide +kernel
theorem d_K_leafWords_115 : decode b_K_leafWords 115 = .ok (.aload_n 0, 1) := by decide +kernel
theorem d_K_leafWords_116 : decode b_K_leafWords 116 = .ok (.ldc2_w 156, 3) := by decide +kernel
theorem d_K_leafWords_119 : decode b_K_leafWords 119 = .ok (.invokevirtual 137, 3) := by decide +kernel
theorem d_K_leafWords_122 : decode b_K_leafWords 122 = .ok (.aload_n 0, 1) := by decide +kernel
theorem d_K_leafWords_123 : decode b_K_leafWords 123 = .ok (.aload_n 0, 1) := by decide +kernel
theorem d_K_leafWords_124 : decode b_K_leafWords 124 = .ok (.getfield 22, 3) := by decide +kernel
theorem d_K_leafWords_127 : decode b_K_leafWords 127 = .ok (.iload_n 1, 1) := by decide +kernel
theorem d_K_leafWords_128 : decode b_K_leafWords 128 = .ok (.iaload, 1) := by decide +kernel
theorem d_K_leafWords_129 : decode b_K_leafWords 129 = .ok (.aload_n 0, 1) := by decide +kernel
theorem d_K_leafWords_130 : decode b_K_leafWords 130 = .ok (.getfield 25, 3) := by decide +kernel
theorem d_K_leafWords_133 : decode b_K_leafWords 133 = .ok (.iload_n 1, 1) := by decide +kernel
theorem d_K_leafWords_134 : decode b_K_leafWords 134 = .ok (.iaload, 1) := by decide +kernel
theorem d_K_leafWords_135 : decode b_K_leafWords 135 = .ok (.invokevirtual 141, 3) := by decide +kernel
theorem d_K_leafWords_138 : decode b_K_leafWords 138 = .ok (.return_, 1) := by decide +kernel
abbrev rm_K_leafWords : Room := { frames := 3, cells := 0, slots := 0, locals := 69 }
def f_K_leafWords (x1 : Int32) (M : Mem) : Option Mem :=
  gd (inb x1 120) (gd (inb x1 120) (om (f_K_words (M 3 x1.toNatClampNeg) (M 4 x1.toNatClampNeg) M) fun M13 => gd (inb x1 120) (if (M13 2 x1.toNatClampNeg) = (0 : Int32) then om (f_K_say (2335524464679414629 : Int64) M13) fun M52 => om (f_K_say (430040313714 : Int64) M52) fun M59 => some M59 else if (M13 2 x1.toNatClampNeg) = (1 : Int32) then om (f_K_say (9128581026575136 : Int64) M13) fun M69 => gd (inb x1 120) (gd (inb x1 120) (om (f_K_words (M69 5 x1.toNatClampNeg) (M69 6 x1.toNatClampNeg) M69) fun M85 => some M85)) else if (M13 2 x1.toNatClampNeg) = (2 : Int32) then om (f_K_say (2335524465047860328 : Int64) M13) fun M95 => om (f_K_say (431415719790 : Int64) M95) fun M102 => some M102 else om (f_K_say (2334404350278198373 : Int64) M13) fun M112 => om (f_K_say (29472 : Int64) M112) fun M119 => gd (inb x1 120) (gd (inb x1 120) (om (f_K_words (M119 5 x1.toNatClampNeg) (M119 6 x1.toNatClampNeg) M119) fun M135 => some M135)))))
set_option maxRecDepth 100000 in
theorem g_K_leafWords {M' : Mem} (C : GC p s m args meth c b_K_leafWords 2 (none) "NoneWordsModel" TB D vwCl (tysW cI cZ cC) A Z) {x1 : Int32} {M : Mem} (hf : f_K_leafWords x1 M = some M') : GW p l e rm_K_leafWords s m args below meth c (MQ below (QW D vwCl (tysW cI cZ cC) A none (wk ad cI cZ cC M')) args s 0 0 A) D vwCl A 2 0 0 (wk ad cI cZ cC M) 0 [(0, .ref (ad 0)), (1, .int x1)] [] := by
  unfold f_K_leafWords at hf
  refine gw_aload_n C 0 d_K_leafWords_0 rfl rfl ?_
  refine gw_aload_n C 0 d_K_leafWords_1 rfl rfl ?_
  refine gw_get C in_K 0 wkg_0 clg_5 5 (by decide) tw_691 rfl rfl d_K_leafWords_2 ?_
  refine gw_iload_n C 1 d_K_leafWords_5 rfl rfl ?_
  obtain ⟨hb6, hf⟩ := gd_some hf
  refine gw_iald C 3 0 wkg_3 rfl hb6 d_K_leafWords_6 ?_
  refine gw_aload_n C 0 d_K_leafWords_7 rfl rfl ?_
  refine gw_get C in_K 0 wkg_0 clg_5 6 (by decide) tw_692 rfl rfl d_K_leafWords_8 ?_
  refine gw_iload_n C 1 d_K_leafWords_11 rfl rfl ?_
  obtain ⟨hb12, hf⟩ := gd_some hf
  refine gw_iald C 4 0 wkg_4 rfl hb12 d_K_leafWords_12 ?_
  obtain ⟨M13, hc13, hf⟩ := om_some hf
  refine gw_callVv (rest := []) C 0 wkg_0 clg_5 (c_K_words C.2.2.2.2.2.2.2.2.2.2 hc13) (cwV 2 C.2.2.2.2.1 (gTB_V tw_902 mv_K_words) rfl rfl rfl pd_K_words ⟨Nat.le_of_ble_eq_true rfl, Nat.le_of_ble_eq_true rfl⟩) rfl rfl (Nat.le_of_ble_eq_true rfl) d_K_leafWords_13 ⟨Nat.le_of_ble_eq_true rfl, Nat.le_of_ble_eq_true rfl⟩ ?_
  refine gw_aload_n C 0 d_K_leafWords_16 rfl rfl ?_
  refine gw_get C in_K 0 wkg_0 clg_5 4 (by decide) tw_690 rfl rfl d_K_leafWords_17 ?_
  refine gw_iload_n C 1 d_K_leafWords_20 rfl rfl ?_
  obtain ⟨hb21, hf⟩ := gd_some hf
  refine gw_iald C 2 0 wkg_2 rfl hb21 d_K_leafWords_21 ?_
  by_cases c0 : (M13 2 x1.toNatClampNeg) = (0 : Int32)
  · have hf := (if_pos c0).symm.trans hf
    refine gw_tableIn (tgt := 48) C (0 : Int32) c0 d_K_leafWords_22 (by decide) (by decide) rfl (by decide) ?_
    refine gw_aload_n C 0 d_K_leafWords_48 rfl rfl ?_
    refine gw_ldc2 (v := (2335524464679414629 : Int64)) C d_K_leafWords_49 tw_917 ?_
    obtain ⟨M52, hc52, hf⟩ := om_some hf
    refine gw_callVv (rest := []) C 0 wkg_0 clg_5 (c_K_say C.2.2.2.2.2.2.2.2.2.2 hc52) (cwV 1 C.2.2.2.2.1 (gTB_V tw_871 mv_K_say) rfl rfl rfl pd_K_say ⟨Nat.le_of_ble_eq_true rfl, Nat.le_of_ble_eq_true rfl⟩) rfl rfl (Nat.le_of_ble_eq_true rfl) d_K_leafWords_52 ⟨Nat.le_of_ble_eq_true rfl, Nat.le_of_ble_eq_true rfl⟩ ?_
    refine gw_aload_n C 0 d_K_leafWords_55 rfl rfl ?_
    refine gw_ldc2 (v := (430040313714 : Int64)) C d_K_leafWords_56 tw_918 ?_
    obtain ⟨M59, hc59, hf⟩ := om_some hf
    refine gw_callVv (rest := []) C 0 wkg_0 clg_5 (c_K_say C.2.2.2.2.2.2.2.2.2.2 hc59) (cwV 1 C.2.2.2.2.1 (gTB_V tw_871 mv_K_say) rfl rfl rfl pd_K_say ⟨Nat.le_of_ble_eq_true rfl, Nat.le_of_ble_eq_true rfl⟩) rfl rfl (Nat.le_of_ble_eq_true rfl) d_K_leafWords_59 ⟨Nat.le_of_ble_eq_true rfl, Nat.le_of_ble_eq_true rfl⟩ ?_
    refine gw_goto (tgt := 138) C d_K_leafWords_62 (by decide) ?_
    exact gw_vreti C d_K_leafWords_138 (wk ad cI cZ cC) hf
  · have hf := (if_neg c0).symm.trans hf
    by_cases c1 : (M13 2 x1.toNatClampNeg) = (1 : Int32)
    · have hf := (if_pos c1).symm.trans hf
      refine gw_tableIn (tgt := 65) C (1 : Int32) c1 d_K_leafWords_22 (by decide) (by decide) rfl (by decide) ?_
      refine gw_aload_n C 0 d_K_leafWords_65 rfl rfl ?_
      refine gw_ldc2 (v := (9128581026575136 : Int64)) C d_K_leafWords_66 tw_919 ?_
      obtain ⟨M69, hc69, hf⟩ := om_some hf
      refine gw_callVv (rest := []) C 0 wkg_0 clg_5 (c_K_say C.2.2.2.2.2.2.2.2.2.2 hc69) (cwV 1 C.2.2.2.2.1 (gTB_V tw_871 mv_K_say) rfl rfl rfl pd_K_say ⟨Nat.le_of_ble_eq_true rfl, Nat.le_of_ble_eq_true rfl⟩) rfl rfl (Nat.le_of_ble_eq_true rfl) d_K_leafWords_69 ⟨Nat.le_of_ble_eq_true rfl, Nat.le_of_ble_eq_true rfl⟩ ?_
      refine gw_aload_n C 0 d_K_leafWords_72 rfl rfl ?_
      refine gw_aload_n C 0 d_K_leafWords_73 rfl rfl ?_
      refine gw_get C in_K 0 wkg_0 clg_5 7 (by decide) tw_693 rfl rfl d_K_leafWords_74 ?_
      refine gw_iload_n C 1 d_K_leafWords_77 rfl rfl ?_
      obtain ⟨hb78, hf⟩ := gd_some hf
      refine gw_iald C 5 0 wkg_5 rfl hb78 d_K_leafWords_78 ?_
      refine gw_aload_n C 0 d_K_leafWords_79 rfl rfl ?_
      refine gw_get C in_K 0 wkg_0 clg_5 8 (by decide) tw_694 rfl rfl d_K_leafWords_80 ?_
      refine gw_iload_n C 1 d_K_leafWords_83 rfl rfl ?_
      obtain ⟨hb84, hf⟩ := gd_some hf
      refine gw_iald C 6 0 wkg_6 rfl hb84 d_K_leafWords_84 ?_
      obtain ⟨M85, hc85, hf⟩ := om_some hf
      refine gw_callVv (rest := []) C 0 wkg_0 clg_5 (c_K_words C.2.2.2.2.2.2.2.2.2.2 hc85) (cwV 2 C.2.2.2.2.1 (gTB_V tw_902 mv_K_words) rfl rfl rfl pd_K_words ⟨Nat.le_of_ble_eq_true rfl, Nat.le_of_ble_eq_true rfl⟩) rfl rfl (Nat.le_of_ble_eq_true rfl) d_K_leafWords_85 ⟨Nat.le_of_ble_eq_true rfl, Nat.le_of_ble_eq_true rfl⟩ ?_
      refine gw_goto (tgt := 138) C d_K_leafWords_88 (by decide) ?_
      exact gw_vreti C d_K_leafWords_138 (wk ad cI cZ cC) hf
    · have hf := (if_neg c1).symm.trans hf
      by_cases c2 : (M13 2 x1.toNatClampNeg) = (2 : Int32)
      · have hf := (if_pos c2).symm.trans hf
        refine gw_tableIn (tgt := 91) C (2 : Int32) c2 d_K_leafWords_22 (by decide) (by decide) rfl (by decide) ?_
        refine gw_aload_n C 0 d_K_leafWords_91 rfl rfl ?_
        refine gw_ldc2 (v := (2335524465047860328 : Int64)) C d_K_leafWords_92 tw_920 ?_
        obtain ⟨M95, hc95, hf⟩ := om_some hf
        refine gw_callVv (rest := []) C 0 wkg_0 clg_5 (c_K_say C.2.2.2.2.2.2.2.2.2.2 hc95) (cwV 1 C.2.2.2.2.1 (gTB_V tw_871 mv_K_say) rfl rfl rfl pd_K_say ⟨Nat.le_of_ble_eq_true rfl, Nat.le_of_ble_eq_true rfl⟩) rfl rfl (Nat.le_of_ble_eq_true rfl) d_K_leafWords_95 ⟨Nat.le_of_ble_eq_true rfl, Nat.le_of_ble_eq_true rfl⟩ ?_
        refine gw_aload_n C 0 d_K_leafWords_98 rfl rfl ?_
        refine gw_ldc2 (v := (431415719790 : Int64)) C d_K_leafWords_99 tw_921 ?_
        obtain ⟨M102, hc102, hf⟩ := om_some hf
        refine gw_callVv (rest := []) C 0 wkg_0 clg_5 (c_K_say C.2.2.2.2.2.2.2.2.2.2 hc102) (cwV 1 C.2.2.2.2.1 (gTB_V tw_871 mv_K_say) rfl rfl rfl pd_K_say ⟨Nat.le_of_ble_eq_true rfl, Nat.le_of_ble_eq_true rfl⟩) rfl rfl (Nat.le_of_ble_eq_true rfl) d_K_leafWords_102 ⟨Nat.le_of_ble_eq_true rfl, Nat.le_of_ble_eq_true rfl⟩ ?_
        refine gw_goto (tgt := 138) C d_K_leafWords_105 (by decide) ?_
        exact gw_vreti C d_K_leafWords_138 (wk ad cI cZ cC) hf
      · have hf := (if_neg c2).symm.trans hf
        refine gw_tableOut (tgt := 108) C d_K_leafWords_22 (by have zc0 := lv_neT c0 (a := 0) (by decide); have zc1 := lv_neT c1 (a := 1) (by decide); have zc2 := lv_neT c2 (a := 2) (by decide); omega) (by decide) ?_
        refine gw_aload_n C 0 d_K_leafWords_108 rfl rfl ?_
        refine gw_ldc2 (v := (2334404350278198373 : Int64)) C d_K_leafWords_109 tw_922 ?_
        obtain ⟨M112, hc112, hf⟩ := om_some hf
        refine gw_callVv (rest := []) C 0 wkg_0 clg_5 (c_K_say C.2.2.2.2.2.2.2.2.2.2 hc112) (cwV 1 C.2.2.2.2.1 (gTB_V tw_871 mv_K_say) rfl rfl rfl pd_K_say ⟨Nat.le_of_ble_eq_true rfl, Nat.le_of_ble_eq_true rfl⟩) rfl rfl (Nat.le_of_ble_eq_true rfl) d_K_leafWords_112 ⟨Nat.le_of_ble_eq_true rfl, Nat.le_of_ble_eq_true rfl⟩ ?_
        refine gw_aload_n C 0 d_K_leafWords_115 rfl rfl ?_
        refine gw_ldc2 (v := (29472 : Int64)) C d_K_leafWords_116 tw_923 ?_
        obtain ⟨M119, hc119, hf⟩ := om_some hf
        refine gw_callVv (rest := []) C 0 wkg_0 clg_5 (c_K_say C.2.2.2.2.2.2.2.2.2.2 hc119) (cwV 1 C.2.2.2.2.1 (gTB_V tw_871 mv_K_say) rfl rfl rfl pd_K_say ⟨Nat.le_of_ble_eq_true rfl, Nat.le_of_ble_eq_true rfl⟩) rfl rfl (Nat.le_of_ble_eq_true rfl) d_K_leafWords_119 ⟨Nat.le_of_ble_eq_true rfl, Nat.le_of_ble_eq_true rfl⟩ ?_
        refine gw_aload_n C 0 d_K_leafWords_122 rfl rfl ?_
        refine gw_aload_n C 0 d_K_leafWords_123 rfl rfl ?_
        refine gw_get C in_K 0 wkg_0 clg_5 7 (by decide) tw_693 rfl rfl d_K_leafWords_124 ?_
        refine gw_iload_n C 1 d_K_leafWords_127 rfl rfl ?_
        obtain ⟨hb128, hf⟩ := gd_some hf
        refine gw_iald C 5 0 wkg_5 rfl hb128 d_K_leafWords_128 ?_
        refine gw_aload_n C 0 d_K_leafWords_129 rfl rfl ?_
        refine gw_get C in_K 0 wkg_0 clg_5 8 (by decide) tw_694 rfl rfl d_K_leafWords_130 ?_
        refine gw_iload_n C 1 d_K_leafWords_133 rfl rfl ?_
        obtain ⟨hb134, hf⟩ := gd_some hf
        refine gw_iald C 6 0 wkg_6 rfl hb134 d_K_leafWords_134 ?_
        obtain ⟨M135, hc135, hf⟩ := om_some hf
        refine gw_callVv (rest := []) C 0 wkg_0 clg_5 (c_K_words C.2.2.2.2.2.2.2.2.2.2 hc135) (cwV 2 C.2.2.2.2.1 (gTB_V tw_902 mv_K_words) rfl rfl rfl pd_K_words ⟨Nat.le_of_ble_eq_true rfl, Nat.le_of_ble_eq_true rfl⟩) rfl rfl (Nat.le_of_ble_eq_true rfl) d_K_leafWords_135 ⟨Nat.le_of_ble_eq_true rfl, Nat.le_of_ble_eq_true rfl⟩ ?_
        exact gw_vreti C d_K_leafWords_138 (wk ad cI cZ cC) hf
theorem c_K_leafWords (hZ : gw_ZOK Z) {x1 : Int32} {M : Mem} {M' : Mem} (hf : f_K_leafWords x1 M = some M') : CW l y_K_leafWords ws_K_leafWords rm_K_leafWords D vwCl (tysW cI cZ cC) Z [.ref (ad 0), .int x1] (wk ad cI cZ cC M) none (wk ad cI cZ cC M') 0 0 :=
  CW.ofG hZ (by decide) rfl (Nat.le_of_ble_eq_true rfl) (fun _ _ _ _ _ _ _ _ C _ => g_K_leafWords C hf)
abbrev b_K_row : ByteArray := prog_7_method_24_code
def y_K_row : MethodName := ⟨"NoneWordsModel", "row", "(IZ)I"⟩
abbrev ws_K_row : List Cond := Cond.code y_K_row b_K_row 5 (some (FieldType.int)) :: TB
set_option maxRecDepth 100000 in
theorem tc_K_row : Cond.code y_K_row b_K_row 5 (some (FieldType.int)) ∈ TB := inTB 899 rfl rfl
theorem mv_K_row : Cond.instanceMethod y_K_row ∈ TB ∧ Cond.selects "NoneWordsModel" y_K_row y_K_row ∈ TB ∧ Cond.initialized "NoneWordsModel" ∈ TB ∧ Cond.code y_K_row b_K_row 5 (some (FieldType.int)) ∈ TB := ⟨inTB 898 (by decide +kernel) (by decide +kernel), inTB 49 (by decide +kernel) (by decide +kernel), inTB 71 (by decide +kernel) (by decide +kernel), tc_K_row⟩
theorem pd_K_row : y_K_row.cls = "NoneWordsModel" ∧ y_K_row.cls ≠ "java/lang/invoke/MethodHandle" ∧ y_K_row.cls ≠ "java/lang/invoke/VarHandle" ∧ (parseMethodDescriptor y_K_row.desc).map (fun d => d.parameters.length) = some 2 := by decide +kernel
theorem d_K_row_0 : decode b_K_row 0 = .ok (.iconst 0, 1) := by decide +kernel
theorem d_K_row_1 : decode b_K_row 1 = .ok (.istore_n 3, 1) := by decide +kernel
theorem d_K_row_2 : decode b_K_row 2 = .ok (.iconst 0, 1) := by decide +kernel
theorem d_K_row_3 : decode b_K_row 3 = .ok (.istore 4, 2) := by decide +kernel
theorem d_K_row_5 : decode b_K_row 5 = .ok (.iload 4, 2) := by decide +kernel
theorem d_K_row_7 : decode b_K_row 7 = .ok (.aload_n 0, 1) := by decide +kernel
theorem d_K_row_8 : decode b_K_row 8 = .ok (.getfield 76, 3) := by decide +kernel
theorem d_K_row_11 : decode b_K_row 11 = .ok (.if_icmp .ge 83, 3) := by decide +kernel
theorem d_K_row_14 : decode b_K_row 14 = .ok (.aload_n 0, 1) := by decide +kernel
theorem d_K_row_15 : decode b_K_row 15 = .ok (.getfield 28, 3) := by decide +kernel
theorem d_K_row_18 : decode b_K_row 18 = .ok (.iload_n 1, 1) := by decide +kernel
theorem d_K_row_19 : decode b_K_row 19 = .ok (.iload 4, 2) := by decide +kernel
theorem d_K_row_21 : decode b_K_row 21 = .ok (.invokestatic 82, 3) := by decide +kernel
theorem d_K_row_24 : decode b_K_row 24 = .ok (.baload, 1) := by decide +kernel
theorem d_K_row_25 : decode b_K_row 25 = .ok (.ifCond .eq 63, 3) := by decide +kernel
theorem d_K_row_28 : decode b_K_row 28 = .ok (.aload_n 0, 1) := by decide +kernel
theorem d_K_row_29 : decode b_K_row 29 = .ok (.iload_n 1, 1) := by decide +kernel
theorem d_K_row_30 : decode b_K_row 30 = .ok (.iload 4, 2) := by decide +kernel
theorem d_K_row_32 : decode b_K_row 32 = .ok (.invokevirtual 115, 3) := by decide +kernel
theorem d_K_row_35 : decode b_K_row 35 = .ok (.iload_n 2, 1) := by decide +kernel
theorem d_K_row_36 : decode b_K_row 36 = .ok (.if_icmp .eq 6, 3) := by decide +kernel
theorem d_K_row_39 : decode b_K_row 39 = .ok (.goto 49, 3) := by decide +kernel
theorem d_K_row_42 : decode b_K_row 42 = .ok (.iload_n 3, 1) := by decide +kernel
theorem d_K_row_43 : decode b_K_row 43 = .ok (.ifCond .le 14, 3) := by decide +kernel
theorem d_K_row_46 : decode b_K_row 46 = .ok (.iload_n 2, 1) := by decide +kernel
theorem d_K_row_47 : decode b_K_row 47 = .ok (.ifCond .eq 10, 3) := by decide +kernel
theorem d_K_row_50 : decode b_K_row 50 = .ok (.aload_n 0, 1) := by decide +kernel
theorem d_K_row_51 : decode b_K_row 51 = .ok (.ldc2_w 158, 3) := by decide +kernel
theorem d_K_row_54 : decode b_K_row 54 = .ok (.invokevirtual 137, 3) := by decide +kernel
theorem d_K_row_57 : decode b_K_row 57 = .ok (.iload_n 3, 1) := by decide +kernel
theorem d_K_row_58 : decode b_K_row 58 = .ok (.ifCond .le 14, 3) := by decide +kernel
theorem d_K_row_61 : decode b_K_row 61 = .ok (.iload_n 2, 1) := by decide +kernel
theorem d_K_row_62 : decode b_K_row 62 = .ok (.ifCond .ne 10, 3) := by decide +kernel
theorem d_K_row_65 : decode b_K_row 65 = .ok (.aload_n 0, 1) := by decide +kernel
theorem d_K_row_66 : decode b_K_row 66 = .ok (.ldc2_w 160, 3) := by decide +kernel
theorem d_K_row_69 : decode b_K_row 69 = .ok (.invokevirtual 137, 3) := by decide +kernel
theorem d_K_row_72 : decode b_K_row 72 = .ok (.aload_n 0, 1) := by decide +kernel
theorem d_K_row_73 : decode b_K_row 73 = .ok (.iload 4, 2) := by decide +kernel
theorem d_K_row_75 : decode b_K_row 75 = .ok (.aload_n 0, 1) := by decide +kernel
theorem d_K_row_76 : decode b_K_row 76 = .ok (.iload_n 1, 1) := by decide +kernel
theorem d_K_row_77 : decode b_K_row 77 = .ok (.iload 4, 2) := by decide +kernel
theorem d_K_row_79 : decode b_K_row 79 = .ok (.invokevirtual 123, 3) := by decide +kernel
theorem d_K_row_82 : decode b_K_row 82 = .ok (.invokevirtual 141, 3) := by decide +kernel
theorem d_K_row_85 : decode b_K_row 85 = .ok (.iinc 3 1, 3) := by decide +kernel
theorem d_K_row_88 : decode b_K_row 88 = .ok (.iinc 4 1, 3) := by decide +kernel
theorem d_K_row_91 : decode b_K_row 91 = .ok (.goto (-86), 3) := by decide +kernel
theorem d_K_row_94 : decode b_K_row 94 = .ok (.iload_n 3, 1) := by decide +kernel
theorem d_K_row_95 : decode b_K_row 95 = .ok (.ireturn, 1) := by decide +kernel
abbrev rm_K_row : Room := { frames := 4, cells := 0, slots := 0, locals := 90 }
def f_K_row_72 (k5 : Int32 → Int32 → Int32 → Int32 → Mem → Option (Int32 × Mem)) (x1 : Int32) (x2 : Int32) (x3 : Int32) (x4 : Int32) (M : Mem) : Option (Int32 × Mem) :=
  ob (f_K_setOf x1 x4 M) fun r79 M79 => om (f_K_words x4 r79 M79) fun M82 => k5 x1 x2 (x3 + (1 : Int32)) (x4 + (1 : Int32)) M82
set_option maxRecDepth 100000 in
theorem g_K_row_72 {r : Int32} {M' : Mem} (C : GC p s m args meth c b_K_row 5 (some (FieldType.int)) "NoneWordsModel" TB D vwCl (tysW cI cZ cC) A Z) {k5 : Int32 → Int32 → Int32 → Int32 → Mem → Option (Int32 × Mem)} (hk5 : ∀ (x1 : Int32) (x2 : Int32) (x3 : Int32) (x4 : Int32) (M : Mem), k5 x1 x2 x3 x4 M = some (r, M') → GW p l e rm_K_row s m args below meth c (MQ below (QW D vwCl (tysW cI cZ cC) A (some (.int r)) (wk ad cI cZ cC M')) args s 0 0 A) D vwCl A 5 0 0 (wk ad cI cZ cC M) 5 [(0, .ref (ad 0)), (1, .int x1), (2, .int x2), (3, .int x3), (4, .int x4)] []) {x1 : Int32} {x2 : Int32} {x3 : Int32} {x4 : Int32} {M : Mem} (hf : f_K_row_72 k5 x1 x2 x3 x4 M = some (r, M')) : GW p l e rm_K_row s m args below meth c (MQ below (QW D vwCl (tysW cI cZ cC) A (some (.int r)) (wk ad cI cZ cC M')) args s 0 0 A) D vwCl A 5 0 0 (wk ad cI cZ cC M) 72 [(0, .ref (ad 0)), (1, .int x1), (2, .int x2), (3, .int x3), (4, .int x4)] [] := by
  unfold f_K_row_72 at hf
  refine gw_aload_n C 0 d_K_row_72 rfl rfl ?_
  refine gw_iload C 4 d_K_row_73 rfl ?_
  refine gw_aload_n C 0 d_K_row_75 rfl rfl ?_
  refine gw_iload_n C 1 d_K_row_76 rfl rfl ?_
  refine gw_iload C 4 d_K_row_77 rfl ?_
  obtain ⟨r79, M79, hc79, hf⟩ := ob_some hf
  refine gw_callVr (rest := [.int x4, .ref (ad 0)]) C 0 wkg_0 clg_5 (c_K_setOf C.2.2.2.2.2.2.2.2.2.2 hc79) (cwV 2 C.2.2.2.2.1 (gTB_V tw_830 mv_K_setOf) rfl rfl rfl pd_K_setOf ⟨Nat.le_of_ble_eq_true rfl, Nat.le_of_ble_eq_true rfl⟩) rfl rfl (Nat.le_of_ble_eq_true rfl) d_K_row_79 ⟨Nat.le_of_ble_eq_true rfl, Nat.le_of_ble_eq_true rfl⟩ ?_
  obtain ⟨M82, hc82, hf⟩ := om_some hf
  refine gw_callVv (rest := []) C 0 wkg_0 clg_5 (c_K_words C.2.2.2.2.2.2.2.2.2.2 hc82) (cwV 2 C.2.2.2.2.1 (gTB_V tw_902 mv_K_words) rfl rfl rfl pd_K_words ⟨Nat.le_of_ble_eq_true rfl, Nat.le_of_ble_eq_true rfl⟩) rfl rfl (Nat.le_of_ble_eq_true rfl) d_K_row_82 ⟨Nat.le_of_ble_eq_true rfl, Nat.le_of_ble_eq_true rfl⟩ ?_
  refine gw_iinc (v := x3 + (1 : Int32)) (lv' := [(3, .int (x3 + (1 : Int32))), (0, .ref (ad 0)), (1, .int x1), (2, .int x2), (4, .int x4)]) C 3 d_K_row_85 rfl rfl (by decide) rfl ?_
  refine gw_iinc (v := x4 + (1 : Int32)) (lv' := [(4, .int (x4 + (1 : Int32))), (3, .int (x3 + (1 : Int32))), (0, .ref (ad 0)), (1, .int x1), (2, .int x2)]) C 4 d_K_row_88 rfl rfl (by decide) rfl ?_
  refine gw_goto (tgt := 5) C d_K_row_91 (by decide) ?_
  exact gw_sub [2, 3, 4, 1, 0] rfl (hk5 _ _ _ _ _ hf)
def f_K_row_57 (k5 : Int32 → Int32 → Int32 → Int32 → Mem → Option (Int32 × Mem)) (x1 : Int32) (x2 : Int32) (x3 : Int32) (x4 : Int32) (M : Mem) : Option (Int32 × Mem) :=
  if x3 ≤ 0 then f_K_row_72 k5 x1 x2 x3 x4 M else if x2 = 0 then om (f_K_say (544174624 : Int64) M) fun M69 => f_K_row_72 k5 x1 x2 x3 x4 M69 else f_K_row_72 k5 x1 x2 x3 x4 M
set_option maxRecDepth 100000 in
theorem g_K_row_57 {r : Int32} {M' : Mem} (C : GC p s m args meth c b_K_row 5 (some (FieldType.int)) "NoneWordsModel" TB D vwCl (tysW cI cZ cC) A Z) {k5 : Int32 → Int32 → Int32 → Int32 → Mem → Option (Int32 × Mem)} (hk5 : ∀ (x1 : Int32) (x2 : Int32) (x3 : Int32) (x4 : Int32) (M : Mem), k5 x1 x2 x3 x4 M = some (r, M') → GW p l e rm_K_row s m args below meth c (MQ below (QW D vwCl (tysW cI cZ cC) A (some (.int r)) (wk ad cI cZ cC M')) args s 0 0 A) D vwCl A 5 0 0 (wk ad cI cZ cC M) 5 [(0, .ref (ad 0)), (1, .int x1), (2, .int x2), (3, .int x3), (4, .int x4)] []) {x1 : Int32} {x2 : Int32} {x3 : Int32} {x4 : Int32} {M : Mem} (hf : f_K_row_57 k5 x1 x2 x3 x4 M = some (r, M')) : GW p l e rm_K_row s m args below meth c (MQ below (QW D vwCl (tysW cI cZ cC) A (some (.int r)) (wk ad cI cZ cC M')) args s 0 0 A) D vwCl A 5 0 0 (wk ad cI cZ cC M) 57 [(0, .ref (ad 0)), (1, .int x1), (2, .int x2), (3, .int x3), (4, .int x4)] [] := by
  unfold f_K_row_57 at hf
  refine gw_iload_n C 3 d_K_row_57 rfl rfl ?_
  refine gw_if_le (tgt := 72) C d_K_row_58 (by decide) (fun c => ?_) (fun c => ?_)
  · have hf := (if_pos c).symm.trans hf
    exact gw_sub [0, 1, 2, 3, 4] rfl (g_K_row_72 C hk5 hf)
  · have hf := (if_neg c).symm.trans hf
    refine gw_iload_n C 2 d_K_row_61 rfl rfl ?_
    refine gw_if_ne (tgt := 72) C d_K_row_62 (by decide) (fun c => ?_) (fun c => ?_)
    · have hf := (if_neg c).symm.trans hf
      exact gw_sub [0, 1, 2, 3, 4] rfl (g_K_row_72 C hk5 hf)
    · have hf := (if_pos c).symm.trans hf
      refine gw_aload_n C 0 d_K_row_65 rfl rfl ?_
      refine gw_ldc2 (v := (544174624 : Int64)) C d_K_row_66 tw_901 ?_
      obtain ⟨M69, hc69, hf⟩ := om_some hf
      refine gw_callVv (rest := []) C 0 wkg_0 clg_5 (c_K_say C.2.2.2.2.2.2.2.2.2.2 hc69) (cwV 1 C.2.2.2.2.1 (gTB_V tw_871 mv_K_say) rfl rfl rfl pd_K_say ⟨Nat.le_of_ble_eq_true rfl, Nat.le_of_ble_eq_true rfl⟩) rfl rfl (Nat.le_of_ble_eq_true rfl) d_K_row_69 ⟨Nat.le_of_ble_eq_true rfl, Nat.le_of_ble_eq_true rfl⟩ ?_
      exact gw_sub [0, 1, 2, 3, 4] rfl (g_K_row_72 C hk5 hf)
def f_K_row_5 : Nat → Int32 → Int32 → Int32 → Int32 → Mem → Option (Int32 × Mem)
  | 0, _, _, _, _, _ => none
  | n + 1, x1, x2, x3, x4, M => if (M 0 2) ≤ x4 then some (x3, M) else ob (f_K_place x1 x4 M) fun r21 M21 => gd (inb r21 600) (if (M21 7 r21.toNatClampNeg) = 0 then (f_K_row_5 n) x1 x2 x3 (x4 + (1 : Int32)) M21 else ob (f_K_isWanted x1 x4 M21) fun r32 M32 => if r32 = x2 then if x3 ≤ 0 then f_K_row_57 (f_K_row_5 n) x1 x2 x3 x4 M32 else if x2 = 0 then f_K_row_57 (f_K_row_5 n) x1 x2 x3 x4 M32 else om (f_K_say (139073578016 : Int64) M32) fun M54 => f_K_row_57 (f_K_row_5 n) x1 x2 x3 x4 M54 else (f_K_row_5 n) x1 x2 x3 (x4 + (1 : Int32)) M32)
set_option maxRecDepth 100000 in
theorem g_K_row_5 {r : Int32} {M' : Mem} (C : GC p s m args meth c b_K_row 5 (some (FieldType.int)) "NoneWordsModel" TB D vwCl (tysW cI cZ cC) A Z) : ∀ (n : Nat) (x1 : Int32) (x2 : Int32) (x3 : Int32) (x4 : Int32) (M : Mem), f_K_row_5 n x1 x2 x3 x4 M = some (r, M') → GW p l e rm_K_row s m args below meth c (MQ below (QW D vwCl (tysW cI cZ cC) A (some (.int r)) (wk ad cI cZ cC M')) args s 0 0 A) D vwCl A 5 0 0 (wk ad cI cZ cC M) 5 [(0, .ref (ad 0)), (1, .int x1), (2, .int x2), (3, .int x3), (4, .int x4)] [] := by
  intro n
  induction n with
  | zero => intro _ _ _ _ _ hf; cases hf
  | succ n ih =>
    intro x1 x2 x3 x4 M hf
    rw [f_K_row_5] at hf
    refine gw_iload C 4 d_K_row_5 rfl ?_
    refine gw_aload_n C 0 d_K_row_7 rfl rfl ?_
    refine gw_get C in_K 0 wkg_0 clg_5 2 (by decide) tw_688 rfl rfl d_K_row_8 ?_
    refine gw_icmp_ge (tgt := 94) C d_K_row_11 (by decide) (fun c => ?_) (fun c => ?_)
    · have hf := (if_pos c).symm.trans hf
      refine gw_iload_n C 3 d_K_row_94 rfl rfl ?_
      exact gw_ireti C d_K_row_95 (wk ad cI cZ cC) hf
    · have hf := (if_neg c).symm.trans hf
      refine gw_aload_n C 0 d_K_row_14 rfl rfl ?_
      refine gw_get C in_K 0 wkg_0 clg_5 9 (by decide) tw_695 rfl rfl d_K_row_15 ?_
      refine gw_iload_n C 1 d_K_row_18 rfl rfl ?_
      refine gw_iload C 4 d_K_row_19 rfl ?_
      obtain ⟨r21, M21, hc21, hf⟩ := ob_some hf
      refine gw_callSr (rest := [.ref (ad 7)]) C (c_K_place C.2.2.2.2.2.2.2.2.2.2 hc21) (cwS 2 C.2.2.2.2.1 (gTB_S tw_787 mv_K_place) rfl rfl rfl pd_K_place ⟨Nat.le_of_ble_eq_true rfl, Nat.le_of_ble_eq_true rfl⟩) rfl rfl (Nat.le_of_ble_eq_true rfl) d_K_row_21 ⟨Nat.le_of_ble_eq_true rfl, Nat.le_of_ble_eq_true rfl⟩ ?_
      obtain ⟨hb24, hf⟩ := gd_some hf
      refine gw_zald C 7 1 wkg_7 rfl hb24 d_K_row_24 ?_
      refine gw_if_eq (tgt := 88) C d_K_row_25 (by decide) (fun c => ?_) (fun c => ?_)
      · have hf := (if_pos c).symm.trans hf
        refine gw_iinc (v := x4 + (1 : Int32)) (lv' := [(4, .int (x4 + (1 : Int32))), (0, .ref (ad 0)), (1, .int x1), (2, .int x2), (3, .int x3)]) C 4 d_K_row_88 rfl rfl (by decide) rfl ?_
        refine gw_goto (tgt := 5) C d_K_row_91 (by decide) ?_
        exact gw_sub [1, 2, 3, 4, 0] rfl (ih _ _ _ _ _ hf)
      · have hf := (if_neg c).symm.trans hf
        refine gw_aload_n C 0 d_K_row_28 rfl rfl ?_
        refine gw_iload_n C 1 d_K_row_29 rfl rfl ?_
        refine gw_iload C 4 d_K_row_30 rfl ?_
        obtain ⟨r32, M32, hc32, hf⟩ := ob_some hf
        refine gw_callVr (rest := []) C 0 wkg_0 clg_5 (c_K_isWanted C.2.2.2.2.2.2.2.2.2.2 hc32) (cwV 2 C.2.2.2.2.1 (gTB_V tw_834 mv_K_isWanted) rfl rfl rfl pd_K_isWanted ⟨Nat.le_of_ble_eq_true rfl, Nat.le_of_ble_eq_true rfl⟩) rfl rfl (Nat.le_of_ble_eq_true rfl) d_K_row_32 ⟨Nat.le_of_ble_eq_true rfl, Nat.le_of_ble_eq_true rfl⟩ ?_
        refine gw_iload_n C 2 d_K_row_35 rfl rfl ?_
        refine gw_icmp_eq (tgt := 42) C d_K_row_36 (by decide) (fun c => ?_) (fun c => ?_)
        · have hf := (if_pos c).symm.trans hf
          refine gw_iload_n C 3 d_K_row_42 rfl rfl ?_
          refine gw_if_le (tgt := 57) C d_K_row_43 (by decide) (fun c => ?_) (fun c => ?_)
          · have hf := (if_pos c).symm.trans hf
            exact gw_sub [0, 1, 2, 3, 4] rfl (g_K_row_57 C ih hf)
          · have hf := (if_neg c).symm.trans hf
            refine gw_iload_n C 2 d_K_row_46 rfl rfl ?_
            refine gw_if_eq (tgt := 57) C d_K_row_47 (by decide) (fun c => ?_) (fun c => ?_)
            · have hf := (if_pos c).symm.trans hf
              exact gw_sub [0, 1, 2, 3, 4] rfl (g_K_row_57 C ih hf)
            · have hf := (if_neg c).symm.trans hf
              refine gw_aload_n C 0 d_K_row_50 rfl rfl ?_
              refine gw_ldc2 (v := (139073578016 : Int64)) C d_K_row_51 tw_900 ?_
              obtain ⟨M54, hc54, hf⟩ := om_some hf
              refine gw_callVv (rest := []) C 0 wkg_0 clg_5 (c_K_say C.2.2.2.2.2.2.2.2.2.2 hc54) (cwV 1 C.2.2.2.2.1 (gTB_V tw_871 mv_K_say) rfl rfl rfl pd_K_say ⟨Nat.le_of_ble_eq_true rfl, Nat.le_of_ble_eq_true rfl⟩) rfl rfl (Nat.le_of_ble_eq_true rfl) d_K_row_54 ⟨Nat.le_of_ble_eq_true rfl, Nat.le_of_ble_eq_true rfl⟩ ?_
              exact gw_sub [0, 1, 2, 3, 4] rfl (g_K_row_57 C ih hf)
        · have hf := (if_neg c).symm.trans hf
          refine gw_goto (tgt := 88) C d_K_row_39 (by decide) ?_
          refine gw_iinc (v := x4 + (1 : Int32)) (lv' := [(4, .int (x4 + (1 : Int32))), (0, .ref (ad 0)), (1, .int x1), (2, .int x2), (3, .int x3)]) C 4 d_K_row_88 rfl rfl (by decide) rfl ?_
          refine gw_goto (tgt := 5) C d_K_row_91 (by decide) ?_
          exact gw_sub [1, 2, 3, 4, 0] rfl (ih _ _ _ _ _ hf)
def f_K_row (x1 : Int32) (x2 : Int32) (M : Mem) : Option (Int32 × Mem) :=
  f_K_row_5 100000 x1 x2 (0 : Int32) (0 : Int32) M
set_option maxRecDepth 100000 in
theorem g_K_row {r : Int32} {M' : Mem} (C : GC p s m args meth c b_K_row 5 (some (FieldType.int)) "NoneWordsModel" TB D vwCl (tysW cI cZ cC) A Z) {x1 : Int32} {x2 : Int32} {M : Mem} (hf : f_K_row x1 x2 M = some (r, M')) : GW p l e rm_K_row s m args below meth c (MQ below (QW D vwCl (tysW cI cZ cC) A (some (.int r)) (wk ad cI cZ cC M')) args s 0 0 A) D vwCl A 5 0 0 (wk ad cI cZ cC M) 0 [(0, .ref (ad 0)), (1, .int x1), (2, .int x2)] [] := by
  unfold f_K_row at hf
  refine gw_iconst (v := (0 : Int32)) C d_K_row_0 (by decide) ?_
  refine gw_istore_n (lv' := [(3, .int (0 : Int32)), (0, .ref (ad 0)), (1, .int x1), (2, .int x2)]) C d_K_row_1 rfl (by decide) rfl ?_
  refine gw_iconst (v := (0 : Int32)) C d_K_row_2 (by decide) ?_
  refine gw_istore (lv' := [(4, .int (0 : Int32)), (3, .int (0 : Int32)), (0, .ref (ad 0)), (1, .int x1), (2, .int x2)]) C d_K_row_3 (by decide) rfl ?_
  exact gw_sub [2, 3, 4, 1, 0] rfl (g_K_row_5 C _ _ _ _ _ _ hf)
theorem c_K_row (hZ : gw_ZOK Z) {x1 : Int32} {x2 : Int32} {M : Mem} {r : Int32} {M' : Mem} (hf : f_K_row x1 x2 M = some (r, M')) : CW l y_K_row ws_K_row rm_K_row D vwCl (tysW cI cZ cC) Z [.ref (ad 0), .int x1, .int x2] (wk ad cI cZ cC M) (some (.int r)) (wk ad cI cZ cC M') 0 0 :=
  CW.ofG hZ (by decide) rfl (Nat.le_of_ble_eq_true rfl) (fun _ _ _ _ _ _ _ _ C _ => g_K_row C hf)
abbrev b_K_counted : ByteArray := prog_7_method_25_code
def y_K_counted : MethodName := ⟨"NoneWordsModel", "counted", "(IZ)I"⟩
abbrev ws_K_counted : List Cond := Cond.code y_K_counted b_K_counted 5 (some (FieldType.int)) :: TB
set_option maxRecDepth 100000 in
theorem tc_K_counted : Cond.code y_K_counted b_K_counted 5 (some (FieldType.int)) ∈ TB := inTB 893 rfl rfl
theorem mv_K_counted : Cond.instanceMethod y_K_counted ∈ TB ∧ Cond.selects "NoneWordsModel" y_K_counted y_K_counted ∈ TB ∧ Cond.initialized "NoneWordsModel" ∈ TB ∧ Cond.code y_K_counted b_K_counted 5 (some (FieldType.int)) ∈ TB := ⟨inTB 892 (by decide +kernel) (by decide +kernel), inTB 48 (by decide +kernel) (by decide +kernel), inTB 71 (by decide +kernel) (by decide +kernel), tc_K_counted⟩
theorem pd_K_counted : y_K_counted.cls = "NoneWordsModel" ∧ y_K_counted.cls ≠ "java/lang/invoke/MethodHandle" ∧ y_K_counted.cls ≠ "java/lang/invoke/VarHandle" ∧ (parseMethodDescriptor y_K_counted.desc).map (fun d => d.parameters.length) = some 2 := by decide +kernel
theorem d_K_counted_0 : decode b_K_counted 0 = .ok (.iconst 0, 1) := by decide +kernel
theorem d_K_counted_1 : decode b_K_counted 1 = .ok (.istore_n 3, 1) := by decide +kernel
theorem d_K_counted_2 : decode b_K_counted 2 = .ok (.iconst 0, 1) := by decide +kernel
theorem d_K_counted_3 : decode b_K_counted 3 = .ok (.istore 4, 2) := by decide +kernel
theorem d_K_counted_5 : decode b_K_counted 5 = .ok (.iload 4, 2) := by decide +kernel
theorem d_K_counted_7 : decode b_K_counted 7 = .ok (.aload_n 0, 1) := by decide +kernel
theorem d_K_counted_8 : decode b_K_counted 8 = .ok (.getfield 76, 3) := by decide +kernel
theorem d_K_counted_11 : decode b_K_counted 11 = .ok (.if_icmp .ge 42, 3) := by decide +kernel
theorem d_K_counted_14 : decode b_K_counted 14 = .ok (.iload_n 3, 1) := by decide +kernel
theorem d_K_counted_15 : decode b_K_counted 15 = .ok (.aload_n 0, 1) := by decide +kernel
theorem d_K_counted_16 : decode b_K_counted 16 = .ok (.getfield 28, 3) := by decide +kernel
theorem d_K_counted_19 : decode b_K_counted 19 = .ok (.iload_n 1, 1) := by decide +kernel
theorem d_K_counted_20 : decode b_K_counted 20 = .ok (.iload 4, 2) := by decide +kernel
theorem d_K_counted_22 : decode b_K_counted 22 = .ok (.invokestatic 82, 3) := by decide +kernel
theorem d_K_counted_25 : decode b_K_counted 25 = .ok (.baload, 1) := by decide +kernel
theorem d_K_counted_26 : decode b_K_counted 26 = .ok (.ifCond .eq 18, 3) := by decide +kernel
theorem d_K_counted_29 : decode b_K_counted 29 = .ok (.aload_n 0, 1) := by decide +kernel
theorem d_K_counted_30 : decode b_K_counted 30 = .ok (.iload_n 1, 1) := by decide +kernel
theorem d_K_counted_31 : decode b_K_counted 31 = .ok (.iload 4, 2) := by decide +kernel
theorem d_K_counted_33 : decode b_K_counted 33 = .ok (.invokevirtual 115, 3) := by decide +kernel
theorem d_K_counted_36 : decode b_K_counted 36 = .ok (.iload_n 2, 1) := by decide +kernel
theorem d_K_counted_37 : decode b_K_counted 37 = .ok (.if_icmp .ne 7, 3) := by decide +kernel
theorem d_K_counted_40 : decode b_K_counted 40 = .ok (.iconst 1, 1) := by decide +kernel
theorem d_K_counted_41 : decode b_K_counted 41 = .ok (.goto 4, 3) := by decide +kernel
theorem d_K_counted_44 : decode b_K_counted 44 = .ok (.iconst 0, 1) := by decide +kernel
theorem d_K_counted_45 : decode b_K_counted 45 = .ok (.iadd, 1) := by decide +kernel
theorem d_K_counted_46 : decode b_K_counted 46 = .ok (.istore_n 3, 1) := by decide +kernel
theorem d_K_counted_47 : decode b_K_counted 47 = .ok (.iinc 4 1, 3) := by decide +kernel
theorem d_K_counted_50 : decode b_K_counted 50 = .ok (.goto (-45), 3) := by decide +kernel
theorem d_K_counted_53 : decode b_K_counted 53 = .ok (.iload_n 3, 1) := by decide +kernel
theorem d_K_counted_54 : decode b_K_counted 54 = .ok (.ireturn, 1) := by decide +kernel
abbrev rm_K_counted : Room := { frames := 3, cells := 0, slots := 0, locals := 66 }
def f_K_counted_5 : Nat → Int32 → Int32 → Int32 → Int32 → Mem → Option (Int32 × Mem)
  | 0, _, _, _, _, _ => none
  | n + 1, x1, x2, x3, x4, M => if (M 0 2) ≤ x4 then some (x3, M) else ob (f_K_place x1 x4 M) fun r22 M22 => gd (inb r22 600) (if (M22 7 r22.toNatClampNeg) = 0 then (f_K_counted_5 n) x1 x2 (x3 + (0 : Int32)) (x4 + (1 : Int32)) M22 else ob (f_K_isWanted x1 x4 M22) fun r33 M33 => if r33 = x2 then (f_K_counted_5 n) x1 x2 (x3 + (1 : Int32)) (x4 + (1 : Int32)) M33 else (f_K_counted_5 n) x1 x2 (x3 + (0 : Int32)) (x4 + (1 : Int32)) M33)
set_option maxRecDepth 100000 in
theorem g_K_counted_5 {r : Int32} {M' : Mem} (C : GC p s m args meth c b_K_counted 5 (some (FieldType.int)) "NoneWordsModel" TB D vwCl (tysW cI cZ cC) A Z) : ∀ (n : Nat) (x1 : Int32) (x2 : Int32) (x3 : Int32) (x4 : Int32) (M : Mem), f_K_counted_5 n x1 x2 x3 x4 M = some (r, M') → GW p l e rm_K_counted s m args below meth c (MQ below (QW D vwCl (tysW cI cZ cC) A (some (.int r)) (wk ad cI cZ cC M')) args s 0 0 A) D vwCl A 5 0 0 (wk ad cI cZ cC M) 5 [(0, .ref (ad 0)), (1, .int x1), (2, .int x2), (3, .int x3), (4, .int x4)] [] := by
  intro n
  induction n with
  | zero => intro _ _ _ _ _ hf; cases hf
  | succ n ih =>
    intro x1 x2 x3 x4 M hf
    rw [f_K_counted_5] at hf
    refine gw_iload C 4 d_K_counted_5 rfl ?_
    refine gw_aload_n C 0 d_K_counted_7 rfl rfl ?_
    refine gw_get C in_K 0 wkg_0 clg_5 2 (by decide) tw_688 rfl rfl d_K_counted_8 ?_
    refine gw_icmp_ge (tgt := 53) C d_K_counted_11 (by decide) (fun c => ?_) (fun c => ?_)
    · have hf := (if_pos c).symm.trans hf
      refine gw_iload_n C 3 d_K_counted_53 rfl rfl ?_
      exact gw_ireti C d_K_counted_54 (wk ad cI cZ cC) hf
    · have hf := (if_neg c).symm.trans hf
      refine gw_iload_n C 3 d_K_counted_14 rfl rfl ?_
      refine gw_aload_n C 0 d_K_counted_15 rfl rfl ?_
      refine gw_get C in_K 0 wkg_0 clg_5 9 (by decide) tw_695 rfl rfl d_K_counted_16 ?_
      refine gw_iload_n C 1 d_K_counted_19 rfl rfl ?_
      refine gw_iload C 4 d_K_counted_20 rfl ?_
      obtain ⟨r22, M22, hc22, hf⟩ := ob_some hf
      refine gw_callSr (rest := [.ref (ad 7), .int x3]) C (c_K_place C.2.2.2.2.2.2.2.2.2.2 hc22) (cwS 2 C.2.2.2.2.1 (gTB_S tw_787 mv_K_place) rfl rfl rfl pd_K_place ⟨Nat.le_of_ble_eq_true rfl, Nat.le_of_ble_eq_true rfl⟩) rfl rfl (Nat.le_of_ble_eq_true rfl) d_K_counted_22 ⟨Nat.le_of_ble_eq_true rfl, Nat.le_of_ble_eq_true rfl⟩ ?_
      obtain ⟨hb25, hf⟩ := gd_some hf
      refine gw_zald C 7 1 wkg_7 rfl hb25 d_K_counted_25 ?_
      refine gw_if_eq (tgt := 44) C d_K_counted_26 (by decide) (fun c => ?_) (fun c => ?_)
      · have hf := (if_pos c).symm.trans hf
        refine gw_iconst (v := (0 : Int32)) C d_K_counted_44 (by decide) ?_
        refine gw_iadd C d_K_counted_45 ?_
        refine gw_istore_n (lv' := [(3, .int (x3 + (0 : Int32))), (0, .ref (ad 0)), (1, .int x1), (2, .int x2), (4, .int x4)]) C d_K_counted_46 rfl (by decide) rfl ?_
        refine gw_iinc (v := x4 + (1 : Int32)) (lv' := [(4, .int (x4 + (1 : Int32))), (3, .int (x3 + (0 : Int32))), (0, .ref (ad 0)), (1, .int x1), (2, .int x2)]) C 4 d_K_counted_47 rfl rfl (by decide) rfl ?_
        refine gw_goto (tgt := 5) C d_K_counted_50 (by decide) ?_
        exact gw_sub [2, 3, 4, 1, 0] rfl (ih _ _ _ _ _ hf)
      · have hf := (if_neg c).symm.trans hf
        refine gw_aload_n C 0 d_K_counted_29 rfl rfl ?_
        refine gw_iload_n C 1 d_K_counted_30 rfl rfl ?_
        refine gw_iload C 4 d_K_counted_31 rfl ?_
        obtain ⟨r33, M33, hc33, hf⟩ := ob_some hf
        refine gw_callVr (rest := [.int x3]) C 0 wkg_0 clg_5 (c_K_isWanted C.2.2.2.2.2.2.2.2.2.2 hc33) (cwV 2 C.2.2.2.2.1 (gTB_V tw_834 mv_K_isWanted) rfl rfl rfl pd_K_isWanted ⟨Nat.le_of_ble_eq_true rfl, Nat.le_of_ble_eq_true rfl⟩) rfl rfl (Nat.le_of_ble_eq_true rfl) d_K_counted_33 ⟨Nat.le_of_ble_eq_true rfl, Nat.le_of_ble_eq_true rfl⟩ ?_
        refine gw_iload_n C 2 d_K_counted_36 rfl rfl ?_
        refine gw_icmp_ne (tgt := 44) C d_K_counted_37 (by decide) (fun c => ?_) (fun c => ?_)
        · have hf := (if_neg c).symm.trans hf
          refine gw_iconst (v := (0 : Int32)) C d_K_counted_44 (by decide) ?_
          refine gw_iadd C d_K_counted_45 ?_
          refine gw_istore_n (lv' := [(3, .int (x3 + (0 : Int32))), (0, .ref (ad 0)), (1, .int x1), (2, .int x2), (4, .int x4)]) C d_K_counted_46 rfl (by decide) rfl ?_
          refine gw_iinc (v := x4 + (1 : Int32)) (lv' := [(4, .int (x4 + (1 : Int32))), (3, .int (x3 + (0 : Int32))), (0, .ref (ad 0)), (1, .int x1), (2, .int x2)]) C 4 d_K_counted_47 rfl rfl (by decide) rfl ?_
          refine gw_goto (tgt := 5) C d_K_counted_50 (by decide) ?_
          exact gw_sub [2, 3, 4, 1, 0] rfl (ih _ _ _ _ _ hf)
        · have hf := (if_pos c).symm.trans hf
          refine gw_iconst (v := (1 : Int32)) C d_K_counted_40 (by decide) ?_
          refine gw_goto (tgt := 45) C d_K_counted_41 (by decide) ?_
          refine gw_iadd C d_K_counted_45 ?_
          refine gw_istore_n (lv' := [(3, .int (x3 + (1 : Int32))), (0, .ref (ad 0)), (1, .int x1), (2, .int x2), (4, .int x4)]) C d_K_counted_46 rfl (by decide) rfl ?_
          refine gw_iinc (v := x4 + (1 : Int32)) (lv' := [(4, .int (x4 + (1 : Int32))), (3, .int (x3 + (1 : Int32))), (0, .ref (ad 0)), (1, .int x1), (2, .int x2)]) C 4 d_K_counted_47 rfl rfl (by decide) rfl ?_
          refine gw_goto (tgt := 5) C d_K_counted_50 (by decide) ?_
          exact gw_sub [2, 3, 4, 1, 0] rfl (ih _ _ _ _ _ hf)
def f_K_counted (x1 : Int32) (x2 : Int32) (M : Mem) : Option (Int32 × Mem) :=
  f_K_counted_5 100000 x1 x2 (0 : Int32) (0 : Int32) M
set_option maxRecDepth 100000 in
theorem g_K_counted {r : Int32} {M' : Mem} (C : GC p s m args meth c b_K_counted 5 (some (FieldType.int)) "NoneWordsModel" TB D vwCl (tysW cI cZ cC) A Z) {x1 : Int32} {x2 : Int32} {M : Mem} (hf : f_K_counted x1 x2 M = some (r, M')) : GW p l e rm_K_counted s m args below meth c (MQ below (QW D vwCl (tysW cI cZ cC) A (some (.int r)) (wk ad cI cZ cC M')) args s 0 0 A) D vwCl A 5 0 0 (wk ad cI cZ cC M) 0 [(0, .ref (ad 0)), (1, .int x1), (2, .int x2)] [] := by
  unfold f_K_counted at hf
  refine gw_iconst (v := (0 : Int32)) C d_K_counted_0 (by decide) ?_
  refine gw_istore_n (lv' := [(3, .int (0 : Int32)), (0, .ref (ad 0)), (1, .int x1), (2, .int x2)]) C d_K_counted_1 rfl (by decide) rfl ?_
  refine gw_iconst (v := (0 : Int32)) C d_K_counted_2 (by decide) ?_
  refine gw_istore (lv' := [(4, .int (0 : Int32)), (3, .int (0 : Int32)), (0, .ref (ad 0)), (1, .int x1), (2, .int x2)]) C d_K_counted_3 (by decide) rfl ?_
  exact gw_sub [2, 3, 4, 1, 0] rfl (g_K_counted_5 C _ _ _ _ _ _ hf)
theorem c_K_counted (hZ : gw_ZOK Z) {x1 : Int32} {x2 : Int32} {M : Mem} {r : Int32} {M' : Mem} (hf : f_K_counted x1 x2 M = some (r, M')) : CW l y_K_counted ws_K_counted rm_K_counted D vwCl (tysW cI cZ cC) Z [.ref (ad 0), .int x1, .int x2] (wk ad cI cZ cC M) (some (.int r)) (wk ad cI cZ cC M') 0 0 :=
  CW.ofG hZ (by decide) rfl (Nat.le_of_ble_eq_true rfl) (fun _ _ _ _ _ _ _ _ C _ => g_K_counted C hf)
abbrev b_K_joinWords : ByteArray := prog_7_method_26_code
def y_K_joinWords : MethodName := ⟨"NoneWordsModel", "joinWords", "(I)V"⟩
abbrev ws_K_joinWords : List Cond := Cond.code y_K_joinWords b_K_joinWords 4 (none) :: TB
set_option maxRecDepth 100000 in
theorem tc_K_joinWords : Cond.code y_K_joinWords b_K_joinWords 4 (none) ∈ TB := inTB 889 rfl rfl
theorem mv_K_joinWords : Cond.instanceMethod y_K_joinWords ∈ TB ∧ Cond.selects "NoneWordsModel" y_K_joinWords y_K_joinWords ∈ TB ∧ Cond.initialized "NoneWordsModel" ∈ TB ∧ Cond.code y_K_joinWords b_K_joinWords 4 (none) ∈ TB := ⟨inTB 888 (by decide +kernel) (by decide +kernel), inTB 47 (by decide +kernel) (by decide +kernel), inTB 71 (by decide +kernel) (by decide +kernel), tc_K_joinWords⟩
theorem pd_K_joinWords : y_K_joinWords.cls = "NoneWordsModel" ∧ y_K_joinWords.cls ≠ "java/lang/invoke/MethodHandle" ∧ y_K_joinWords.cls ≠ "java/lang/invoke/VarHandle" ∧ (parseMethodDescriptor y_K_joinWords.desc).map (fun d => d.parameters.length) = some 1 := by decide +kernel
theorem d_K_joinWords_0 : decode b_K_joinWords 0 = .ok (.aload_n 0, 1) := by decide +kernel
theorem d_K_joinWords_1 : decode b_K_joinWords 1 = .ok (.iload_n 1, 1) := by decide +kernel
theorem d_K_joinWords_2 : decode b_K_joinWords 2 = .ok (.iconst 1, 1) := by decide +kernel
theorem d_K_joinWords_3 : decode b_K_joinWords 3 = .ok (.invokevirtual 162, 3) := by decide +kernel
theorem d_K_joinWords_6 : decode b_K_joinWords 6 = .ok (.istore_n 2, 1) := by decide +kernel
theorem d_K_joinWords_7 : decode b_K_joinWords 7 = .ok (.aload_n 0, 1) := by decide +kernel
theorem d_K_joinWords_8 : decode b_K_joinWords 8 = .ok (.iload_n 1, 1) := by decide +kernel
theorem d_K_joinWords_9 : decode b_K_joinWords 9 = .ok (.iconst 0, 1) := by decide +kernel
theorem d_K_joinWords_10 : decode b_K_joinWords 10 = .ok (.invokevirtual 162, 3) := by decide +kernel
theorem d_K_joinWords_13 : decode b_K_joinWords 13 = .ok (.istore_n 3, 1) := by decide +kernel
theorem d_K_joinWords_14 : decode b_K_joinWords 14 = .ok (.iload_n 2, 1) := by decide +kernel
theorem d_K_joinWords_15 : decode b_K_joinWords 15 = .ok (.iload_n 3, 1) := by decide +kernel
theorem d_K_joinWords_16 : decode b_K_joinWords 16 = .ok (.iadd, 1) := by decide +kernel
theorem d_K_joinWords_17 : decode b_K_joinWords 17 = .ok (.ifCond .ne 20, 3) := by decide +kernel
theorem d_K_joinWords_20 : decode b_K_joinWords 20 = .ok (.aload_n 0, 1) := by decide +kernel
theorem d_K_joinWords_21 : decode b_K_joinWords 21 = .ok (.ldc2_w 166, 3) := by decide +kernel
theorem d_K_joinWords_24 : decode b_K_joinWords 24 = .ok (.invokevirtual 137, 3) := by decide +kernel
theorem d_K_joinWords_27 : decode b_K_joinWords 27 = .ok (.aload_n 0, 1) := by decide +kernel
theorem d_K_joinWords_28 : decode b_K_joinWords 28 = .ok (.ldc2_w 168, 3) := by decide +kernel
theorem d_K_joinWords_31 : decode b_K_joinWords 31 = .ok (.invokevirtual 137, 3) := by decide +kernel
theorem d_K_joinWords_34 : decode b_K_joinWords 34 = .ok (.goto 107, 3) := by decide +kernel
theorem d_K_joinWords_37 : decode b_K_joinWords 37 = .ok (.iload_n 2, 1) := by decide +kernel
theorem d_K_joinWords_38 : decode b_K_joinWords 38 = .ok (.ifCond .ne 20, 3) := by decide +kernel
theorem d_K_joinWords_41 : decode b_K_joinWords 41 = .ok (.aload_n 0, 1) := by decide +kernel
theorem d_K_joinWords_42 : decode b_K_joinWords 42 = .ok (.iload_n 1, 1) := by decide +kernel
theorem d_K_joinWords_43 : decode b_K_joinWords 43 = .ok (.iconst 0, 1) := by decide +kernel
theorem d_K_joinWords_44 : decode b_K_joinWords 44 = .ok (.invokevirtual 170, 3) := by decide +kernel
theorem d_K_joinWords_47 : decode b_K_joinWords 47 = .ok (.pop, 1) := by decide +kernel
theorem d_K_joinWords_48 : decode b_K_joinWords 48 = .ok (.aload_n 0, 1) := by decide +kernel
theorem d_K_joinWords_49 : decode b_K_joinWords 49 = .ok (.ldc2_w 173, 3) := by decide +kernel
theorem d_K_joinWords_52 : decode b_K_joinWords 52 = .ok (.invokevirtual 137, 3) := by decide +kernel
theorem d_K_joinWords_55 : decode b_K_joinWords 55 = .ok (.goto 86, 3) := by decide +kernel
theorem d_K_joinWords_58 : decode b_K_joinWords 58 = .ok (.aload_n 0, 1) := by decide +kernel
theorem d_K_joinWords_59 : decode b_K_joinWords 59 = .ok (.iload_n 1, 1) := by decide +kernel
theorem d_K_joinWords_60 : decode b_K_joinWords 60 = .ok (.iconst 1, 1) := by decide +kernel
theorem d_K_joinWords_61 : decode b_K_joinWords 61 = .ok (.invokevirtual 170, 3) := by decide +kernel
theorem d_K_joinWords_64 : decode b_K_joinWords 64 = .ok (.pop, 1) := by decide +kernel
theorem d_K_joinWords_65 : decode b_K_joinWords 65 = .ok (.iload_n 3, 1) := by decide +kernel
theorem d_K_joinWords_66 : decode b_K_joinWords 66 = .ok (.ifCond .le 37, 3) := by decide +kernel
theorem d_K_joinWords_69 : decode b_K_joinWords 69 = .ok (.aload_n 0, 1) := by decide +kernel
theorem d_K_joinWords_70 : decode b_K_joinWords 70 = .ok (.ldc2_w 175, 3) := by decide +kernel
theorem d_K_joinWords_73 : decode b_K_joinWords 73 = .ok (.invokevirtual 137, 3) := by decide +kernel
theorem d_K_joinWords_76 : decode b_K_joinWords 76 = .ok (.iload_n 2, 1) := by decide +kernel
theorem d_K_joinWords_77 : decode b_K_joinWords 77 = .ok (.iconst 1, 1) := by decide +kernel
theorem d_K_joinWords_78 : decode b_K_joinWords 78 = .ok (.if_icmp .ne 9, 3) := by decide +kernel
theorem d_K_joinWords_81 : decode b_K_joinWords 81 = .ok (.aload_n 0, 1) := by decide +kernel
theorem d_K_joinWords_82 : decode b_K_joinWords 82 = .ok (.bipush 115, 2) := by decide +kernel
theorem d_K_joinWords_84 : decode b_K_joinWords 84 = .ok (.invokevirtual 131, 3) := by decide +kernel
theorem d_K_joinWords_87 : decode b_K_joinWords 87 = .ok (.aload_n 0, 1) := by decide +kernel
theorem d_K_joinWords_88 : decode b_K_joinWords 88 = .ok (.bipush 32, 2) := by decide +kernel
theorem d_K_joinWords_90 : decode b_K_joinWords 90 = .ok (.invokevirtual 131, 3) := by decide +kernel
theorem d_K_joinWords_93 : decode b_K_joinWords 93 = .ok (.aload_n 0, 1) := by decide +kernel
theorem d_K_joinWords_94 : decode b_K_joinWords 94 = .ok (.iload_n 1, 1) := by decide +kernel
theorem d_K_joinWords_95 : decode b_K_joinWords 95 = .ok (.iconst 0, 1) := by decide +kernel
theorem d_K_joinWords_96 : decode b_K_joinWords 96 = .ok (.invokevirtual 170, 3) := by decide +kernel
theorem d_K_joinWords_99 : decode b_K_joinWords 99 = .ok (.pop, 1) := by decide +kernel
theorem d_K_joinWords_100 : decode b_K_joinWords 100 = .ok (.goto 41, 3) := by decide +kernel
theorem d_K_joinWords_103 : decode b_K_joinWords 103 = .ok (.aload_n 0, 1) := by decide +kernel
theorem d_K_joinWords_104 : decode b_K_joinWords 104 = .ok (.ldc2_w 177, 3) := by decide +kernel
theorem d_K_joinWords_107 : decode b_K_joinWords 107 = .ok (.invokevirtual 137, 3) := by decide +kernel
theorem d_K_joinWords_110 : decode b_K_joinWords 110 = .ok (.iload_n 2, 1) := by decide +kernel
theorem d_K_joinWords_111 : decode b_K_joinWords 111 = .ok (.iconst 2, 1) := by decide +kernel
theorem d_K_joinWords_112 : decode b_K_joinWords 112 = .ok (.if_icmp .ne 10, 3) := by decide +kernel
theorem d_K_joinWords_115 : decode b_K_joinWords 115 = .ok (.aload_n 0, 1) := by decide +kernel
theorem d_K_joinWords_116 : decode b_K_joinWords 116 = .ok (.ldc2_w 179, 3) := by decide +kernel
theorem d_K_joinWords_119 : decode b_K_joinWords 119 = .ok (.invokevirtual 137, 3) := by decide +kernel
theorem d_K_joinWords_122 : decode b_K_joinWords 122 = .ok (.iload_n 2, 1) := by decide +kernel
theorem d_K_joinWords_123 : decode b_K_joinWords 123 = .ok (.iconst 2, 1) := by decide +kernel
theorem d_K_joinWords_124 : decode b_K_joinWords 124 = .ok (.if_icmp .le 10, 3) := by decide +kernel
theorem d_K_joinWords_127 : decode b_K_joinWords 127 = .ok (.aload_n 0, 1) := by decide +kernel
theorem d_K_joinWords_128 : decode b_K_joinWords 128 = .ok (.ldc2_w 181, 3) := by decide +kernel
theorem d_K_joinWords_131 : decode b_K_joinWords 131 = .ok (.invokevirtual 137, 3) := by decide +kernel
theorem d_K_joinWords_134 : decode b_K_joinWords 134 = .ok (.aload_n 0, 1) := by decide +kernel
theorem d_K_joinWords_135 : decode b_K_joinWords 135 = .ok (.ldc2_w 183, 3) := by decide +kernel
theorem d_K_joinWords_138 : decode b_K_joinWords 138 = .ok (.invokevirtual 137, 3) := by decide +kernel
theorem d_K_joinWords_141 : decode b_K_joinWords 141 = .ok (.return_, 1) := by decide +kernel
abbrev rm_K_joinWords : Room := { frames := 5, cells := 0, slots := 0, locals := 114 }
def f_K_joinWords_134 (M : Mem) : Option Mem :=
  om (f_K_say (25189 : Int64) M) fun M138 => some M138
set_option maxRecDepth 100000 in
theorem g_K_joinWords_134 {M' : Mem} (C : GC p s m args meth c b_K_joinWords 4 (none) "NoneWordsModel" TB D vwCl (tysW cI cZ cC) A Z) {M : Mem} (hf : f_K_joinWords_134 M = some M') : GW p l e rm_K_joinWords s m args below meth c (MQ below (QW D vwCl (tysW cI cZ cC) A none (wk ad cI cZ cC M')) args s 0 0 A) D vwCl A 4 0 0 (wk ad cI cZ cC M) 134 [(0, .ref (ad 0))] [] := by
  unfold f_K_joinWords_134 at hf
  refine gw_aload_n C 0 d_K_joinWords_134 rfl rfl ?_
  refine gw_ldc2 (v := (25189 : Int64)) C d_K_joinWords_135 tw_912 ?_
  obtain ⟨M138, hc138, hf⟩ := om_some hf
  refine gw_callVv (rest := []) C 0 wkg_0 clg_5 (c_K_say C.2.2.2.2.2.2.2.2.2.2 hc138) (cwV 1 C.2.2.2.2.1 (gTB_V tw_871 mv_K_say) rfl rfl rfl pd_K_say ⟨Nat.le_of_ble_eq_true rfl, Nat.le_of_ble_eq_true rfl⟩) rfl rfl (Nat.le_of_ble_eq_true rfl) d_K_joinWords_138 ⟨Nat.le_of_ble_eq_true rfl, Nat.le_of_ble_eq_true rfl⟩ ?_
  exact gw_vreti C d_K_joinWords_141 (wk ad cI cZ cC) hf
def f_K_joinWords_122 (x2 : Int32) (M : Mem) : Option Mem :=
  if x2 ≤ (2 : Int32) then f_K_joinWords_134 M else om (f_K_say (1634495520 : Int64) M) fun M131 => f_K_joinWords_134 M131
set_option maxRecDepth 100000 in
theorem g_K_joinWords_122 {M' : Mem} (C : GC p s m args meth c b_K_joinWords 4 (none) "NoneWordsModel" TB D vwCl (tysW cI cZ cC) A Z) {x2 : Int32} {M : Mem} (hf : f_K_joinWords_122 x2 M = some M') : GW p l e rm_K_joinWords s m args below meth c (MQ below (QW D vwCl (tysW cI cZ cC) A none (wk ad cI cZ cC M')) args s 0 0 A) D vwCl A 4 0 0 (wk ad cI cZ cC M) 122 [(0, .ref (ad 0)), (2, .int x2)] [] := by
  unfold f_K_joinWords_122 at hf
  refine gw_iload_n C 1 d_K_joinWords_122 rfl rfl ?_
  refine gw_iconst (v := (2 : Int32)) C d_K_joinWords_123 (by decide) ?_
  refine gw_icmp_le (tgt := 134) C d_K_joinWords_124 (by decide) (fun c => ?_) (fun c => ?_)
  · have hf := (if_pos c).symm.trans hf
    exact gw_sub [0] rfl (g_K_joinWords_134 C hf)
  · have hf := (if_neg c).symm.trans hf
    refine gw_aload_n C 0 d_K_joinWords_127 rfl rfl ?_
    refine gw_ldc2 (v := (1634495520 : Int64)) C d_K_joinWords_128 tw_911 ?_
    obtain ⟨M131, hc131, hf⟩ := om_some hf
    refine gw_callVv (rest := []) C 0 wkg_0 clg_5 (c_K_say C.2.2.2.2.2.2.2.2.2.2 hc131) (cwV 1 C.2.2.2.2.1 (gTB_V tw_871 mv_K_say) rfl rfl rfl pd_K_say ⟨Nat.le_of_ble_eq_true rfl, Nat.le_of_ble_eq_true rfl⟩) rfl rfl (Nat.le_of_ble_eq_true rfl) d_K_joinWords_131 ⟨Nat.le_of_ble_eq_true rfl, Nat.le_of_ble_eq_true rfl⟩ ?_
    exact gw_sub [0] rfl (g_K_joinWords_134 C hf)
def f_K_joinWords_87 (x1 : Int32) (M : Mem) : Option Mem :=
  om (f_K_put (32 : Int32) M) fun M90 => ob (f_K_row x1 (0 : Int32) M90) fun r96 M96 => some M96
set_option maxRecDepth 100000 in
theorem g_K_joinWords_87 {M' : Mem} (C : GC p s m args meth c b_K_joinWords 4 (none) "NoneWordsModel" TB D vwCl (tysW cI cZ cC) A Z) {x1 : Int32} {M : Mem} (hf : f_K_joinWords_87 x1 M = some M') : GW p l e rm_K_joinWords s m args below meth c (MQ below (QW D vwCl (tysW cI cZ cC) A none (wk ad cI cZ cC M')) args s 0 0 A) D vwCl A 4 0 0 (wk ad cI cZ cC M) 87 [(0, .ref (ad 0)), (1, .int x1)] [] := by
  unfold f_K_joinWords_87 at hf
  refine gw_aload_n C 0 d_K_joinWords_87 rfl rfl ?_
  refine gw_bipush (v := (32 : Int32)) C d_K_joinWords_88 (by decide) ?_
  obtain ⟨M90, hc90, hf⟩ := om_some hf
  refine gw_callVv (rest := []) C 0 wkg_0 clg_5 (c_K_put C.2.2.2.2.2.2.2.2.2.2 hc90) (cwV 1 C.2.2.2.2.1 (gTB_V tw_876 mv_K_put) rfl rfl rfl pd_K_put ⟨Nat.le_of_ble_eq_true rfl, Nat.le_of_ble_eq_true rfl⟩) rfl rfl (Nat.le_of_ble_eq_true rfl) d_K_joinWords_90 ⟨Nat.le_of_ble_eq_true rfl, Nat.le_of_ble_eq_true rfl⟩ ?_
  refine gw_aload_n C 0 d_K_joinWords_93 rfl rfl ?_
  refine gw_iload_n C 1 d_K_joinWords_94 rfl rfl ?_
  refine gw_iconst (v := (0 : Int32)) C d_K_joinWords_95 (by decide) ?_
  obtain ⟨r96, M96, hc96, hf⟩ := ob_some hf
  refine gw_callVr (rest := []) C 0 wkg_0 clg_5 (c_K_row C.2.2.2.2.2.2.2.2.2.2 hc96) (cwV 2 C.2.2.2.2.1 (gTB_V tw_896 mv_K_row) rfl rfl rfl pd_K_row ⟨Nat.le_of_ble_eq_true rfl, Nat.le_of_ble_eq_true rfl⟩) rfl rfl (Nat.le_of_ble_eq_true rfl) d_K_joinWords_96 ⟨Nat.le_of_ble_eq_true rfl, Nat.le_of_ble_eq_true rfl⟩ ?_
  refine gw_pop C d_K_joinWords_99 rfl ?_
  refine gw_goto (tgt := 141) C d_K_joinWords_100 (by decide) ?_
  exact gw_vreti C d_K_joinWords_141 (wk ad cI cZ cC) hf
def f_K_joinWords (x1 : Int32) (M : Mem) : Option Mem :=
  ob (f_K_counted x1 (1 : Int32) M) fun r3 M3 => ob (f_K_counted x1 (0 : Int32) M3) fun r10 M10 => if (r3 + r10) = 0 then om (f_K_say (7957707058381219616 : Int64) M10) fun M24 => om (f_K_say (29681455649351284 : Int64) M24) fun M31 => some M31 else if r3 = 0 then ob (f_K_row x1 (0 : Int32) M10) fun r44 M44 => om (f_K_say (2336652920405123685 : Int64) M44) fun M52 => some M52 else ob (f_K_row x1 (1 : Int32) M10) fun r61 M61 => if r10 ≤ 0 then om (f_K_say (9116469365797920 : Int64) M61) fun M107 => if r3 = (2 : Int32) then om (f_K_say (422776694816 : Int64) M107) fun M119 => f_K_joinWords_122 r3 M119 else f_K_joinWords_122 r3 M107 else om (f_K_say (139274314094 : Int64) M61) fun M73 => if r3 = (1 : Int32) then om (f_K_put (115 : Int32) M73) fun M84 => f_K_joinWords_87 x1 M84 else f_K_joinWords_87 x1 M73
set_option maxRecDepth 100000 in
theorem g_K_joinWords {M' : Mem} (C : GC p s m args meth c b_K_joinWords 4 (none) "NoneWordsModel" TB D vwCl (tysW cI cZ cC) A Z) {x1 : Int32} {M : Mem} (hf : f_K_joinWords x1 M = some M') : GW p l e rm_K_joinWords s m args below meth c (MQ below (QW D vwCl (tysW cI cZ cC) A none (wk ad cI cZ cC M')) args s 0 0 A) D vwCl A 4 0 0 (wk ad cI cZ cC M) 0 [(0, .ref (ad 0)), (1, .int x1)] [] := by
  unfold f_K_joinWords at hf
  refine gw_aload_n C 0 d_K_joinWords_0 rfl rfl ?_
  refine gw_iload_n C 1 d_K_joinWords_1 rfl rfl ?_
  refine gw_iconst (v := (1 : Int32)) C d_K_joinWords_2 (by decide) ?_
  obtain ⟨r3, M3, hc3, hf⟩ := ob_some hf
  refine gw_callVr (rest := []) C 0 wkg_0 clg_5 (c_K_counted C.2.2.2.2.2.2.2.2.2.2 hc3) (cwV 2 C.2.2.2.2.1 (gTB_V tw_890 mv_K_counted) rfl rfl rfl pd_K_counted ⟨Nat.le_of_ble_eq_true rfl, Nat.le_of_ble_eq_true rfl⟩) rfl rfl (Nat.le_of_ble_eq_true rfl) d_K_joinWords_3 ⟨Nat.le_of_ble_eq_true rfl, Nat.le_of_ble_eq_true rfl⟩ ?_
  refine gw_istore_n (lv' := [(2, .int r3), (0, .ref (ad 0)), (1, .int x1)]) C d_K_joinWords_6 rfl (by decide) rfl ?_
  refine gw_aload_n C 1 d_K_joinWords_7 rfl rfl ?_
  refine gw_iload_n C 2 d_K_joinWords_8 rfl rfl ?_
  refine gw_iconst (v := (0 : Int32)) C d_K_joinWords_9 (by decide) ?_
  obtain ⟨r10, M10, hc10, hf⟩ := ob_some hf
  refine gw_callVr (rest := []) C 0 wkg_0 clg_5 (c_K_counted C.2.2.2.2.2.2.2.2.2.2 hc10) (cwV 2 C.2.2.2.2.1 (gTB_V tw_890 mv_K_counted) rfl rfl rfl pd_K_counted ⟨Nat.le_of_ble_eq_true rfl, Nat.le_of_ble_eq_true rfl⟩) rfl rfl (Nat.le_of_ble_eq_true rfl) d_K_joinWords_10 ⟨Nat.le_of_ble_eq_true rfl, Nat.le_of_ble_eq_true rfl⟩ ?_
  refine gw_istore_n (lv' := [(3, .int r10), (2, .int r3), (0, .ref (ad 0)), (1, .int x1)]) C d_K_joinWords_13 rfl (by decide) rfl ?_
  refine gw_iload_n C 1 d_K_joinWords_14 rfl rfl ?_
  refine gw_iload_n C 0 d_K_joinWords_15 rfl rfl ?_
  refine gw_iadd C d_K_joinWords_16 ?_
  refine gw_if_ne (tgt := 37) C d_K_joinWords_17 (by decide) (fun c => ?_) (fun c => ?_)
  · have hf := (if_neg c).symm.trans hf
    refine gw_iload_n C 1 d_K_joinWords_37 rfl rfl ?_
    refine gw_if_ne (tgt := 58) C d_K_joinWords_38 (by decide) (fun c => ?_) (fun c => ?_)
    · have hf := (if_neg c).symm.trans hf
      refine gw_aload_n C 2 d_K_joinWords_58 rfl rfl ?_
      refine gw_iload_n C 3 d_K_joinWords_59 rfl rfl ?_
      refine gw_iconst (v := (1 : Int32)) C d_K_joinWords_60 (by decide) ?_
      obtain ⟨r61, M61, hc61, hf⟩ := ob_some hf
      refine gw_callVr (rest := []) C 0 wkg_0 clg_5 (c_K_row C.2.2.2.2.2.2.2.2.2.2 hc61) (cwV 2 C.2.2.2.2.1 (gTB_V tw_896 mv_K_row) rfl rfl rfl pd_K_row ⟨Nat.le_of_ble_eq_true rfl, Nat.le_of_ble_eq_true rfl⟩) rfl rfl (Nat.le_of_ble_eq_true rfl) d_K_joinWords_61 ⟨Nat.le_of_ble_eq_true rfl, Nat.le_of_ble_eq_true rfl⟩ ?_
      refine gw_pop C d_K_joinWords_64 rfl ?_
      refine gw_iload_n C 0 d_K_joinWords_65 rfl rfl ?_
      refine gw_if_le (tgt := 103) C d_K_joinWords_66 (by decide) (fun c => ?_) (fun c => ?_)
      · have hf := (if_pos c).symm.trans hf
        refine gw_aload_n C 2 d_K_joinWords_103 rfl rfl ?_
        refine gw_ldc2 (v := (9116469365797920 : Int64)) C d_K_joinWords_104 tw_909 ?_
        obtain ⟨M107, hc107, hf⟩ := om_some hf
        refine gw_callVv (rest := []) C 0 wkg_0 clg_5 (c_K_say C.2.2.2.2.2.2.2.2.2.2 hc107) (cwV 1 C.2.2.2.2.1 (gTB_V tw_871 mv_K_say) rfl rfl rfl pd_K_say ⟨Nat.le_of_ble_eq_true rfl, Nat.le_of_ble_eq_true rfl⟩) rfl rfl (Nat.le_of_ble_eq_true rfl) d_K_joinWords_107 ⟨Nat.le_of_ble_eq_true rfl, Nat.le_of_ble_eq_true rfl⟩ ?_
        refine gw_iload_n C 1 d_K_joinWords_110 rfl rfl ?_
        refine gw_iconst (v := (2 : Int32)) C d_K_joinWords_111 (by decide) ?_
        refine gw_icmp_ne (tgt := 122) C d_K_joinWords_112 (by decide) (fun c => ?_) (fun c => ?_)
        · have hf := (if_neg c).symm.trans hf
          exact gw_sub [2, 1] rfl (g_K_joinWords_122 C hf)
        · have hf := (if_pos c).symm.trans hf
          refine gw_aload_n C 2 d_K_joinWords_115 rfl rfl ?_
          refine gw_ldc2 (v := (422776694816 : Int64)) C d_K_joinWords_116 tw_910 ?_
          obtain ⟨M119, hc119, hf⟩ := om_some hf
          refine gw_callVv (rest := []) C 0 wkg_0 clg_5 (c_K_say C.2.2.2.2.2.2.2.2.2.2 hc119) (cwV 1 C.2.2.2.2.1 (gTB_V tw_871 mv_K_say) rfl rfl rfl pd_K_say ⟨Nat.le_of_ble_eq_true rfl, Nat.le_of_ble_eq_true rfl⟩) rfl rfl (Nat.le_of_ble_eq_true rfl) d_K_joinWords_119 ⟨Nat.le_of_ble_eq_true rfl, Nat.le_of_ble_eq_true rfl⟩ ?_
          exact gw_sub [2, 1] rfl (g_K_joinWords_122 C hf)
      · have hf := (if_neg c).symm.trans hf
        refine gw_aload_n C 2 d_K_joinWords_69 rfl rfl ?_
        refine gw_ldc2 (v := (139274314094 : Int64)) C d_K_joinWords_70 tw_908 ?_
        obtain ⟨M73, hc73, hf⟩ := om_some hf
        refine gw_callVv (rest := []) C 0 wkg_0 clg_5 (c_K_say C.2.2.2.2.2.2.2.2.2.2 hc73) (cwV 1 C.2.2.2.2.1 (gTB_V tw_871 mv_K_say) rfl rfl rfl pd_K_say ⟨Nat.le_of_ble_eq_true rfl, Nat.le_of_ble_eq_true rfl⟩) rfl rfl (Nat.le_of_ble_eq_true rfl) d_K_joinWords_73 ⟨Nat.le_of_ble_eq_true rfl, Nat.le_of_ble_eq_true rfl⟩ ?_
        refine gw_iload_n C 1 d_K_joinWords_76 rfl rfl ?_
        refine gw_iconst (v := (1 : Int32)) C d_K_joinWords_77 (by decide) ?_
        refine gw_icmp_ne (tgt := 87) C d_K_joinWords_78 (by decide) (fun c => ?_) (fun c => ?_)
        · have hf := (if_neg c).symm.trans hf
          exact gw_sub [2, 3] rfl (g_K_joinWords_87 C hf)
        · have hf := (if_pos c).symm.trans hf
          refine gw_aload_n C 2 d_K_joinWords_81 rfl rfl ?_
          refine gw_bipush (v := (115 : Int32)) C d_K_joinWords_82 (by decide) ?_
          obtain ⟨M84, hc84, hf⟩ := om_some hf
          refine gw_callVv (rest := []) C 0 wkg_0 clg_5 (c_K_put C.2.2.2.2.2.2.2.2.2.2 hc84) (cwV 1 C.2.2.2.2.1 (gTB_V tw_876 mv_K_put) rfl rfl rfl pd_K_put ⟨Nat.le_of_ble_eq_true rfl, Nat.le_of_ble_eq_true rfl⟩) rfl rfl (Nat.le_of_ble_eq_true rfl) d_K_joinWords_84 ⟨Nat.le_of_ble_eq_true rfl, Nat.le_of_ble_eq_true rfl⟩ ?_
          exact gw_sub [2, 3] rfl (g_K_joinWords_87 C hf)
    · have hf := (if_pos c).symm.trans hf
      refine gw_aload_n C 2 d_K_joinWords_41 rfl rfl ?_
      refine gw_iload_n C 3 d_K_joinWords_42 rfl rfl ?_
      refine gw_iconst (v := (0 : Int32)) C d_K_joinWords_43 (by decide) ?_
      obtain ⟨r44, M44, hc44, hf⟩ := ob_some hf
      refine gw_callVr (rest := []) C 0 wkg_0 clg_5 (c_K_row C.2.2.2.2.2.2.2.2.2.2 hc44) (cwV 2 C.2.2.2.2.1 (gTB_V tw_896 mv_K_row) rfl rfl rfl pd_K_row ⟨Nat.le_of_ble_eq_true rfl, Nat.le_of_ble_eq_true rfl⟩) rfl rfl (Nat.le_of_ble_eq_true rfl) d_K_joinWords_44 ⟨Nat.le_of_ble_eq_true rfl, Nat.le_of_ble_eq_true rfl⟩ ?_
      refine gw_pop C d_K_joinWords_47 rfl ?_
      refine gw_aload_n C 2 d_K_joinWords_48 rfl rfl ?_
      refine gw_ldc2 (v := (2336652920405123685 : Int64)) C d_K_joinWords_49 tw_907 ?_
      obtain ⟨M52, hc52, hf⟩ := om_some hf
      refine gw_callVv (rest := []) C 0 wkg_0 clg_5 (c_K_say C.2.2.2.2.2.2.2.2.2.2 hc52) (cwV 1 C.2.2.2.2.1 (gTB_V tw_871 mv_K_say) rfl rfl rfl pd_K_say ⟨Nat.le_of_ble_eq_true rfl, Nat.le_of_ble_eq_true rfl⟩) rfl rfl (Nat.le_of_ble_eq_true rfl) d_K_joinWords_52 ⟨Nat.le_of_ble_eq_true rfl, Nat.le_of_ble_eq_true rfl⟩ ?_
      refine gw_goto (tgt := 141) C d_K_joinWords_55 (by decide) ?_
      exact gw_vreti C d_K_joinWords_141 (wk ad cI cZ cC) hf
  · have hf := (if_pos c).symm.trans hf
    refine gw_aload_n C 2 d_K_joinWords_20 rfl rfl ?_
    refine gw_ldc2 (v := (7957707058381219616 : Int64)) C d_K_joinWords_21 tw_894 ?_
    obtain ⟨M24, hc24, hf⟩ := om_some hf
    refine gw_callVv (rest := []) C 0 wkg_0 clg_5 (c_K_say C.2.2.2.2.2.2.2.2.2.2 hc24) (cwV 1 C.2.2.2.2.1 (gTB_V tw_871 mv_K_say) rfl rfl rfl pd_K_say ⟨Nat.le_of_ble_eq_true rfl, Nat.le_of_ble_eq_true rfl⟩) rfl rfl (Nat.le_of_ble_eq_true rfl) d_K_joinWords_24 ⟨Nat.le_of_ble_eq_true rfl, Nat.le_of_ble_eq_true rfl⟩ ?_
    refine gw_aload_n C 2 d_K_joinWords_27 rfl rfl ?_
    refine gw_ldc2 (v := (29681455649351284 : Int64)) C d_K_joinWords_28 tw_895 ?_
    obtain ⟨M31, hc31, hf⟩ := om_some hf
    refine gw_callVv (rest := []) C 0 wkg_0 clg_5 (c_K_say C.2.2.2.2.2.2.2.2.2.2 hc31) (cwV 1 C.2.2.2.2.1 (gTB_V tw_871 mv_K_say) rfl rfl rfl pd_K_say ⟨Nat.le_of_ble_eq_true rfl, Nat.le_of_ble_eq_true rfl⟩) rfl rfl (Nat.le_of_ble_eq_true rfl) d_K_joinWords_31 ⟨Nat.le_of_ble_eq_true rfl, Nat.le_of_ble_eq_true rfl⟩ ?_
    refine gw_goto (tgt := 141) C d_K_joinWords_34 (by decide) ?_
    exact gw_vreti C d_K_joinWords_141 (wk ad cI cZ cC) hf
theorem c_K_joinWords (hZ : gw_ZOK Z) {x1 : Int32} {M : Mem} {M' : Mem} (hf : f_K_joinWords x1 M = some M') : CW l y_K_joinWords ws_K_joinWords rm_K_joinWords D vwCl (tysW cI cZ cC) Z [.ref (ad 0), .int x1] (wk ad cI cZ cC M) none (wk ad cI cZ cC M') 0 0 :=
  CW.ofG hZ (by decide) rfl (Nat.le_of_ble_eq_true rfl) (fun _ _ _ _ _ _ _ _ C _ => g_K_joinWords C hf)
abbrev b_K_told : ByteArray := prog_7_method_27_code
def y_K_told : MethodName := ⟨"NoneWordsModel", "told", "(I)V"⟩
abbrev ws_K_told : List Cond := Cond.code y_K_told b_K_told 2 (none) :: TB
set_option maxRecDepth 100000 in
theorem tc_K_told : Cond.code y_K_told b_K_told 2 (none) ∈ TB := inTB 885 rfl rfl
theorem mv_K_told : Cond.instanceMethod y_K_told ∈ TB ∧ Cond.selects "NoneWordsModel" y_K_told y_K_told ∈ TB ∧ Cond.initialized "NoneWordsModel" ∈ TB ∧ Cond.code y_K_told b_K_told 2 (none) ∈ TB := ⟨inTB 884 (by decide +kernel) (by decide +kernel), inTB 46 (by decide +kernel) (by decide +kernel), inTB 71 (by decide +kernel) (by decide +kernel), tc_K_told⟩
theorem pd_K_told : y_K_told.cls = "NoneWordsModel" ∧ y_K_told.cls ≠ "java/lang/invoke/MethodHandle" ∧ y_K_told.cls ≠ "java/lang/invoke/VarHandle" ∧ (parseMethodDescriptor y_K_told.desc).map (fun d => d.parameters.length) = some 1 := by decide +kernel
theorem d_K_told_0 : decode b_K_told 0 = .ok (.aload_n 0, 1) := by decide +kernel
theorem d_K_told_1 : decode b_K_told 1 = .ok (.getfield 13, 3) := by decide +kernel
theorem d_K_told_4 : decode b_K_told 4 = .ok (.iload_n 1, 1) := by decide +kernel
theorem d_K_told_5 : decode b_K_told 5 = .ok (.iaload, 1) := by decide +kernel
theorem d_K_told_6 : decode b_K_told 6 = .ok (.iconst 4, 1) := by decide +kernel
theorem d_K_told_7 : decode b_K_told 7 = .ok (.if_icmp .ne 11, 3) := by decide +kernel
theorem d_K_told_10 : decode b_K_told 10 = .ok (.aload_n 0, 1) := by decide +kernel
theorem d_K_told_11 : decode b_K_told 11 = .ok (.iload_n 1, 1) := by decide +kernel
theorem d_K_told_12 : decode b_K_told 12 = .ok (.invokevirtual 185, 3) := by decide +kernel
theorem d_K_told_15 : decode b_K_told 15 = .ok (.goto 8, 3) := by decide +kernel
theorem d_K_told_18 : decode b_K_told 18 = .ok (.aload_n 0, 1) := by decide +kernel
theorem d_K_told_19 : decode b_K_told 19 = .ok (.iload_n 1, 1) := by decide +kernel
theorem d_K_told_20 : decode b_K_told 20 = .ok (.invokevirtual 188, 3) := by decide +kernel
theorem d_K_told_23 : decode b_K_told 23 = .ok (.aload_n 0, 1) := by decide +kernel
theorem d_K_told_24 : decode b_K_told 24 = .ok (.getfield 45, 3) := by decide +kernel
theorem d_K_told_27 : decode b_K_told 27 = .ok (.iload_n 1, 1) := by decide +kernel
theorem d_K_told_28 : decode b_K_told 28 = .ok (.iaload, 1) := by decide +kernel
theorem d_K_told_29 : decode b_K_told 29 = .ok (.ifCond .ne 4, 3) := by decide +kernel
theorem d_K_told_32 : decode b_K_told 32 = .ok (.return_, 1) := by decide +kernel
theorem d_K_told_33 : decode b_K_told 33 = .ok (.aload_n 0, 1) := by decide +kernel
theorem d_K_told_34 : decode b_K_told 34 = .ok (.bipush 32, 2) := by decide +kernel
theorem d_K_told_36 : decode b_K_told 36 = .ok (.invokevirtual 131, 3) := by decide +kernel
theorem d_K_told_39 : decode b_K_told 39 = .ok (.aload_n 0, 1) := by decide +kernel
theorem d_K_told_40 : decode b_K_told 40 = .ok (.bipush 40, 2) := by decide +kernel
theorem d_K_told_42 : decode b_K_told 42 = .ok (.invokevirtual 131, 3) := by decide +kernel
theorem d_K_told_45 : decode b_K_told 45 = .ok (.aload_n 0, 1) := by decide +kernel
theorem d_K_told_46 : decode b_K_told 46 = .ok (.getfield 45, 3) := by decide +kernel
theorem d_K_told_49 : decode b_K_told 49 = .ok (.iload_n 1, 1) := by decide +kernel
theorem d_K_told_50 : decode b_K_told 50 = .ok (.iaload, 1) := by decide +kernel
theorem d_K_told_51 : decode b_K_told 51 = .ok (.bipush 99, 2) := by decide +kernel
theorem d_K_told_53 : decode b_K_told 53 = .ok (.if_icmp .le 19, 3) := by decide +kernel
theorem d_K_told_56 : decode b_K_told 56 = .ok (.aload_n 0, 1) := by decide +kernel
theorem d_K_told_57 : decode b_K_told 57 = .ok (.bipush 48, 2) := by decide +kernel
theorem d_K_told_59 : decode b_K_told 59 = .ok (.aload_n 0, 1) := by decide +kernel
theorem d_K_told_60 : decode b_K_told 60 = .ok (.getfield 45, 3) := by decide +kernel
theorem d_K_told_63 : decode b_K_told 63 = .ok (.iload_n 1, 1) := by decide +kernel
theorem d_K_told_64 : decode b_K_told 64 = .ok (.iaload, 1) := by decide +kernel
theorem d_K_told_65 : decode b_K_told 65 = .ok (.bipush 100, 2) := by decide +kernel
theorem d_K_told_67 : decode b_K_told 67 = .ok (.idiv, 1) := by decide +kernel
theorem d_K_told_68 : decode b_K_told 68 = .ok (.iadd, 1) := by decide +kernel
theorem d_K_told_69 : decode b_K_told 69 = .ok (.invokevirtual 131, 3) := by decide +kernel
theorem d_K_told_72 : decode b_K_told 72 = .ok (.aload_n 0, 1) := by decide +kernel
theorem d_K_told_73 : decode b_K_told 73 = .ok (.getfield 45, 3) := by decide +kernel
theorem d_K_told_76 : decode b_K_told 76 = .ok (.iload_n 1, 1) := by decide +kernel
theorem d_K_told_77 : decode b_K_told 77 = .ok (.iaload, 1) := by decide +kernel
theorem d_K_told_78 : decode b_K_told 78 = .ok (.bipush 9, 2) := by decide +kernel
theorem d_K_told_80 : decode b_K_told 80 = .ok (.if_icmp .le 22, 3) := by decide +kernel
theorem d_K_told_83 : decode b_K_told 83 = .ok (.aload_n 0, 1) := by decide +kernel
theorem d_K_told_84 : decode b_K_told 84 = .ok (.bipush 48, 2) := by decide +kernel
theorem d_K_told_86 : decode b_K_told 86 = .ok (.aload_n 0, 1) := by decide +kernel
theorem d_K_told_87 : decode b_K_told 87 = .ok (.getfield 45, 3) := by decide +kernel
theorem d_K_told_90 : decode b_K_told 90 = .ok (.iload_n 1, 1) := by decide +kernel
theorem d_K_told_91 : decode b_K_told 91 = .ok (.iaload, 1) := by decide +kernel
theorem d_K_told_92 : decode b_K_told 92 = .ok (.bipush 10, 2) := by decide +kernel
theorem d_K_told_94 : decode b_K_told 94 = .ok (.idiv, 1) := by decide +kernel
theorem d_K_told_95 : decode b_K_told 95 = .ok (.bipush 10, 2) := by decide +kernel
theorem d_K_told_97 : decode b_K_told 97 = .ok (.irem, 1) := by decide +kernel
theorem d_K_told_98 : decode b_K_told 98 = .ok (.iadd, 1) := by decide +kernel
theorem d_K_told_99 : decode b_K_told 99 = .ok (.invokevirtual 131, 3) := by decide +kernel
theorem d_K_told_102 : decode b_K_told 102 = .ok (.aload_n 0, 1) := by decide +kernel
theorem d_K_told_103 : decode b_K_told 103 = .ok (.bipush 48, 2) := by decide +kernel
theorem d_K_told_105 : decode b_K_told 105 = .ok (.aload_n 0, 1) := by decide +kernel
theorem d_K_told_106 : decode b_K_told 106 = .ok (.getfield 45, 3) := by decide +kernel
theorem d_K_told_109 : decode b_K_told 109 = .ok (.iload_n 1, 1) := by decide +kernel
theorem d_K_told_110 : decode b_K_told 110 = .ok (.iaload, 1) := by decide +kernel
theorem d_K_told_111 : decode b_K_told 111 = .ok (.bipush 10, 2) := by decide +kernel
theorem d_K_told_113 : decode b_K_told 113 = .ok (.irem, 1) := by decide +kernel
theorem d_K_told_114 : decode b_K_told 114 = .ok (.iadd, 1) := by decide +kernel
theorem d_K_told_115 : decode b_K_told 115 = .ok (.invokevirtual 131, 3) := by decide +kernel
theorem d_K_told_118 : decode b_K_told 118 = .ok (.aload_n 0, 1) := by decide +kernel
theorem d_K_told_119 : decode b_K_told 119 = .ok (.bipush 41, 2) := by decide +kernel
theorem d_K_told_121 : decode b_K_told 121 = .ok (.invokevirtual 131, 3) := by decide +kernel
theorem d_K_told_124 : decode b_K_told 124 = .ok (.return_, 1) := by decide +kernel
abbrev rm_K_told : Room := { frames := 6, cells := 0, slots := 0, locals := 137 }
def f_K_told_102 (x1 : Int32) (M : Mem) : Option Mem :=
  gd (inb x1 120) (om (f_K_put ((48 : Int32) + ((M 12 x1.toNatClampNeg) - (M 12 x1.toNatClampNeg) / (10 : Int32) * (10 : Int32))) M) fun M115 => om (f_K_put (41 : Int32) M115) fun M121 => some M121)
set_option maxRecDepth 100000 in
theorem g_K_told_102 {M' : Mem} (C : GC p s m args meth c b_K_told 2 (none) "NoneWordsModel" TB D vwCl (tysW cI cZ cC) A Z) {x1 : Int32} {M : Mem} (hf : f_K_told_102 x1 M = some M') : GW p l e rm_K_told s m args below meth c (MQ below (QW D vwCl (tysW cI cZ cC) A none (wk ad cI cZ cC M')) args s 0 0 A) D vwCl A 2 0 0 (wk ad cI cZ cC M) 102 [(0, .ref (ad 0)), (1, .int x1)] [] := by
  unfold f_K_told_102 at hf
  refine gw_aload_n C 0 d_K_told_102 rfl rfl ?_
  refine gw_bipush (v := (48 : Int32)) C d_K_told_103 (by decide) ?_
  refine gw_aload_n C 0 d_K_told_105 rfl rfl ?_
  refine gw_get C in_K 0 wkg_0 clg_5 14 (by decide) tw_700 rfl rfl d_K_told_106 ?_
  refine gw_iload_n C 1 d_K_told_109 rfl rfl ?_
  obtain ⟨hb110, hf⟩ := gd_some hf
  refine gw_iald C 12 0 wkg_12 rfl hb110 d_K_told_110 ?_
  refine gw_bipush (v := (10 : Int32)) C d_K_told_111 (by decide) ?_
  refine gw_irem C d_K_told_113 (by decide) ?_
  refine gw_iadd C d_K_told_114 ?_
  obtain ⟨M115, hc115, hf⟩ := om_some hf
  refine gw_callVv (rest := []) C 0 wkg_0 clg_5 (c_K_put C.2.2.2.2.2.2.2.2.2.2 hc115) (cwV 1 C.2.2.2.2.1 (gTB_V tw_876 mv_K_put) rfl rfl rfl pd_K_put ⟨Nat.le_of_ble_eq_true rfl, Nat.le_of_ble_eq_true rfl⟩) rfl rfl (Nat.le_of_ble_eq_true rfl) d_K_told_115 ⟨Nat.le_of_ble_eq_true rfl, Nat.le_of_ble_eq_true rfl⟩ ?_
  refine gw_aload_n C 0 d_K_told_118 rfl rfl ?_
  refine gw_bipush (v := (41 : Int32)) C d_K_told_119 (by decide) ?_
  obtain ⟨M121, hc121, hf⟩ := om_some hf
  refine gw_callVv (rest := []) C 0 wkg_0 clg_5 (c_K_put C.2.2.2.2.2.2.2.2.2.2 hc121) (cwV 1 C.2.2.2.2.1 (gTB_V tw_876 mv_K_put) rfl rfl rfl pd_K_put ⟨Nat.le_of_ble_eq_true rfl, Nat.le_of_ble_eq_true rfl⟩) rfl rfl (Nat.le_of_ble_eq_true rfl) d_K_told_121 ⟨Nat.le_of_ble_eq_true rfl, Nat.le_of_ble_eq_true rfl⟩ ?_
  exact gw_vreti C d_K_told_124 (wk ad cI cZ cC) hf
def f_K_told_72 (x1 : Int32) (M : Mem) : Option Mem :=
  gd (inb x1 120) (if (M 12 x1.toNatClampNeg) ≤ (9 : Int32) then f_K_told_102 x1 M else gd (inb x1 120) (om (f_K_put ((48 : Int32) + (((M 12 x1.toNatClampNeg) / (10 : Int32)) - ((M 12 x1.toNatClampNeg) / (10 : Int32)) / (10 : Int32) * (10 : Int32))) M) fun M99 => f_K_told_102 x1 M99))
set_option maxRecDepth 100000 in
theorem g_K_told_72 {M' : Mem} (C : GC p s m args meth c b_K_told 2 (none) "NoneWordsModel" TB D vwCl (tysW cI cZ cC) A Z) {x1 : Int32} {M : Mem} (hf : f_K_told_72 x1 M = some M') : GW p l e rm_K_told s m args below meth c (MQ below (QW D vwCl (tysW cI cZ cC) A none (wk ad cI cZ cC M')) args s 0 0 A) D vwCl A 2 0 0 (wk ad cI cZ cC M) 72 [(0, .ref (ad 0)), (1, .int x1)] [] := by
  unfold f_K_told_72 at hf
  refine gw_aload_n C 0 d_K_told_72 rfl rfl ?_
  refine gw_get C in_K 0 wkg_0 clg_5 14 (by decide) tw_700 rfl rfl d_K_told_73 ?_
  refine gw_iload_n C 1 d_K_told_76 rfl rfl ?_
  obtain ⟨hb77, hf⟩ := gd_some hf
  refine gw_iald C 12 0 wkg_12 rfl hb77 d_K_told_77 ?_
  refine gw_bipush (v := (9 : Int32)) C d_K_told_78 (by decide) ?_
  refine gw_icmp_le (tgt := 102) C d_K_told_80 (by decide) (fun c => ?_) (fun c => ?_)
  · have hf := (if_pos c).symm.trans hf
    exact gw_sub [0, 1] rfl (g_K_told_102 C hf)
  · have hf := (if_neg c).symm.trans hf
    refine gw_aload_n C 0 d_K_told_83 rfl rfl ?_
    refine gw_bipush (v := (48 : Int32)) C d_K_told_84 (by decide) ?_
    refine gw_aload_n C 0 d_K_told_86 rfl rfl ?_
    refine gw_get C in_K 0 wkg_0 clg_5 14 (by decide) tw_700 rfl rfl d_K_told_87 ?_
    refine gw_iload_n C 1 d_K_told_90 rfl rfl ?_
    obtain ⟨hb91, hf⟩ := gd_some hf
    refine gw_iald C 12 0 wkg_12 rfl hb91 d_K_told_91 ?_
    refine gw_bipush (v := (10 : Int32)) C d_K_told_92 (by decide) ?_
    refine gw_idiv C d_K_told_94 (by decide) ?_
    refine gw_bipush (v := (10 : Int32)) C d_K_told_95 (by decide) ?_
    refine gw_irem C d_K_told_97 (by decide) ?_
    refine gw_iadd C d_K_told_98 ?_
    obtain ⟨M99, hc99, hf⟩ := om_some hf
    refine gw_callVv (rest := []) C 0 wkg_0 clg_5 (c_K_put C.2.2.2.2.2.2.2.2.2.2 hc99) (cwV 1 C.2.2.2.2.1 (gTB_V tw_876 mv_K_put) rfl rfl rfl pd_K_put ⟨Nat.le_of_ble_eq_true rfl, Nat.le_of_ble_eq_true rfl⟩) rfl rfl (Nat.le_of_ble_eq_true rfl) d_K_told_99 ⟨Nat.le_of_ble_eq_true rfl, Nat.le_of_ble_eq_true rfl⟩ ?_
    exact gw_sub [0, 1] rfl (g_K_told_102 C hf)
def f_K_told_23 (x1 : Int32) (M : Mem) : Option Mem :=
  gd (inb x1 120) (if (M 12 x1.toNatClampNeg) = 0 then some M else om (f_K_put (32 : Int32) M) fun M36 => om (f_K_put (40 : Int32) M36) fun M42 => gd (inb x1 120) (if (M42 12 x1.toNatClampNeg) ≤ (99 : Int32) then f_K_told_72 x1 M42 else gd (inb x1 120) (om (f_K_put ((48 : Int32) + ((M42 12 x1.toNatClampNeg) / (100 : Int32))) M42) fun M69 => f_K_told_72 x1 M69)))
set_option maxRecDepth 100000 in
theorem g_K_told_23 {M' : Mem} (C : GC p s m args meth c b_K_told 2 (none) "NoneWordsModel" TB D vwCl (tysW cI cZ cC) A Z) {x1 : Int32} {M : Mem} (hf : f_K_told_23 x1 M = some M') : GW p l e rm_K_told s m args below meth c (MQ below (QW D vwCl (tysW cI cZ cC) A none (wk ad cI cZ cC M')) args s 0 0 A) D vwCl A 2 0 0 (wk ad cI cZ cC M) 23 [(0, .ref (ad 0)), (1, .int x1)] [] := by
  unfold f_K_told_23 at hf
  refine gw_aload_n C 0 d_K_told_23 rfl rfl ?_
  refine gw_get C in_K 0 wkg_0 clg_5 14 (by decide) tw_700 rfl rfl d_K_told_24 ?_
  refine gw_iload_n C 1 d_K_told_27 rfl rfl ?_
  obtain ⟨hb28, hf⟩ := gd_some hf
  refine gw_iald C 12 0 wkg_12 rfl hb28 d_K_told_28 ?_
  refine gw_if_ne (tgt := 33) C d_K_told_29 (by decide) (fun c => ?_) (fun c => ?_)
  · have hf := (if_neg c).symm.trans hf
    refine gw_aload_n C 0 d_K_told_33 rfl rfl ?_
    refine gw_bipush (v := (32 : Int32)) C d_K_told_34 (by decide) ?_
    obtain ⟨M36, hc36, hf⟩ := om_some hf
    refine gw_callVv (rest := []) C 0 wkg_0 clg_5 (c_K_put C.2.2.2.2.2.2.2.2.2.2 hc36) (cwV 1 C.2.2.2.2.1 (gTB_V tw_876 mv_K_put) rfl rfl rfl pd_K_put ⟨Nat.le_of_ble_eq_true rfl, Nat.le_of_ble_eq_true rfl⟩) rfl rfl (Nat.le_of_ble_eq_true rfl) d_K_told_36 ⟨Nat.le_of_ble_eq_true rfl, Nat.le_of_ble_eq_true rfl⟩ ?_
    refine gw_aload_n C 0 d_K_told_39 rfl rfl ?_
    refine gw_bipush (v := (40 : Int32)) C d_K_told_40 (by decide) ?_
    obtain ⟨M42, hc42, hf⟩ := om_some hf
    refine gw_callVv (rest := []) C 0 wkg_0 clg_5 (c_K_put C.2.2.2.2.2.2.2.2.2.2 hc42) (cwV 1 C.2.2.2.2.1 (gTB_V tw_876 mv_K_put) rfl rfl rfl pd_K_put ⟨Nat.le_of_ble_eq_true rfl, Nat.le_of_ble_eq_true rfl⟩) rfl rfl (Nat.le_of_ble_eq_true rfl) d_K_told_42 ⟨Nat.le_of_ble_eq_true rfl, Nat.le_of_ble_eq_true rfl⟩ ?_
    refine gw_aload_n C 0 d_K_told_45 rfl rfl ?_
    refine gw_get C in_K 0 wkg_0 clg_5 14 (by decide) tw_700 rfl rfl d_K_told_46 ?_
    refine gw_iload_n C 1 d_K_told_49 rfl rfl ?_
    obtain ⟨hb50, hf⟩ := gd_some hf
    refine gw_iald C 12 0 wkg_12 rfl hb50 d_K_told_50 ?_
    refine gw_bipush (v := (99 : Int32)) C d_K_told_51 (by decide) ?_
    refine gw_icmp_le (tgt := 72) C d_K_told_53 (by decide) (fun c => ?_) (fun c => ?_)
    · have hf := (if_pos c).symm.trans hf
      exact gw_sub [0, 1] rfl (g_K_told_72 C hf)
    · have hf := (if_neg c).symm.trans hf
      refine gw_aload_n C 0 d_K_told_56 rfl rfl ?_
      refine gw_bipush (v := (48 : Int32)) C d_K_told_57 (by decide) ?_
      refine gw_aload_n C 0 d_K_told_59 rfl rfl ?_
      refine gw_get C in_K 0 wkg_0 clg_5 14 (by decide) tw_700 rfl rfl d_K_told_60 ?_
      refine gw_iload_n C 1 d_K_told_63 rfl rfl ?_
      obtain ⟨hb64, hf⟩ := gd_some hf
      refine gw_iald C 12 0 wkg_12 rfl hb64 d_K_told_64 ?_
      refine gw_bipush (v := (100 : Int32)) C d_K_told_65 (by decide) ?_
      refine gw_idiv C d_K_told_67 (by decide) ?_
      refine gw_iadd C d_K_told_68 ?_
      obtain ⟨M69, hc69, hf⟩ := om_some hf
      refine gw_callVv (rest := []) C 0 wkg_0 clg_5 (c_K_put C.2.2.2.2.2.2.2.2.2.2 hc69) (cwV 1 C.2.2.2.2.1 (gTB_V tw_876 mv_K_put) rfl rfl rfl pd_K_put ⟨Nat.le_of_ble_eq_true rfl, Nat.le_of_ble_eq_true rfl⟩) rfl rfl (Nat.le_of_ble_eq_true rfl) d_K_told_69 ⟨Nat.le_of_ble_eq_true rfl, Nat.le_of_ble_eq_true rfl⟩ ?_
      exact gw_sub [0, 1] rfl (g_K_told_72 C hf)
  · have hf := (if_pos c).symm.trans hf
    exact gw_vreti C d_K_told_32 (wk ad cI cZ cC) hf
def f_K_told (x1 : Int32) (M : Mem) : Option Mem :=
  gd (inb x1 120) (if (M 2 x1.toNatClampNeg) = (4 : Int32) then om (f_K_joinWords x1 M) fun M12 => f_K_told_23 x1 M12 else om (f_K_leafWords x1 M) fun M20 => f_K_told_23 x1 M20)
set_option maxRecDepth 100000 in
theorem g_K_told {M' : Mem} (C : GC p s m args meth c b_K_told 2 (none) "NoneWordsModel" TB D vwCl (tysW cI cZ cC) A Z) {x1 : Int32} {M : Mem} (hf : f_K_told x1 M = some M') : GW p l e rm_K_told s m args below meth c (MQ below (QW D vwCl (tysW cI cZ cC) A none (wk ad cI cZ cC M')) args s 0 0 A) D vwCl A 2 0 0 (wk ad cI cZ cC M) 0 [(0, .ref (ad 0)), (1, .int x1)] [] := by
  unfold f_K_told at hf
  refine gw_aload_n C 0 d_K_told_0 rfl rfl ?_
  refine gw_get C in_K 0 wkg_0 clg_5 4 (by decide) tw_690 rfl rfl d_K_told_1 ?_
  refine gw_iload_n C 1 d_K_told_4 rfl rfl ?_
  obtain ⟨hb5, hf⟩ := gd_some hf
  refine gw_iald C 2 0 wkg_2 rfl hb5 d_K_told_5 ?_
  refine gw_iconst (v := (4 : Int32)) C d_K_told_6 (by decide) ?_
  refine gw_icmp_ne (tgt := 18) C d_K_told_7 (by decide) (fun c => ?_) (fun c => ?_)
  · have hf := (if_neg c).symm.trans hf
    refine gw_aload_n C 0 d_K_told_18 rfl rfl ?_
    refine gw_iload_n C 1 d_K_told_19 rfl rfl ?_
    obtain ⟨M20, hc20, hf⟩ := om_some hf
    refine gw_callVv (rest := []) C 0 wkg_0 clg_5 (c_K_leafWords C.2.2.2.2.2.2.2.2.2.2 hc20) (cwV 1 C.2.2.2.2.1 (gTB_V tw_913 mv_K_leafWords) rfl rfl rfl pd_K_leafWords ⟨Nat.le_of_ble_eq_true rfl, Nat.le_of_ble_eq_true rfl⟩) rfl rfl (Nat.le_of_ble_eq_true rfl) d_K_told_20 ⟨Nat.le_of_ble_eq_true rfl, Nat.le_of_ble_eq_true rfl⟩ ?_
    exact gw_sub [0, 1] rfl (g_K_told_23 C hf)
  · have hf := (if_pos c).symm.trans hf
    refine gw_aload_n C 0 d_K_told_10 rfl rfl ?_
    refine gw_iload_n C 1 d_K_told_11 rfl rfl ?_
    obtain ⟨M12, hc12, hf⟩ := om_some hf
    refine gw_callVv (rest := []) C 0 wkg_0 clg_5 (c_K_joinWords C.2.2.2.2.2.2.2.2.2.2 hc12) (cwV 1 C.2.2.2.2.1 (gTB_V tw_886 mv_K_joinWords) rfl rfl rfl pd_K_joinWords ⟨Nat.le_of_ble_eq_true rfl, Nat.le_of_ble_eq_true rfl⟩) rfl rfl (Nat.le_of_ble_eq_true rfl) d_K_told_12 ⟨Nat.le_of_ble_eq_true rfl, Nat.le_of_ble_eq_true rfl⟩ ?_
    refine gw_goto (tgt := 23) C d_K_told_15 (by decide) ?_
    exact gw_sub [0, 1] rfl (g_K_told_23 C hf)
theorem c_K_told (hZ : gw_ZOK Z) {x1 : Int32} {M : Mem} {M' : Mem} (hf : f_K_told x1 M = some M') : CW l y_K_told ws_K_told rm_K_told D vwCl (tysW cI cZ cC) Z [.ref (ad 0), .int x1] (wk ad cI cZ cC M) none (wk ad cI cZ cC M') 0 0 :=
  CW.ofG hZ (by decide) rfl (Nat.le_of_ble_eq_true rfl) (fun _ _ _ _ _ _ _ _ C _ => g_K_told C hf)
abbrev b_K_begin : ByteArray := prog_7_method_28_code
def y_K_begin : MethodName := ⟨"NoneWordsModel", "begin", "()V"⟩
abbrev ws_K_begin : List Cond := Cond.code y_K_begin b_K_begin 1 (none) :: TB
set_option maxRecDepth 100000 in
theorem tc_K_begin : Cond.code y_K_begin b_K_begin 1 (none) ∈ TB := inTB 869 rfl rfl
theorem mv_K_begin : Cond.instanceMethod y_K_begin ∈ TB ∧ Cond.selects "NoneWordsModel" y_K_begin y_K_begin ∈ TB ∧ Cond.initialized "NoneWordsModel" ∈ TB ∧ Cond.code y_K_begin b_K_begin 1 (none) ∈ TB := ⟨inTB 868 (by decide +kernel) (by decide +kernel), inTB 43 (by decide +kernel) (by decide +kernel), inTB 71 (by decide +kernel) (by decide +kernel), tc_K_begin⟩
theorem pd_K_begin : y_K_begin.cls = "NoneWordsModel" ∧ y_K_begin.cls ≠ "java/lang/invoke/MethodHandle" ∧ y_K_begin.cls ≠ "java/lang/invoke/VarHandle" ∧ (parseMethodDescriptor y_K_begin.desc).map (fun d => d.parameters.length) = some 0 := by decide +kernel
theorem d_K_begin_0 : decode b_K_begin 0 = .ok (.aload_n 0, 1) := by decide +kernel
theorem d_K_begin_1 : decode b_K_begin 1 = .ok (.getfield 39, 3) := by decide +kernel
theorem d_K_begin_4 : decode b_K_begin 4 = .ok (.aload_n 0, 1) := by decide +kernel
theorem d_K_begin_5 : decode b_K_begin 5 = .ok (.getfield 191, 3) := by decide +kernel
theorem d_K_begin_8 : decode b_K_begin 8 = .ok (.aload_n 0, 1) := by decide +kernel
theorem d_K_begin_9 : decode b_K_begin 9 = .ok (.getfield 126, 3) := by decide +kernel
theorem d_K_begin_12 : decode b_K_begin 12 = .ok (.iastore, 1) := by decide +kernel
theorem d_K_begin_13 : decode b_K_begin 13 = .ok (.aload_n 0, 1) := by decide +kernel
theorem d_K_begin_14 : decode b_K_begin 14 = .ok (.getfield 42, 3) := by decide +kernel
theorem d_K_begin_17 : decode b_K_begin 17 = .ok (.aload_n 0, 1) := by decide +kernel
theorem d_K_begin_18 : decode b_K_begin 18 = .ok (.getfield 191, 3) := by decide +kernel
theorem d_K_begin_21 : decode b_K_begin 21 = .ok (.iconst 0, 1) := by decide +kernel
theorem d_K_begin_22 : decode b_K_begin 22 = .ok (.iastore, 1) := by decide +kernel
theorem d_K_begin_23 : decode b_K_begin 23 = .ok (.aload_n 0, 1) := by decide +kernel
theorem d_K_begin_24 : decode b_K_begin 24 = .ok (.dup, 1) := by decide +kernel
theorem d_K_begin_25 : decode b_K_begin 25 = .ok (.getfield 191, 3) := by decide +kernel
theorem d_K_begin_28 : decode b_K_begin 28 = .ok (.iconst 1, 1) := by decide +kernel
theorem d_K_begin_29 : decode b_K_begin 29 = .ok (.iadd, 1) := by decide +kernel
theorem d_K_begin_30 : decode b_K_begin 30 = .ok (.putfield 191, 3) := by decide +kernel
theorem d_K_begin_33 : decode b_K_begin 33 = .ok (.return_, 1) := by decide +kernel
abbrev rm_K_begin : Room := { frames := 0, cells := 0, slots := 0, locals := 0 }
def f_K_begin (M : Mem) : Option Mem :=
  gd (inb (M 0 17) 400) (gd (inb ((ms M 10 (M 0 17).toNatClampNeg (M 0 16)) 0 17) 400) (some (ms (ms (ms M 10 (M 0 17).toNatClampNeg (M 0 16)) 11 ((ms M 10 (M 0 17).toNatClampNeg (M 0 16)) 0 17).toNatClampNeg (0 : Int32)) 0 17 (((ms (ms M 10 (M 0 17).toNatClampNeg (M 0 16)) 11 ((ms M 10 (M 0 17).toNatClampNeg (M 0 16)) 0 17).toNatClampNeg (0 : Int32)) 0 17) + (1 : Int32)))))
set_option maxRecDepth 100000 in
theorem g_K_begin {M' : Mem} (C : GC p s m args meth c b_K_begin 1 (none) "NoneWordsModel" TB D vwCl (tysW cI cZ cC) A Z) {M : Mem} (hf : f_K_begin M = some M') : GW p l e rm_K_begin s m args below meth c (MQ below (QW D vwCl (tysW cI cZ cC) A none (wk ad cI cZ cC M')) args s 0 0 A) D vwCl A 1 0 0 (wk ad cI cZ cC M) 0 [(0, .ref (ad 0))] [] := by
  unfold f_K_begin at hf
  refine gw_aload_n C 0 d_K_begin_0 rfl rfl ?_
  refine gw_get C in_K 0 wkg_0 clg_5 12 (by decide) tw_698 rfl rfl d_K_begin_1 ?_
  refine gw_aload_n C 0 d_K_begin_4 rfl rfl ?_
  refine gw_get C in_K 0 wkg_0 clg_5 17 (by decide) tw_703 rfl rfl d_K_begin_5 ?_
  refine gw_aload_n C 0 d_K_begin_8 rfl rfl ?_
  refine gw_get C in_K 0 wkg_0 clg_5 16 (by decide) tw_702 rfl rfl d_K_begin_9 ?_
  obtain ⟨hb12, hf⟩ := gd_some hf
  refine gw_iast C 10 0 wkg_10 rfl hb12 d_K_begin_12 wka_10 ?_
  refine gw_aload_n C 0 d_K_begin_13 rfl rfl ?_
  refine gw_get C in_K 0 wkg_0 clg_5 13 (by decide) tw_699 rfl rfl d_K_begin_14 ?_
  refine gw_aload_n C 0 d_K_begin_17 rfl rfl ?_
  refine gw_get C in_K 0 wkg_0 clg_5 17 (by decide) tw_703 rfl rfl d_K_begin_18 ?_
  refine gw_iconst (v := (0 : Int32)) C d_K_begin_21 (by decide) ?_
  obtain ⟨hb22, hf⟩ := gd_some hf
  refine gw_iast C 11 0 wkg_11 rfl hb22 d_K_begin_22 wka_11 ?_
  refine gw_aload_n C 0 d_K_begin_23 rfl rfl ?_
  refine gw_dup C d_K_begin_24 rfl ?_
  refine gw_get C in_K 0 wkg_0 clg_5 17 (by decide) tw_703 rfl rfl d_K_begin_25 ?_
  refine gw_iconst (v := (1 : Int32)) C d_K_begin_28 (by decide) ?_
  refine gw_iadd C d_K_begin_29 ?_
  refine gw_put C in_K ty_K tk_K nm_K 0 wkg_0 clg_5 17 (by decide) tw_703 rfl rfl rfl rfl (Nat.le_of_ble_eq_true rfl) d_K_begin_30 wkf_0_17 ?_
  exact gw_vreti C d_K_begin_33 (wk ad cI cZ cC) hf
theorem c_K_begin (hZ : gw_ZOK Z) {M : Mem} {M' : Mem} (hf : f_K_begin M = some M') : CW l y_K_begin ws_K_begin rm_K_begin D vwCl (tysW cI cZ cC) Z [.ref (ad 0)] (wk ad cI cZ cC M) none (wk ad cI cZ cC M') 0 0 :=
  CW.ofG hZ (by decide) rfl (Nat.le_of_ble_eq_true rfl) (fun _ _ _ _ _ _ _ _ C _ => g_K_begin C hf)
abbrev b_K_because : ByteArray := prog_7_method_29_code
def y_K_because : MethodName := ⟨"NoneWordsModel", "because", "(ZIII)V"⟩
abbrev ws_K_because : List Cond := Cond.code y_K_because b_K_because 5 (none) :: TB
set_option maxRecDepth 100000 in
theorem tc_K_because : Cond.code y_K_because b_K_because 5 (none) ∈ TB := inTB 865 rfl rfl
theorem mv_K_because : Cond.instanceMethod y_K_because ∈ TB ∧ Cond.selects "NoneWordsModel" y_K_because y_K_because ∈ TB ∧ Cond.initialized "NoneWordsModel" ∈ TB ∧ Cond.code y_K_because b_K_because 5 (none) ∈ TB := ⟨inTB 864 (by decide +kernel) (by decide +kernel), inTB 42 (by decide +kernel) (by decide +kernel), inTB 71 (by decide +kernel) (by decide +kernel), tc_K_because⟩
theorem pd_K_because : y_K_because.cls = "NoneWordsModel" ∧ y_K_because.cls ≠ "java/lang/invoke/MethodHandle" ∧ y_K_because.cls ≠ "java/lang/invoke/VarHandle" ∧ (parseMethodDescriptor y_K_because.desc).map (fun d => d.parameters.length) = some 4 := by decide +kernel
theorem d_K_because_0 : decode b_K_because 0 = .ok (.aload_n 0, 1) := by decide +kernel
theorem d_K_because_1 : decode b_K_because 1 = .ok (.invokevirtual 194, 3) := by decide +kernel
theorem d_K_because_4 : decode b_K_because 4 = .ok (.iload_n 1, 1) := by decide +kernel
theorem d_K_because_5 : decode b_K_because 5 = .ok (.ifCond .eq 20, 3) := by decide +kernel
theorem d_K_because_8 : decode b_K_because 8 = .ok (.aload_n 0, 1) := by decide +kernel
theorem d_K_because_9 : decode b_K_because 9 = .ok (.ldc2_w 197, 3) := by decide +kernel
theorem d_K_because_12 : decode b_K_because 12 = .ok (.invokevirtual 137, 3) := by decide +kernel
theorem d_K_because_15 : decode b_K_because 15 = .ok (.aload_n 0, 1) := by decide +kernel
theorem d_K_because_16 : decode b_K_because 16 = .ok (.ldc2_w 199, 3) := by decide +kernel
theorem d_K_because_19 : decode b_K_because 19 = .ok (.invokevirtual 137, 3) := by decide +kernel
theorem d_K_because_22 : decode b_K_because 22 = .ok (.goto 10, 3) := by decide +kernel
theorem d_K_because_25 : decode b_K_because 25 = .ok (.aload_n 0, 1) := by decide +kernel
theorem d_K_because_26 : decode b_K_because 26 = .ok (.ldc2_w 201, 3) := by decide +kernel
theorem d_K_because_29 : decode b_K_because 29 = .ok (.invokevirtual 137, 3) := by decide +kernel
theorem d_K_because_32 : decode b_K_because 32 = .ok (.aload_n 0, 1) := by decide +kernel
theorem d_K_because_33 : decode b_K_because 33 = .ok (.iload_n 2, 1) := by decide +kernel
theorem d_K_because_34 : decode b_K_because 34 = .ok (.invokevirtual 203, 3) := by decide +kernel
theorem d_K_because_37 : decode b_K_because 37 = .ok (.iload_n 3, 1) := by decide +kernel
theorem d_K_because_38 : decode b_K_because 38 = .ok (.iconst (-1), 1) := by decide +kernel
theorem d_K_because_39 : decode b_K_because 39 = .ok (.if_icmp .eq 15, 3) := by decide +kernel
theorem d_K_because_42 : decode b_K_because 42 = .ok (.aload_n 0, 1) := by decide +kernel
theorem d_K_because_43 : decode b_K_because 43 = .ok (.ldc2_w 158, 3) := by decide +kernel
theorem d_K_because_46 : decode b_K_because 46 = .ok (.invokevirtual 137, 3) := by decide +kernel
theorem d_K_because_49 : decode b_K_because 49 = .ok (.aload_n 0, 1) := by decide +kernel
theorem d_K_because_50 : decode b_K_because 50 = .ok (.iload_n 3, 1) := by decide +kernel
theorem d_K_because_51 : decode b_K_because 51 = .ok (.invokevirtual 203, 3) := by decide +kernel
theorem d_K_because_54 : decode b_K_because 54 = .ok (.aload_n 0, 1) := by decide +kernel
theorem d_K_because_55 : decode b_K_because 55 = .ok (.bipush 44, 2) := by decide +kernel
theorem d_K_because_57 : decode b_K_because 57 = .ok (.invokevirtual 131, 3) := by decide +kernel
theorem d_K_because_60 : decode b_K_because 60 = .ok (.aload_n 0, 1) := by decide +kernel
theorem d_K_because_61 : decode b_K_because 61 = .ok (.bipush 32, 2) := by decide +kernel
theorem d_K_because_63 : decode b_K_because 63 = .ok (.invokevirtual 131, 3) := by decide +kernel
theorem d_K_because_66 : decode b_K_because 66 = .ok (.aload_n 0, 1) := by decide +kernel
theorem d_K_because_67 : decode b_K_because 67 = .ok (.iload 4, 2) := by decide +kernel
theorem d_K_because_69 : decode b_K_because 69 = .ok (.invokevirtual 203, 3) := by decide +kernel
theorem d_K_because_72 : decode b_K_because 72 = .ok (.aload_n 0, 1) := by decide +kernel
theorem d_K_because_73 : decode b_K_because 73 = .ok (.bipush 46, 2) := by decide +kernel
theorem d_K_because_75 : decode b_K_because 75 = .ok (.invokevirtual 131, 3) := by decide +kernel
theorem d_K_because_78 : decode b_K_because 78 = .ok (.return_, 1) := by decide +kernel
abbrev rm_K_because : Room := { frames := 7, cells := 0, slots := 0, locals := 158 }
def f_K_because_54 (x4 : Int32) (M : Mem) : Option Mem :=
  om (f_K_put (44 : Int32) M) fun M57 => om (f_K_put (32 : Int32) M57) fun M63 => om (f_K_told x4 M63) fun M69 => om (f_K_put (46 : Int32) M69) fun M75 => some M75
set_option maxRecDepth 100000 in
theorem g_K_because_54 {M' : Mem} (C : GC p s m args meth c b_K_because 5 (none) "NoneWordsModel" TB D vwCl (tysW cI cZ cC) A Z) {x4 : Int32} {M : Mem} (hf : f_K_because_54 x4 M = some M') : GW p l e rm_K_because s m args below meth c (MQ below (QW D vwCl (tysW cI cZ cC) A none (wk ad cI cZ cC M')) args s 0 0 A) D vwCl A 5 0 0 (wk ad cI cZ cC M) 54 [(0, .ref (ad 0)), (4, .int x4)] [] := by
  unfold f_K_because_54 at hf
  refine gw_aload_n C 0 d_K_because_54 rfl rfl ?_
  refine gw_bipush (v := (44 : Int32)) C d_K_because_55 (by decide) ?_
  obtain ⟨M57, hc57, hf⟩ := om_some hf
  refine gw_callVv (rest := []) C 0 wkg_0 clg_5 (c_K_put C.2.2.2.2.2.2.2.2.2.2 hc57) (cwV 1 C.2.2.2.2.1 (gTB_V tw_876 mv_K_put) rfl rfl rfl pd_K_put ⟨Nat.le_of_ble_eq_true rfl, Nat.le_of_ble_eq_true rfl⟩) rfl rfl (Nat.le_of_ble_eq_true rfl) d_K_because_57 ⟨Nat.le_of_ble_eq_true rfl, Nat.le_of_ble_eq_true rfl⟩ ?_
  refine gw_aload_n C 0 d_K_because_60 rfl rfl ?_
  refine gw_bipush (v := (32 : Int32)) C d_K_because_61 (by decide) ?_
  obtain ⟨M63, hc63, hf⟩ := om_some hf
  refine gw_callVv (rest := []) C 0 wkg_0 clg_5 (c_K_put C.2.2.2.2.2.2.2.2.2.2 hc63) (cwV 1 C.2.2.2.2.1 (gTB_V tw_876 mv_K_put) rfl rfl rfl pd_K_put ⟨Nat.le_of_ble_eq_true rfl, Nat.le_of_ble_eq_true rfl⟩) rfl rfl (Nat.le_of_ble_eq_true rfl) d_K_because_63 ⟨Nat.le_of_ble_eq_true rfl, Nat.le_of_ble_eq_true rfl⟩ ?_
  refine gw_aload_n C 0 d_K_because_66 rfl rfl ?_
  refine gw_iload C 1 d_K_because_67 rfl ?_
  obtain ⟨M69, hc69, hf⟩ := om_some hf
  refine gw_callVv (rest := []) C 0 wkg_0 clg_5 (c_K_told C.2.2.2.2.2.2.2.2.2.2 hc69) (cwV 1 C.2.2.2.2.1 (gTB_V tw_882 mv_K_told) rfl rfl rfl pd_K_told ⟨Nat.le_of_ble_eq_true rfl, Nat.le_of_ble_eq_true rfl⟩) rfl rfl (Nat.le_of_ble_eq_true rfl) d_K_because_69 ⟨Nat.le_of_ble_eq_true rfl, Nat.le_of_ble_eq_true rfl⟩ ?_
  refine gw_aload_n C 0 d_K_because_72 rfl rfl ?_
  refine gw_bipush (v := (46 : Int32)) C d_K_because_73 (by decide) ?_
  obtain ⟨M75, hc75, hf⟩ := om_some hf
  refine gw_callVv (rest := []) C 0 wkg_0 clg_5 (c_K_put C.2.2.2.2.2.2.2.2.2.2 hc75) (cwV 1 C.2.2.2.2.1 (gTB_V tw_876 mv_K_put) rfl rfl rfl pd_K_put ⟨Nat.le_of_ble_eq_true rfl, Nat.le_of_ble_eq_true rfl⟩) rfl rfl (Nat.le_of_ble_eq_true rfl) d_K_because_75 ⟨Nat.le_of_ble_eq_true rfl, Nat.le_of_ble_eq_true rfl⟩ ?_
  exact gw_vreti C d_K_because_78 (wk ad cI cZ cC) hf
def f_K_because_32 (x2 : Int32) (x3 : Int32) (x4 : Int32) (M : Mem) : Option Mem :=
  om (f_K_told x2 M) fun M34 => if x3 = (-1 : Int32) then f_K_because_54 x4 M34 else om (f_K_say (139073578016 : Int64) M34) fun M46 => om (f_K_told x3 M46) fun M51 => f_K_because_54 x4 M51
set_option maxRecDepth 100000 in
theorem g_K_because_32 {M' : Mem} (C : GC p s m args meth c b_K_because 5 (none) "NoneWordsModel" TB D vwCl (tysW cI cZ cC) A Z) {x2 : Int32} {x3 : Int32} {x4 : Int32} {M : Mem} (hf : f_K_because_32 x2 x3 x4 M = some M') : GW p l e rm_K_because s m args below meth c (MQ below (QW D vwCl (tysW cI cZ cC) A none (wk ad cI cZ cC M')) args s 0 0 A) D vwCl A 5 0 0 (wk ad cI cZ cC M) 32 [(0, .ref (ad 0)), (2, .int x2), (3, .int x3), (4, .int x4)] [] := by
  unfold f_K_because_32 at hf
  refine gw_aload_n C 0 d_K_because_32 rfl rfl ?_
  refine gw_iload_n C 1 d_K_because_33 rfl rfl ?_
  obtain ⟨M34, hc34, hf⟩ := om_some hf
  refine gw_callVv (rest := []) C 0 wkg_0 clg_5 (c_K_told C.2.2.2.2.2.2.2.2.2.2 hc34) (cwV 1 C.2.2.2.2.1 (gTB_V tw_882 mv_K_told) rfl rfl rfl pd_K_told ⟨Nat.le_of_ble_eq_true rfl, Nat.le_of_ble_eq_true rfl⟩) rfl rfl (Nat.le_of_ble_eq_true rfl) d_K_because_34 ⟨Nat.le_of_ble_eq_true rfl, Nat.le_of_ble_eq_true rfl⟩ ?_
  refine gw_iload_n C 2 d_K_because_37 rfl rfl ?_
  refine gw_iconst (v := (-1 : Int32)) C d_K_because_38 (by decide) ?_
  refine gw_icmp_eq (tgt := 54) C d_K_because_39 (by decide) (fun c => ?_) (fun c => ?_)
  · have hf := (if_pos c).symm.trans hf
    exact gw_sub [0, 3] rfl (g_K_because_54 C hf)
  · have hf := (if_neg c).symm.trans hf
    refine gw_aload_n C 0 d_K_because_42 rfl rfl ?_
    refine gw_ldc2 (v := (139073578016 : Int64)) C d_K_because_43 tw_900 ?_
    obtain ⟨M46, hc46, hf⟩ := om_some hf
    refine gw_callVv (rest := []) C 0 wkg_0 clg_5 (c_K_say C.2.2.2.2.2.2.2.2.2.2 hc46) (cwV 1 C.2.2.2.2.1 (gTB_V tw_871 mv_K_say) rfl rfl rfl pd_K_say ⟨Nat.le_of_ble_eq_true rfl, Nat.le_of_ble_eq_true rfl⟩) rfl rfl (Nat.le_of_ble_eq_true rfl) d_K_because_46 ⟨Nat.le_of_ble_eq_true rfl, Nat.le_of_ble_eq_true rfl⟩ ?_
    refine gw_aload_n C 0 d_K_because_49 rfl rfl ?_
    refine gw_iload_n C 2 d_K_because_50 rfl rfl ?_
    obtain ⟨M51, hc51, hf⟩ := om_some hf
    refine gw_callVv (rest := []) C 0 wkg_0 clg_5 (c_K_told C.2.2.2.2.2.2.2.2.2.2 hc51) (cwV 1 C.2.2.2.2.1 (gTB_V tw_882 mv_K_told) rfl rfl rfl pd_K_told ⟨Nat.le_of_ble_eq_true rfl, Nat.le_of_ble_eq_true rfl⟩) rfl rfl (Nat.le_of_ble_eq_true rfl) d_K_because_51 ⟨Nat.le_of_ble_eq_true rfl, Nat.le_of_ble_eq_true rfl⟩ ?_
    exact gw_sub [0, 3] rfl (g_K_because_54 C hf)
def f_K_because (x1 : Int32) (x2 : Int32) (x3 : Int32) (x4 : Int32) (M : Mem) : Option Mem :=
  om (f_K_begin M) fun M1 => if x1 = 0 then om (f_K_say (4784339449384494368 : Int64) M1) fun M29 => f_K_because_32 x2 x3 x4 M29 else om (f_K_say (4714815950156030817 : Int64) M1) fun M12 => om (f_K_say (1970496800 : Int64) M12) fun M19 => f_K_because_32 x2 x3 x4 M19
set_option maxRecDepth 100000 in
theorem g_K_because {M' : Mem} (C : GC p s m args meth c b_K_because 5 (none) "NoneWordsModel" TB D vwCl (tysW cI cZ cC) A Z) {x1 : Int32} {x2 : Int32} {x3 : Int32} {x4 : Int32} {M : Mem} (hf : f_K_because x1 x2 x3 x4 M = some M') : GW p l e rm_K_because s m args below meth c (MQ below (QW D vwCl (tysW cI cZ cC) A none (wk ad cI cZ cC M')) args s 0 0 A) D vwCl A 5 0 0 (wk ad cI cZ cC M) 0 [(0, .ref (ad 0)), (1, .int x1), (2, .int x2), (3, .int x3), (4, .int x4)] [] := by
  unfold f_K_because at hf
  refine gw_aload_n C 0 d_K_because_0 rfl rfl ?_
  obtain ⟨M1, hc1, hf⟩ := om_some hf
  refine gw_callVv (rest := []) C 0 wkg_0 clg_5 (c_K_begin C.2.2.2.2.2.2.2.2.2.2 hc1) (cwV 0 C.2.2.2.2.1 (gTB_V tw_866 mv_K_begin) rfl rfl rfl pd_K_begin ⟨Nat.le_of_ble_eq_true rfl, Nat.le_of_ble_eq_true rfl⟩) rfl rfl (Nat.le_of_ble_eq_true rfl) d_K_because_1 ⟨Nat.le_of_ble_eq_true rfl, Nat.le_of_ble_eq_true rfl⟩ ?_
  refine gw_iload_n C 1 d_K_because_4 rfl rfl ?_
  refine gw_if_eq (tgt := 25) C d_K_because_5 (by decide) (fun c => ?_) (fun c => ?_)
  · have hf := (if_pos c).symm.trans hf
    refine gw_aload_n C 0 d_K_because_25 rfl rfl ?_
    refine gw_ldc2 (v := (4784339449384494368 : Int64)) C d_K_because_26 tw_881 ?_
    obtain ⟨M29, hc29, hf⟩ := om_some hf
    refine gw_callVv (rest := []) C 0 wkg_0 clg_5 (c_K_say C.2.2.2.2.2.2.2.2.2.2 hc29) (cwV 1 C.2.2.2.2.1 (gTB_V tw_871 mv_K_say) rfl rfl rfl pd_K_say ⟨Nat.le_of_ble_eq_true rfl, Nat.le_of_ble_eq_true rfl⟩) rfl rfl (Nat.le_of_ble_eq_true rfl) d_K_because_29 ⟨Nat.le_of_ble_eq_true rfl, Nat.le_of_ble_eq_true rfl⟩ ?_
    exact gw_sub [0, 2, 3, 4] rfl (g_K_because_32 C hf)
  · have hf := (if_neg c).symm.trans hf
    refine gw_aload_n C 0 d_K_because_8 rfl rfl ?_
    refine gw_ldc2 (v := (4714815950156030817 : Int64)) C d_K_because_9 tw_870 ?_
    obtain ⟨M12, hc12, hf⟩ := om_some hf
    refine gw_callVv (rest := []) C 0 wkg_0 clg_5 (c_K_say C.2.2.2.2.2.2.2.2.2.2 hc12) (cwV 1 C.2.2.2.2.1 (gTB_V tw_871 mv_K_say) rfl rfl rfl pd_K_say ⟨Nat.le_of_ble_eq_true rfl, Nat.le_of_ble_eq_true rfl⟩) rfl rfl (Nat.le_of_ble_eq_true rfl) d_K_because_12 ⟨Nat.le_of_ble_eq_true rfl, Nat.le_of_ble_eq_true rfl⟩ ?_
    refine gw_aload_n C 0 d_K_because_15 rfl rfl ?_
    refine gw_ldc2 (v := (1970496800 : Int64)) C d_K_because_16 tw_880 ?_
    obtain ⟨M19, hc19, hf⟩ := om_some hf
    refine gw_callVv (rest := []) C 0 wkg_0 clg_5 (c_K_say C.2.2.2.2.2.2.2.2.2.2 hc19) (cwV 1 C.2.2.2.2.1 (gTB_V tw_871 mv_K_say) rfl rfl rfl pd_K_say ⟨Nat.le_of_ble_eq_true rfl, Nat.le_of_ble_eq_true rfl⟩) rfl rfl (Nat.le_of_ble_eq_true rfl) d_K_because_19 ⟨Nat.le_of_ble_eq_true rfl, Nat.le_of_ble_eq_true rfl⟩ ?_
    refine gw_goto (tgt := 32) C d_K_because_22 (by decide) ?_
    exact gw_sub [0, 2, 3, 4] rfl (g_K_because_32 C hf)
theorem c_K_because (hZ : gw_ZOK Z) {x1 : Int32} {x2 : Int32} {x3 : Int32} {x4 : Int32} {M : Mem} {M' : Mem} (hf : f_K_because x1 x2 x3 x4 M = some M') : CW l y_K_because ws_K_because rm_K_because D vwCl (tysW cI cZ cC) Z [.ref (ad 0), .int x1, .int x2, .int x3, .int x4] (wk ad cI cZ cC M) none (wk ad cI cZ cC M') 0 0 :=
  CW.ofG hZ (by decide) rfl (Nat.le_of_ble_eq_true rfl) (fun _ _ _ _ _ _ _ _ C _ => g_K_because C hf)
abbrev b_K_give : ByteArray := prog_7_method_30_code
def y_K_give : MethodName := ⟨"NoneWordsModel", "give", "(I)V"⟩
abbrev ws_K_give : List Cond := Cond.code y_K_give b_K_give 2 (none) :: TB
set_option maxRecDepth 100000 in
theorem tc_K_give : Cond.code y_K_give b_K_give 2 (none) ∈ TB := inTB 931 rfl rfl
theorem mv_K_give : Cond.instanceMethod y_K_give ∈ TB ∧ Cond.selects "NoneWordsModel" y_K_give y_K_give ∈ TB ∧ Cond.initialized "NoneWordsModel" ∈ TB ∧ Cond.code y_K_give b_K_give 2 (none) ∈ TB := ⟨inTB 930 (by decide +kernel) (by decide +kernel), inTB 53 (by decide +kernel) (by decide +kernel), inTB 71 (by decide +kernel) (by decide +kernel), tc_K_give⟩
theorem pd_K_give : y_K_give.cls = "NoneWordsModel" ∧ y_K_give.cls ≠ "java/lang/invoke/MethodHandle" ∧ y_K_give.cls ≠ "java/lang/invoke/VarHandle" ∧ (parseMethodDescriptor y_K_give.desc).map (fun d => d.parameters.length) = some 1 := by decide +kernel
theorem d_K_give_0 : decode b_K_give 0 = .ok (.aload_n 0, 1) := by decide +kernel
theorem d_K_give_1 : decode b_K_give 1 = .ok (.getfield 45, 3) := by decide +kernel
theorem d_K_give_4 : decode b_K_give 4 = .ok (.iload_n 1, 1) := by decide +kernel
theorem d_K_give_5 : decode b_K_give 5 = .ok (.iaload, 1) := by decide +kernel
theorem d_K_give_6 : decode b_K_give 6 = .ok (.ifCond .le 4, 3) := by decide +kernel
theorem d_K_give_9 : decode b_K_give 9 = .ok (.return_, 1) := by decide +kernel
theorem d_K_give_10 : decode b_K_give 10 = .ok (.aload_n 0, 1) := by decide +kernel
theorem d_K_give_11 : decode b_K_give 11 = .ok (.dup, 1) := by decide +kernel
theorem d_K_give_12 : decode b_K_give 12 = .ok (.getfield 206, 3) := by decide +kernel
theorem d_K_give_15 : decode b_K_give 15 = .ok (.iconst 1, 1) := by decide +kernel
theorem d_K_give_16 : decode b_K_give 16 = .ok (.iadd, 1) := by decide +kernel
theorem d_K_give_17 : decode b_K_give 17 = .ok (.putfield 206, 3) := by decide +kernel
theorem d_K_give_20 : decode b_K_give 20 = .ok (.aload_n 0, 1) := by decide +kernel
theorem d_K_give_21 : decode b_K_give 21 = .ok (.getfield 45, 3) := by decide +kernel
theorem d_K_give_24 : decode b_K_give 24 = .ok (.iload_n 1, 1) := by decide +kernel
theorem d_K_give_25 : decode b_K_give 25 = .ok (.aload_n 0, 1) := by decide +kernel
theorem d_K_give_26 : decode b_K_give 26 = .ok (.getfield 206, 3) := by decide +kernel
theorem d_K_give_29 : decode b_K_give 29 = .ok (.iastore, 1) := by decide +kernel
theorem d_K_give_30 : decode b_K_give 30 = .ok (.aload_n 0, 1) := by decide +kernel
theorem d_K_give_31 : decode b_K_give 31 = .ok (.getfield 42, 3) := by decide +kernel
theorem d_K_give_34 : decode b_K_give 34 = .ok (.aload_n 0, 1) := by decide +kernel
theorem d_K_give_35 : decode b_K_give 35 = .ok (.getfield 191, 3) := by decide +kernel
theorem d_K_give_38 : decode b_K_give 38 = .ok (.iconst 1, 1) := by decide +kernel
theorem d_K_give_39 : decode b_K_give 39 = .ok (.isub, 1) := by decide +kernel
theorem d_K_give_40 : decode b_K_give 40 = .ok (.aload_n 0, 1) := by decide +kernel
theorem d_K_give_41 : decode b_K_give 41 = .ok (.getfield 206, 3) := by decide +kernel
theorem d_K_give_44 : decode b_K_give 44 = .ok (.iastore, 1) := by decide +kernel
theorem d_K_give_45 : decode b_K_give 45 = .ok (.return_, 1) := by decide +kernel
abbrev rm_K_give : Room := { frames := 0, cells := 0, slots := 0, locals := 0 }
def f_K_give (x1 : Int32) (M : Mem) : Option Mem :=
  gd (inb x1 120) (if (M 12 x1.toNatClampNeg) ≤ 0 then gd (inb x1 120) (gd (inb (((ms (ms M 0 18 ((M 0 18) + (1 : Int32))) 12 x1.toNatClampNeg ((ms M 0 18 ((M 0 18) + (1 : Int32))) 0 18)) 0 17) - (1 : Int32)) 400) (some (ms (ms (ms M 0 18 ((M 0 18) + (1 : Int32))) 12 x1.toNatClampNeg ((ms M 0 18 ((M 0 18) + (1 : Int32))) 0 18)) 11 (((ms (ms M 0 18 ((M 0 18) + (1 : Int32))) 12 x1.toNatClampNeg ((ms M 0 18 ((M 0 18) + (1 : Int32))) 0 18)) 0 17) - (1 : Int32)).toNatClampNeg ((ms (ms M 0 18 ((M 0 18) + (1 : Int32))) 12 x1.toNatClampNeg ((ms M 0 18 ((M 0 18) + (1 : Int32))) 0 18)) 0 18)))) else some M)
set_option maxRecDepth 100000 in
theorem g_K_give {M' : Mem} (C : GC p s m args meth c b_K_give 2 (none) "NoneWordsModel" TB D vwCl (tysW cI cZ cC) A Z) {x1 : Int32} {M : Mem} (hf : f_K_give x1 M = some M') : GW p l e rm_K_give s m args below meth c (MQ below (QW D vwCl (tysW cI cZ cC) A none (wk ad cI cZ cC M')) args s 0 0 A) D vwCl A 2 0 0 (wk ad cI cZ cC M) 0 [(0, .ref (ad 0)), (1, .int x1)] [] := by
  unfold f_K_give at hf
  refine gw_aload_n C 0 d_K_give_0 rfl rfl ?_
  refine gw_get C in_K 0 wkg_0 clg_5 14 (by decide) tw_700 rfl rfl d_K_give_1 ?_
  refine gw_iload_n C 1 d_K_give_4 rfl rfl ?_
  obtain ⟨hb5, hf⟩ := gd_some hf
  refine gw_iald C 12 0 wkg_12 rfl hb5 d_K_give_5 ?_
  refine gw_if_le (tgt := 10) C d_K_give_6 (by decide) (fun c => ?_) (fun c => ?_)
  · have hf := (if_pos c).symm.trans hf
    refine gw_aload_n C 0 d_K_give_10 rfl rfl ?_
    refine gw_dup C d_K_give_11 rfl ?_
    refine gw_get C in_K 0 wkg_0 clg_5 18 (by decide) tw_704 rfl rfl d_K_give_12 ?_
    refine gw_iconst (v := (1 : Int32)) C d_K_give_15 (by decide) ?_
    refine gw_iadd C d_K_give_16 ?_
    refine gw_put C in_K ty_K tk_K nm_K 0 wkg_0 clg_5 18 (by decide) tw_704 rfl rfl rfl rfl (Nat.le_of_ble_eq_true rfl) d_K_give_17 wkf_0_18 ?_
    refine gw_aload_n C 0 d_K_give_20 rfl rfl ?_
    refine gw_get C in_K 0 wkg_0 clg_5 14 (by decide) tw_700 rfl rfl d_K_give_21 ?_
    refine gw_iload_n C 1 d_K_give_24 rfl rfl ?_
    refine gw_aload_n C 0 d_K_give_25 rfl rfl ?_
    refine gw_get C in_K 0 wkg_0 clg_5 18 (by decide) tw_704 rfl rfl d_K_give_26 ?_
    obtain ⟨hb29, hf⟩ := gd_some hf
    refine gw_iast C 12 0 wkg_12 rfl hb29 d_K_give_29 wka_12 ?_
    refine gw_aload_n C 0 d_K_give_30 rfl rfl ?_
    refine gw_get C in_K 0 wkg_0 clg_5 13 (by decide) tw_699 rfl rfl d_K_give_31 ?_
    refine gw_aload_n C 0 d_K_give_34 rfl rfl ?_
    refine gw_get C in_K 0 wkg_0 clg_5 17 (by decide) tw_703 rfl rfl d_K_give_35 ?_
    refine gw_iconst (v := (1 : Int32)) C d_K_give_38 (by decide) ?_
    refine gw_isub C d_K_give_39 ?_
    refine gw_aload_n C 0 d_K_give_40 rfl rfl ?_
    refine gw_get C in_K 0 wkg_0 clg_5 18 (by decide) tw_704 rfl rfl d_K_give_41 ?_
    obtain ⟨hb44, hf⟩ := gd_some hf
    refine gw_iast C 11 0 wkg_11 rfl hb44 d_K_give_44 wka_11 ?_
    exact gw_vreti C d_K_give_45 (wk ad cI cZ cC) hf
  · have hf := (if_neg c).symm.trans hf
    exact gw_vreti C d_K_give_9 (wk ad cI cZ cC) hf
theorem c_K_give (hZ : gw_ZOK Z) {x1 : Int32} {M : Mem} {M' : Mem} (hf : f_K_give x1 M = some M') : CW l y_K_give ws_K_give rm_K_give D vwCl (tysW cI cZ cC) Z [.ref (ad 0), .int x1] (wk ad cI cZ cC M) none (wk ad cI cZ cC M') 0 0 :=
  CW.ofG hZ (by decide) rfl (Nat.le_of_ble_eq_true rfl) (fun _ _ _ _ _ _ _ _ C _ => g_K_give C hf)
abbrev b_K_isSimple : ByteArray := prog_7_method_31_code
def y_K_isSimple : MethodName := ⟨"NoneWordsModel", "isSimple", "(I)Z"⟩
abbrev ws_K_isSimple : List Cond := Cond.code y_K_isSimple b_K_isSimple 2 (some (FieldType.boolean)) :: TB
set_option maxRecDepth 100000 in
theorem tc_K_isSimple : Cond.code y_K_isSimple b_K_isSimple 2 (some (FieldType.boolean)) ∈ TB := inTB 939 rfl rfl
theorem mv_K_isSimple : Cond.instanceMethod y_K_isSimple ∈ TB ∧ Cond.selects "NoneWordsModel" y_K_isSimple y_K_isSimple ∈ TB ∧ Cond.initialized "NoneWordsModel" ∈ TB ∧ Cond.code y_K_isSimple b_K_isSimple 2 (some (FieldType.boolean)) ∈ TB := ⟨inTB 938 (by decide +kernel) (by decide +kernel), inTB 55 (by decide +kernel) (by decide +kernel), inTB 71 (by decide +kernel) (by decide +kernel), tc_K_isSimple⟩
theorem pd_K_isSimple : y_K_isSimple.cls = "NoneWordsModel" ∧ y_K_isSimple.cls ≠ "java/lang/invoke/MethodHandle" ∧ y_K_isSimple.cls ≠ "java/lang/invoke/VarHandle" ∧ (parseMethodDescriptor y_K_isSimple.desc).map (fun d => d.parameters.length) = some 1 := by decide +kernel
theorem d_K_isSimple_0 : decode b_K_isSimple 0 = .ok (.aload_n 0, 1) := by decide +kernel
theorem d_K_isSimple_1 : decode b_K_isSimple 1 = .ok (.getfield 13, 3) := by decide +kernel
theorem d_K_isSimple_4 : decode b_K_isSimple 4 = .ok (.iload_n 1, 1) := by decide +kernel
theorem d_K_isSimple_5 : decode b_K_isSimple 5 = .ok (.iaload, 1) := by decide +kernel
theorem d_K_isSimple_6 : decode b_K_isSimple 6 = .ok (.iconst 4, 1) := by decide +kernel
theorem d_K_isSimple_7 : decode b_K_isSimple 7 = .ok (.if_icmp .ne 37, 3) := by decide +kernel
theorem d_K_isSimple_10 : decode b_K_isSimple 10 = .ok (.aload_n 0, 1) := by decide +kernel
theorem d_K_isSimple_11 : decode b_K_isSimple 11 = .ok (.getfield 13, 3) := by decide +kernel
theorem d_K_isSimple_14 : decode b_K_isSimple 14 = .ok (.aload_n 0, 1) := by decide +kernel
theorem d_K_isSimple_15 : decode b_K_isSimple 15 = .ok (.getfield 16, 3) := by decide +kernel
theorem d_K_isSimple_18 : decode b_K_isSimple 18 = .ok (.iload_n 1, 1) := by decide +kernel
theorem d_K_isSimple_19 : decode b_K_isSimple 19 = .ok (.iaload, 1) := by decide +kernel
theorem d_K_isSimple_20 : decode b_K_isSimple 20 = .ok (.iaload, 1) := by decide +kernel
theorem d_K_isSimple_21 : decode b_K_isSimple 21 = .ok (.iconst 4, 1) := by decide +kernel
theorem d_K_isSimple_22 : decode b_K_isSimple 22 = .ok (.if_icmp .eq 22, 3) := by decide +kernel
theorem d_K_isSimple_25 : decode b_K_isSimple 25 = .ok (.aload_n 0, 1) := by decide +kernel
theorem d_K_isSimple_26 : decode b_K_isSimple 26 = .ok (.getfield 13, 3) := by decide +kernel
theorem d_K_isSimple_29 : decode b_K_isSimple 29 = .ok (.aload_n 0, 1) := by decide +kernel
theorem d_K_isSimple_30 : decode b_K_isSimple 30 = .ok (.getfield 22, 3) := by decide +kernel
theorem d_K_isSimple_33 : decode b_K_isSimple 33 = .ok (.iload_n 1, 1) := by decide +kernel
theorem d_K_isSimple_34 : decode b_K_isSimple 34 = .ok (.iaload, 1) := by decide +kernel
theorem d_K_isSimple_35 : decode b_K_isSimple 35 = .ok (.iaload, 1) := by decide +kernel
theorem d_K_isSimple_36 : decode b_K_isSimple 36 = .ok (.iconst 4, 1) := by decide +kernel
theorem d_K_isSimple_37 : decode b_K_isSimple 37 = .ok (.if_icmp .eq 7, 3) := by decide +kernel
theorem d_K_isSimple_40 : decode b_K_isSimple 40 = .ok (.iconst 1, 1) := by decide +kernel
theorem d_K_isSimple_41 : decode b_K_isSimple 41 = .ok (.goto 4, 3) := by decide +kernel
theorem d_K_isSimple_44 : decode b_K_isSimple 44 = .ok (.iconst 0, 1) := by decide +kernel
theorem d_K_isSimple_45 : decode b_K_isSimple 45 = .ok (.ireturn, 1) := by decide +kernel
abbrev rm_K_isSimple : Room := { frames := 0, cells := 0, slots := 0, locals := 0 }
def f_K_isSimple (x1 : Int32) (M : Mem) : Option (Int32 × Mem) :=
  gd (inb x1 120) (if (M 2 x1.toNatClampNeg) = (4 : Int32) then gd (inb x1 120) (gd (inb (M 3 x1.toNatClampNeg) 120) (if (M 2 (M 3 x1.toNatClampNeg).toNatClampNeg) = (4 : Int32) then some ((0 : Int32), M) else gd (inb x1 120) (gd (inb (M 5 x1.toNatClampNeg) 120) (if (M 2 (M 5 x1.toNatClampNeg).toNatClampNeg) = (4 : Int32) then some ((0 : Int32), M) else some ((1 : Int32), M))))) else some ((0 : Int32), M))
set_option maxRecDepth 100000 in
theorem g_K_isSimple {r : Int32} {M' : Mem} (C : GC p s m args meth c b_K_isSimple 2 (some (FieldType.boolean)) "NoneWordsModel" TB D vwCl (tysW cI cZ cC) A Z) {x1 : Int32} {M : Mem} (hf : f_K_isSimple x1 M = some (r, M')) : GW p l e rm_K_isSimple s m args below meth c (MQ below (QW D vwCl (tysW cI cZ cC) A (some (.int r)) (wk ad cI cZ cC M')) args s 0 0 A) D vwCl A 2 0 0 (wk ad cI cZ cC M) 0 [(0, .ref (ad 0)), (1, .int x1)] [] := by
  unfold f_K_isSimple at hf
  refine gw_aload_n C 0 d_K_isSimple_0 rfl rfl ?_
  refine gw_get C in_K 0 wkg_0 clg_5 4 (by decide) tw_690 rfl rfl d_K_isSimple_1 ?_
  refine gw_iload_n C 1 d_K_isSimple_4 rfl rfl ?_
  obtain ⟨hb5, hf⟩ := gd_some hf
  refine gw_iald C 2 0 wkg_2 rfl hb5 d_K_isSimple_5 ?_
  refine gw_iconst (v := (4 : Int32)) C d_K_isSimple_6 (by decide) ?_
  refine gw_icmp_ne (tgt := 44) C d_K_isSimple_7 (by decide) (fun c => ?_) (fun c => ?_)
  · have hf := (if_neg c).symm.trans hf
    refine gw_iconst (v := (0 : Int32)) C d_K_isSimple_44 (by decide) ?_
    exact gw_zreti C d_K_isSimple_45 (wk ad cI cZ cC) (by decide) hf
  · have hf := (if_pos c).symm.trans hf
    refine gw_aload_n C 0 d_K_isSimple_10 rfl rfl ?_
    refine gw_get C in_K 0 wkg_0 clg_5 4 (by decide) tw_690 rfl rfl d_K_isSimple_11 ?_
    refine gw_aload_n C 0 d_K_isSimple_14 rfl rfl ?_
    refine gw_get C in_K 0 wkg_0 clg_5 5 (by decide) tw_691 rfl rfl d_K_isSimple_15 ?_
    refine gw_iload_n C 1 d_K_isSimple_18 rfl rfl ?_
    obtain ⟨hb19, hf⟩ := gd_some hf
    refine gw_iald C 3 0 wkg_3 rfl hb19 d_K_isSimple_19 ?_
    obtain ⟨hb20, hf⟩ := gd_some hf
    refine gw_iald C 2 0 wkg_2 rfl hb20 d_K_isSimple_20 ?_
    refine gw_iconst (v := (4 : Int32)) C d_K_isSimple_21 (by decide) ?_
    refine gw_icmp_eq (tgt := 44) C d_K_isSimple_22 (by decide) (fun c => ?_) (fun c => ?_)
    · have hf := (if_pos c).symm.trans hf
      refine gw_iconst (v := (0 : Int32)) C d_K_isSimple_44 (by decide) ?_
      exact gw_zreti C d_K_isSimple_45 (wk ad cI cZ cC) (by decide) hf
    · have hf := (if_neg c).symm.trans hf
      refine gw_aload_n C 0 d_K_isSimple_25 rfl rfl ?_
      refine gw_get C in_K 0 wkg_0 clg_5 4 (by decide) tw_690 rfl rfl d_K_isSimple_26 ?_
      refine gw_aload_n C 0 d_K_isSimple_29 rfl rfl ?_
      refine gw_get C in_K 0 wkg_0 clg_5 7 (by decide) tw_693 rfl rfl d_K_isSimple_30 ?_
      refine gw_iload_n C 1 d_K_isSimple_33 rfl rfl ?_
      obtain ⟨hb34, hf⟩ := gd_some hf
      refine gw_iald C 5 0 wkg_5 rfl hb34 d_K_isSimple_34 ?_
      obtain ⟨hb35, hf⟩ := gd_some hf
      refine gw_iald C 2 0 wkg_2 rfl hb35 d_K_isSimple_35 ?_
      refine gw_iconst (v := (4 : Int32)) C d_K_isSimple_36 (by decide) ?_
      refine gw_icmp_eq (tgt := 44) C d_K_isSimple_37 (by decide) (fun c => ?_) (fun c => ?_)
      · have hf := (if_pos c).symm.trans hf
        refine gw_iconst (v := (0 : Int32)) C d_K_isSimple_44 (by decide) ?_
        exact gw_zreti C d_K_isSimple_45 (wk ad cI cZ cC) (by decide) hf
      · have hf := (if_neg c).symm.trans hf
        refine gw_iconst (v := (1 : Int32)) C d_K_isSimple_40 (by decide) ?_
        refine gw_goto (tgt := 45) C d_K_isSimple_41 (by decide) ?_
        exact gw_zreti C d_K_isSimple_45 (wk ad cI cZ cC) (by decide) hf
theorem c_K_isSimple (hZ : gw_ZOK Z) {x1 : Int32} {M : Mem} {r : Int32} {M' : Mem} (hf : f_K_isSimple x1 M = some (r, M')) : CW l y_K_isSimple ws_K_isSimple rm_K_isSimple D vwCl (tysW cI cZ cC) Z [.ref (ad 0), .int x1] (wk ad cI cZ cC M) (some (.int r)) (wk ad cI cZ cC M') 0 0 :=
  CW.ofG hZ (by decide) rfl (Nat.le_of_ble_eq_true rfl) (fun _ _ _ _ _ _ _ _ C _ => g_K_isSimple C hf)
abbrev b_K_push : ByteArray := prog_7_method_32_code
def y_K_push : MethodName := ⟨"NoneWordsModel", "push", "(I)V"⟩
abbrev ws_K_push : List Cond := Cond.code y_K_push b_K_push 2 (none) :: TB
set_option maxRecDepth 100000 in
theorem tc_K_push : Cond.code y_K_push b_K_push 2 (none) ∈ TB := inTB 849 rfl rfl
theorem mv_K_push : Cond.instanceMethod y_K_push ∈ TB ∧ Cond.selects "NoneWordsModel" y_K_push y_K_push ∈ TB ∧ Cond.initialized "NoneWordsModel" ∈ TB ∧ Cond.code y_K_push b_K_push 2 (none) ∈ TB := ⟨inTB 848 (by decide +kernel) (by decide +kernel), inTB 38 (by decide +kernel) (by decide +kernel), inTB 71 (by decide +kernel) (by decide +kernel), tc_K_push⟩
theorem pd_K_push : y_K_push.cls = "NoneWordsModel" ∧ y_K_push.cls ≠ "java/lang/invoke/MethodHandle" ∧ y_K_push.cls ≠ "java/lang/invoke/VarHandle" ∧ (parseMethodDescriptor y_K_push.desc).map (fun d => d.parameters.length) = some 1 := by decide +kernel
theorem d_K_push_0 : decode b_K_push 0 = .ok (.aload_n 0, 1) := by decide +kernel
theorem d_K_push_1 : decode b_K_push 1 = .ok (.getfield 54, 3) := by decide +kernel
theorem d_K_push_4 : decode b_K_push 4 = .ok (.aload_n 0, 1) := by decide +kernel
theorem d_K_push_5 : decode b_K_push 5 = .ok (.getfield 209, 3) := by decide +kernel
theorem d_K_push_8 : decode b_K_push 8 = .ok (.iload_n 1, 1) := by decide +kernel
theorem d_K_push_9 : decode b_K_push 9 = .ok (.iastore, 1) := by decide +kernel
theorem d_K_push_10 : decode b_K_push 10 = .ok (.aload_n 0, 1) := by decide +kernel
theorem d_K_push_11 : decode b_K_push 11 = .ok (.getfield 57, 3) := by decide +kernel
theorem d_K_push_14 : decode b_K_push 14 = .ok (.aload_n 0, 1) := by decide +kernel
theorem d_K_push_15 : decode b_K_push 15 = .ok (.getfield 209, 3) := by decide +kernel
theorem d_K_push_18 : decode b_K_push 18 = .ok (.iconst 0, 1) := by decide +kernel
theorem d_K_push_19 : decode b_K_push 19 = .ok (.iastore, 1) := by decide +kernel
theorem d_K_push_20 : decode b_K_push 20 = .ok (.aload_n 0, 1) := by decide +kernel
theorem d_K_push_21 : decode b_K_push 21 = .ok (.dup, 1) := by decide +kernel
theorem d_K_push_22 : decode b_K_push 22 = .ok (.getfield 209, 3) := by decide +kernel
theorem d_K_push_25 : decode b_K_push 25 = .ok (.iconst 1, 1) := by decide +kernel
theorem d_K_push_26 : decode b_K_push 26 = .ok (.iadd, 1) := by decide +kernel
theorem d_K_push_27 : decode b_K_push 27 = .ok (.putfield 209, 3) := by decide +kernel
theorem d_K_push_30 : decode b_K_push 30 = .ok (.return_, 1) := by decide +kernel
abbrev rm_K_push : Room := { frames := 0, cells := 0, slots := 0, locals := 0 }
def f_K_push (x1 : Int32) (M : Mem) : Option Mem :=
  gd (inb (M 0 23) 130) (gd (inb ((ms M 15 (M 0 23).toNatClampNeg x1) 0 23) 130) (some (ms (ms (ms M 15 (M 0 23).toNatClampNeg x1) 16 ((ms M 15 (M 0 23).toNatClampNeg x1) 0 23).toNatClampNeg (0 : Int32)) 0 23 (((ms (ms M 15 (M 0 23).toNatClampNeg x1) 16 ((ms M 15 (M 0 23).toNatClampNeg x1) 0 23).toNatClampNeg (0 : Int32)) 0 23) + (1 : Int32)))))
set_option maxRecDepth 100000 in
theorem g_K_push {M' : Mem} (C : GC p s m args meth c b_K_push 2 (none) "NoneWordsModel" TB D vwCl (tysW cI cZ cC) A Z) {x1 : Int32} {M : Mem} (hf : f_K_push x1 M = some M') : GW p l e rm_K_push s m args below meth c (MQ below (QW D vwCl (tysW cI cZ cC) A none (wk ad cI cZ cC M')) args s 0 0 A) D vwCl A 2 0 0 (wk ad cI cZ cC M) 0 [(0, .ref (ad 0)), (1, .int x1)] [] := by
  unfold f_K_push at hf
  refine gw_aload_n C 0 d_K_push_0 rfl rfl ?_
  refine gw_get C in_K 0 wkg_0 clg_5 20 (by decide) tw_706 rfl rfl d_K_push_1 ?_
  refine gw_aload_n C 0 d_K_push_4 rfl rfl ?_
  refine gw_get C in_K 0 wkg_0 clg_5 23 (by decide) tw_709 rfl rfl d_K_push_5 ?_
  refine gw_iload_n C 1 d_K_push_8 rfl rfl ?_
  obtain ⟨hb9, hf⟩ := gd_some hf
  refine gw_iast C 15 0 wkg_15 rfl hb9 d_K_push_9 wka_15 ?_
  refine gw_aload_n C 0 d_K_push_10 rfl rfl ?_
  refine gw_get C in_K 0 wkg_0 clg_5 21 (by decide) tw_707 rfl rfl d_K_push_11 ?_
  refine gw_aload_n C 0 d_K_push_14 rfl rfl ?_
  refine gw_get C in_K 0 wkg_0 clg_5 23 (by decide) tw_709 rfl rfl d_K_push_15 ?_
  refine gw_iconst (v := (0 : Int32)) C d_K_push_18 (by decide) ?_
  obtain ⟨hb19, hf⟩ := gd_some hf
  refine gw_iast C 16 0 wkg_16 rfl hb19 d_K_push_19 wka_16 ?_
  refine gw_aload_n C 0 d_K_push_20 rfl rfl ?_
  refine gw_dup C d_K_push_21 rfl ?_
  refine gw_get C in_K 0 wkg_0 clg_5 23 (by decide) tw_709 rfl rfl d_K_push_22 ?_
  refine gw_iconst (v := (1 : Int32)) C d_K_push_25 (by decide) ?_
  refine gw_iadd C d_K_push_26 ?_
  refine gw_put C in_K ty_K tk_K nm_K 0 wkg_0 clg_5 23 (by decide) tw_709 rfl rfl rfl rfl (Nat.le_of_ble_eq_true rfl) d_K_push_27 wkf_0_23 ?_
  exact gw_vreti C d_K_push_30 (wk ad cI cZ cC) hf
theorem c_K_push (hZ : gw_ZOK Z) {x1 : Int32} {M : Mem} {M' : Mem} (hf : f_K_push x1 M = some M') : CW l y_K_push ws_K_push rm_K_push D vwCl (tysW cI cZ cC) Z [.ref (ad 0), .int x1] (wk ad cI cZ cC M) none (wk ad cI cZ cC M') 0 0 :=
  CW.ofG hZ (by decide) rfl (Nat.le_of_ble_eq_true rfl) (fun _ _ _ _ _ _ _ _ C _ => g_K_push C hf)
abbrev b_K_later : ByteArray := prog_7_method_33_code
def y_K_later : MethodName := ⟨"NoneWordsModel", "later", "(III)V"⟩
abbrev ws_K_later : List Cond := Cond.code y_K_later b_K_later 4 (none) :: TB
set_option maxRecDepth 100000 in
theorem tc_K_later : Cond.code y_K_later b_K_later 4 (none) ∈ TB := inTB 935 rfl rfl
theorem mv_K_later : Cond.instanceMethod y_K_later ∈ TB ∧ Cond.selects "NoneWordsModel" y_K_later y_K_later ∈ TB ∧ Cond.initialized "NoneWordsModel" ∈ TB ∧ Cond.code y_K_later b_K_later 4 (none) ∈ TB := ⟨inTB 934 (by decide +kernel) (by decide +kernel), inTB 54 (by decide +kernel) (by decide +kernel), inTB 71 (by decide +kernel) (by decide +kernel), tc_K_later⟩
theorem pd_K_later : y_K_later.cls = "NoneWordsModel" ∧ y_K_later.cls ≠ "java/lang/invoke/MethodHandle" ∧ y_K_later.cls ≠ "java/lang/invoke/VarHandle" ∧ (parseMethodDescriptor y_K_later.desc).map (fun d => d.parameters.length) = some 3 := by decide +kernel
theorem d_K_later_0 : decode b_K_later 0 = .ok (.aload_n 0, 1) := by decide +kernel
theorem d_K_later_1 : decode b_K_later 1 = .ok (.getfield 57, 3) := by decide +kernel
theorem d_K_later_4 : decode b_K_later 4 = .ok (.aload_n 0, 1) := by decide +kernel
theorem d_K_later_5 : decode b_K_later 5 = .ok (.getfield 209, 3) := by decide +kernel
theorem d_K_later_8 : decode b_K_later 8 = .ok (.iconst 1, 1) := by decide +kernel
theorem d_K_later_9 : decode b_K_later 9 = .ok (.isub, 1) := by decide +kernel
theorem d_K_later_10 : decode b_K_later 10 = .ok (.iload_n 1, 1) := by decide +kernel
theorem d_K_later_11 : decode b_K_later 11 = .ok (.iastore, 1) := by decide +kernel
theorem d_K_later_12 : decode b_K_later 12 = .ok (.aload_n 0, 1) := by decide +kernel
theorem d_K_later_13 : decode b_K_later 13 = .ok (.getfield 60, 3) := by decide +kernel
theorem d_K_later_16 : decode b_K_later 16 = .ok (.aload_n 0, 1) := by decide +kernel
theorem d_K_later_17 : decode b_K_later 17 = .ok (.getfield 209, 3) := by decide +kernel
theorem d_K_later_20 : decode b_K_later 20 = .ok (.iconst 1, 1) := by decide +kernel
theorem d_K_later_21 : decode b_K_later 21 = .ok (.isub, 1) := by decide +kernel
theorem d_K_later_22 : decode b_K_later 22 = .ok (.iload_n 2, 1) := by decide +kernel
theorem d_K_later_23 : decode b_K_later 23 = .ok (.iastore, 1) := by decide +kernel
theorem d_K_later_24 : decode b_K_later 24 = .ok (.aload_n 0, 1) := by decide +kernel
theorem d_K_later_25 : decode b_K_later 25 = .ok (.iload_n 3, 1) := by decide +kernel
theorem d_K_later_26 : decode b_K_later 26 = .ok (.invokevirtual 212, 3) := by decide +kernel
theorem d_K_later_29 : decode b_K_later 29 = .ok (.return_, 1) := by decide +kernel
abbrev rm_K_later : Room := { frames := 1, cells := 0, slots := 0, locals := 21 }
def f_K_later (x1 : Int32) (x2 : Int32) (x3 : Int32) (M : Mem) : Option Mem :=
  gd (inb ((M 0 23) - (1 : Int32)) 130) (gd (inb (((ms M 16 ((M 0 23) - (1 : Int32)).toNatClampNeg x1) 0 23) - (1 : Int32)) 130) (om (f_K_push x3 (ms (ms M 16 ((M 0 23) - (1 : Int32)).toNatClampNeg x1) 17 (((ms M 16 ((M 0 23) - (1 : Int32)).toNatClampNeg x1) 0 23) - (1 : Int32)).toNatClampNeg x2)) fun M26 => some M26))
set_option maxRecDepth 100000 in
theorem g_K_later {M' : Mem} (C : GC p s m args meth c b_K_later 4 (none) "NoneWordsModel" TB D vwCl (tysW cI cZ cC) A Z) {x1 : Int32} {x2 : Int32} {x3 : Int32} {M : Mem} (hf : f_K_later x1 x2 x3 M = some M') : GW p l e rm_K_later s m args below meth c (MQ below (QW D vwCl (tysW cI cZ cC) A none (wk ad cI cZ cC M')) args s 0 0 A) D vwCl A 4 0 0 (wk ad cI cZ cC M) 0 [(0, .ref (ad 0)), (1, .int x1), (2, .int x2), (3, .int x3)] [] := by
  unfold f_K_later at hf
  refine gw_aload_n C 0 d_K_later_0 rfl rfl ?_
  refine gw_get C in_K 0 wkg_0 clg_5 21 (by decide) tw_707 rfl rfl d_K_later_1 ?_
  refine gw_aload_n C 0 d_K_later_4 rfl rfl ?_
  refine gw_get C in_K 0 wkg_0 clg_5 23 (by decide) tw_709 rfl rfl d_K_later_5 ?_
  refine gw_iconst (v := (1 : Int32)) C d_K_later_8 (by decide) ?_
  refine gw_isub C d_K_later_9 ?_
  refine gw_iload_n C 1 d_K_later_10 rfl rfl ?_
  obtain ⟨hb11, hf⟩ := gd_some hf
  refine gw_iast C 16 0 wkg_16 rfl hb11 d_K_later_11 wka_16 ?_
  refine gw_aload_n C 0 d_K_later_12 rfl rfl ?_
  refine gw_get C in_K 0 wkg_0 clg_5 22 (by decide) tw_708 rfl rfl d_K_later_13 ?_
  refine gw_aload_n C 0 d_K_later_16 rfl rfl ?_
  refine gw_get C in_K 0 wkg_0 clg_5 23 (by decide) tw_709 rfl rfl d_K_later_17 ?_
  refine gw_iconst (v := (1 : Int32)) C d_K_later_20 (by decide) ?_
  refine gw_isub C d_K_later_21 ?_
  refine gw_iload_n C 2 d_K_later_22 rfl rfl ?_
  obtain ⟨hb23, hf⟩ := gd_some hf
  refine gw_iast C 17 0 wkg_17 rfl hb23 d_K_later_23 wka_17 ?_
  refine gw_aload_n C 0 d_K_later_24 rfl rfl ?_
  refine gw_iload_n C 3 d_K_later_25 rfl rfl ?_
  obtain ⟨M26, hc26, hf⟩ := om_some hf
  refine gw_callVv (rest := []) C 0 wkg_0 clg_5 (c_K_push C.2.2.2.2.2.2.2.2.2.2 hc26) (cwV 1 C.2.2.2.2.1 (gTB_V tw_846 mv_K_push) rfl rfl rfl pd_K_push ⟨Nat.le_of_ble_eq_true rfl, Nat.le_of_ble_eq_true rfl⟩) rfl rfl (Nat.le_of_ble_eq_true rfl) d_K_later_26 ⟨Nat.le_of_ble_eq_true rfl, Nat.le_of_ble_eq_true rfl⟩ ?_
  exact gw_vreti C d_K_later_29 (wk ad cI cZ cC) hf
theorem c_K_later (hZ : gw_ZOK Z) {x1 : Int32} {x2 : Int32} {x3 : Int32} {M : Mem} {M' : Mem} (hf : f_K_later x1 x2 x3 M = some M') : CW l y_K_later ws_K_later rm_K_later D vwCl (tysW cI cZ cC) Z [.ref (ad 0), .int x1, .int x2, .int x3] (wk ad cI cZ cC M) none (wk ad cI cZ cC M') 0 0 :=
  CW.ofG hZ (by decide) rfl (Nat.le_of_ble_eq_true rfl) (fun _ _ _ _ _ _ _ _ C _ => g_K_later C hf)
abbrev b_K_end : ByteArray := prog_7_method_34_code
def y_K_end : MethodName := ⟨"NoneWordsModel", "end", "(I)V"⟩
abbrev ws_K_end : List Cond := Cond.code y_K_end b_K_end 2 (none) :: TB
set_option maxRecDepth 100000 in
theorem tc_K_end : Cond.code y_K_end b_K_end 2 (none) ∈ TB := inTB 927 rfl rfl
theorem mv_K_end : Cond.instanceMethod y_K_end ∈ TB ∧ Cond.selects "NoneWordsModel" y_K_end y_K_end ∈ TB ∧ Cond.initialized "NoneWordsModel" ∈ TB ∧ Cond.code y_K_end b_K_end 2 (none) ∈ TB := ⟨inTB 926 (by decide +kernel) (by decide +kernel), inTB 52 (by decide +kernel) (by decide +kernel), inTB 71 (by decide +kernel) (by decide +kernel), tc_K_end⟩
theorem pd_K_end : y_K_end.cls = "NoneWordsModel" ∧ y_K_end.cls ≠ "java/lang/invoke/MethodHandle" ∧ y_K_end.cls ≠ "java/lang/invoke/VarHandle" ∧ (parseMethodDescriptor y_K_end.desc).map (fun d => d.parameters.length) = some 1 := by decide +kernel
theorem d_K_end_0 : decode b_K_end 0 = .ok (.aload_n 0, 1) := by decide +kernel
theorem d_K_end_1 : decode b_K_end 1 = .ok (.getfield 48, 3) := by decide +kernel
theorem d_K_end_4 : decode b_K_end 4 = .ok (.iload_n 1, 1) := by decide +kernel
theorem d_K_end_5 : decode b_K_end 5 = .ok (.iaload, 1) := by decide +kernel
theorem d_K_end_6 : decode b_K_end 6 = .ok (.iconst 1, 1) := by decide +kernel
theorem d_K_end_7 : decode b_K_end 7 = .ok (.if_icmp .le 8, 3) := by decide +kernel
theorem d_K_end_10 : decode b_K_end 10 = .ok (.aload_n 0, 1) := by decide +kernel
theorem d_K_end_11 : decode b_K_end 11 = .ok (.iload_n 1, 1) := by decide +kernel
theorem d_K_end_12 : decode b_K_end 12 = .ok (.invokevirtual 215, 3) := by decide +kernel
theorem d_K_end_15 : decode b_K_end 15 = .ok (.aload_n 0, 1) := by decide +kernel
theorem d_K_end_16 : decode b_K_end 16 = .ok (.dup, 1) := by decide +kernel
theorem d_K_end_17 : decode b_K_end 17 = .ok (.getfield 209, 3) := by decide +kernel
theorem d_K_end_20 : decode b_K_end 20 = .ok (.iconst 1, 1) := by decide +kernel
theorem d_K_end_21 : decode b_K_end 21 = .ok (.isub, 1) := by decide +kernel
theorem d_K_end_22 : decode b_K_end 22 = .ok (.putfield 209, 3) := by decide +kernel
theorem d_K_end_25 : decode b_K_end 25 = .ok (.return_, 1) := by decide +kernel
abbrev rm_K_end : Room := { frames := 1, cells := 0, slots := 0, locals := 21 }
def f_K_end (x1 : Int32) (M : Mem) : Option Mem :=
  gd (inb x1 120) (if (M 13 x1.toNatClampNeg) ≤ (1 : Int32) then some (ms M 0 23 ((M 0 23) - (1 : Int32))) else om (f_K_give x1 M) fun M12 => some (ms M12 0 23 ((M12 0 23) - (1 : Int32))))
set_option maxRecDepth 100000 in
theorem g_K_end {M' : Mem} (C : GC p s m args meth c b_K_end 2 (none) "NoneWordsModel" TB D vwCl (tysW cI cZ cC) A Z) {x1 : Int32} {M : Mem} (hf : f_K_end x1 M = some M') : GW p l e rm_K_end s m args below meth c (MQ below (QW D vwCl (tysW cI cZ cC) A none (wk ad cI cZ cC M')) args s 0 0 A) D vwCl A 2 0 0 (wk ad cI cZ cC M) 0 [(0, .ref (ad 0)), (1, .int x1)] [] := by
  unfold f_K_end at hf
  refine gw_aload_n C 0 d_K_end_0 rfl rfl ?_
  refine gw_get C in_K 0 wkg_0 clg_5 15 (by decide) tw_701 rfl rfl d_K_end_1 ?_
  refine gw_iload_n C 1 d_K_end_4 rfl rfl ?_
  obtain ⟨hb5, hf⟩ := gd_some hf
  refine gw_iald C 13 0 wkg_13 rfl hb5 d_K_end_5 ?_
  refine gw_iconst (v := (1 : Int32)) C d_K_end_6 (by decide) ?_
  refine gw_icmp_le (tgt := 15) C d_K_end_7 (by decide) (fun c => ?_) (fun c => ?_)
  · have hf := (if_pos c).symm.trans hf
    refine gw_aload_n C 0 d_K_end_15 rfl rfl ?_
    refine gw_dup C d_K_end_16 rfl ?_
    refine gw_get C in_K 0 wkg_0 clg_5 23 (by decide) tw_709 rfl rfl d_K_end_17 ?_
    refine gw_iconst (v := (1 : Int32)) C d_K_end_20 (by decide) ?_
    refine gw_isub C d_K_end_21 ?_
    refine gw_put C in_K ty_K tk_K nm_K 0 wkg_0 clg_5 23 (by decide) tw_709 rfl rfl rfl rfl (Nat.le_of_ble_eq_true rfl) d_K_end_22 wkf_0_23 ?_
    exact gw_vreti C d_K_end_25 (wk ad cI cZ cC) hf
  · have hf := (if_neg c).symm.trans hf
    refine gw_aload_n C 0 d_K_end_10 rfl rfl ?_
    refine gw_iload_n C 1 d_K_end_11 rfl rfl ?_
    obtain ⟨M12, hc12, hf⟩ := om_some hf
    refine gw_callVv (rest := []) C 0 wkg_0 clg_5 (c_K_give C.2.2.2.2.2.2.2.2.2.2 hc12) (cwV 1 C.2.2.2.2.1 (gTB_V tw_928 mv_K_give) rfl rfl rfl pd_K_give ⟨Nat.le_of_ble_eq_true rfl, Nat.le_of_ble_eq_true rfl⟩) rfl rfl (Nat.le_of_ble_eq_true rfl) d_K_end_12 ⟨Nat.le_of_ble_eq_true rfl, Nat.le_of_ble_eq_true rfl⟩ ?_
    refine gw_aload_n C 0 d_K_end_15 rfl rfl ?_
    refine gw_dup C d_K_end_16 rfl ?_
    refine gw_get C in_K 0 wkg_0 clg_5 23 (by decide) tw_709 rfl rfl d_K_end_17 ?_
    refine gw_iconst (v := (1 : Int32)) C d_K_end_20 (by decide) ?_
    refine gw_isub C d_K_end_21 ?_
    refine gw_put C in_K ty_K tk_K nm_K 0 wkg_0 clg_5 23 (by decide) tw_709 rfl rfl rfl rfl (Nat.le_of_ble_eq_true rfl) d_K_end_22 wkf_0_23 ?_
    exact gw_vreti C d_K_end_25 (wk ad cI cZ cC) hf
theorem c_K_end (hZ : gw_ZOK Z) {x1 : Int32} {M : Mem} {M' : Mem} (hf : f_K_end x1 M = some M') : CW l y_K_end ws_K_end rm_K_end D vwCl (tysW cI cZ cC) Z [.ref (ad 0), .int x1] (wk ad cI cZ cC M) none (wk ad cI cZ cC M') 0 0 :=
  CW.ofG hZ (by decide) rfl (Nat.le_of_ble_eq_true rfl) (fun _ _ _ _ _ _ _ _ C _ => g_K_end C hf)
abbrev b_K_countUses : ByteArray := prog_7_method_35_code
def y_K_countUses : MethodName := ⟨"NoneWordsModel", "countUses", "(I)V"⟩
abbrev ws_K_countUses : List Cond := Cond.code y_K_countUses b_K_countUses 3 (none) :: TB
set_option maxRecDepth 100000 in
theorem tc_K_countUses : Cond.code y_K_countUses b_K_countUses 3 (none) ∈ TB := inTB 845 rfl rfl
theorem mv_K_countUses : Cond.instanceMethod y_K_countUses ∈ TB ∧ Cond.selects "NoneWordsModel" y_K_countUses y_K_countUses ∈ TB ∧ Cond.initialized "NoneWordsModel" ∈ TB ∧ Cond.code y_K_countUses b_K_countUses 3 (none) ∈ TB := ⟨inTB 844 (by decide +kernel) (by decide +kernel), inTB 37 (by decide +kernel) (by decide +kernel), inTB 71 (by decide +kernel) (by decide +kernel), tc_K_countUses⟩
theorem pd_K_countUses : y_K_countUses.cls = "NoneWordsModel" ∧ y_K_countUses.cls ≠ "java/lang/invoke/MethodHandle" ∧ y_K_countUses.cls ≠ "java/lang/invoke/VarHandle" ∧ (parseMethodDescriptor y_K_countUses.desc).map (fun d => d.parameters.length) = some 1 := by decide +kernel
theorem d_K_countUses_0 : decode b_K_countUses 0 = .ok (.iconst 0, 1) := by decide +kernel
theorem d_K_countUses_1 : decode b_K_countUses 1 = .ok (.istore_n 2, 1) := by decide +kernel
theorem d_K_countUses_2 : decode b_K_countUses 2 = .ok (.iload_n 2, 1) := by decide +kernel
theorem d_K_countUses_3 : decode b_K_countUses 3 = .ok (.bipush 120, 2) := by decide +kernel
theorem d_K_countUses_5 : decode b_K_countUses 5 = .ok (.if_icmp .ge 23, 3) := by decide +kernel
theorem d_K_countUses_8 : decode b_K_countUses 8 = .ok (.aload_n 0, 1) := by decide +kernel
theorem d_K_countUses_9 : decode b_K_countUses 9 = .ok (.getfield 48, 3) := by decide +kernel
theorem d_K_countUses_12 : decode b_K_countUses 12 = .ok (.iload_n 2, 1) := by decide +kernel
theorem d_K_countUses_13 : decode b_K_countUses 13 = .ok (.iconst 0, 1) := by decide +kernel
theorem d_K_countUses_14 : decode b_K_countUses 14 = .ok (.iastore, 1) := by decide +kernel
theorem d_K_countUses_15 : decode b_K_countUses 15 = .ok (.aload_n 0, 1) := by decide +kernel
theorem d_K_countUses_16 : decode b_K_countUses 16 = .ok (.getfield 51, 3) := by decide +kernel
theorem d_K_countUses_19 : decode b_K_countUses 19 = .ok (.iload_n 2, 1) := by decide +kernel
theorem d_K_countUses_20 : decode b_K_countUses 20 = .ok (.iconst 0, 1) := by decide +kernel
theorem d_K_countUses_21 : decode b_K_countUses 21 = .ok (.bastore, 1) := by decide +kernel
theorem d_K_countUses_22 : decode b_K_countUses 22 = .ok (.iinc 2 1, 3) := by decide +kernel
theorem d_K_countUses_25 : decode b_K_countUses 25 = .ok (.goto (-23), 3) := by decide +kernel
theorem d_K_countUses_28 : decode b_K_countUses 28 = .ok (.aload_n 0, 1) := by decide +kernel
theorem d_K_countUses_29 : decode b_K_countUses 29 = .ok (.getfield 51, 3) := by decide +kernel
theorem d_K_countUses_32 : decode b_K_countUses 32 = .ok (.iload_n 1, 1) := by decide +kernel
theorem d_K_countUses_33 : decode b_K_countUses 33 = .ok (.iconst 1, 1) := by decide +kernel
theorem d_K_countUses_34 : decode b_K_countUses 34 = .ok (.bastore, 1) := by decide +kernel
theorem d_K_countUses_35 : decode b_K_countUses 35 = .ok (.iload_n 1, 1) := by decide +kernel
theorem d_K_countUses_36 : decode b_K_countUses 36 = .ok (.istore_n 2, 1) := by decide +kernel
theorem d_K_countUses_37 : decode b_K_countUses 37 = .ok (.iload_n 2, 1) := by decide +kernel
theorem d_K_countUses_38 : decode b_K_countUses 38 = .ok (.ifCond .lt 85, 3) := by decide +kernel
theorem d_K_countUses_41 : decode b_K_countUses 41 = .ok (.aload_n 0, 1) := by decide +kernel
theorem d_K_countUses_42 : decode b_K_countUses 42 = .ok (.getfield 51, 3) := by decide +kernel
theorem d_K_countUses_45 : decode b_K_countUses 45 = .ok (.iload_n 2, 1) := by decide +kernel
theorem d_K_countUses_46 : decode b_K_countUses 46 = .ok (.baload, 1) := by decide +kernel
theorem d_K_countUses_47 : decode b_K_countUses 47 = .ok (.ifCond .eq 70, 3) := by decide +kernel
theorem d_K_countUses_50 : decode b_K_countUses 50 = .ok (.aload_n 0, 1) := by decide +kernel
theorem d_K_countUses_51 : decode b_K_countUses 51 = .ok (.getfield 13, 3) := by decide +kernel
theorem d_K_countUses_54 : decode b_K_countUses 54 = .ok (.iload_n 2, 1) := by decide +kernel
theorem d_K_countUses_55 : decode b_K_countUses 55 = .ok (.iaload, 1) := by decide +kernel
theorem d_K_countUses_56 : decode b_K_countUses 56 = .ok (.iconst 4, 1) := by decide +kernel
theorem d_K_countUses_57 : decode b_K_countUses 57 = .ok (.if_icmp .eq 6, 3) := by decide +kernel
theorem d_K_countUses_60 : decode b_K_countUses 60 = .ok (.goto 57, 3) := by decide +kernel
theorem d_K_countUses_63 : decode b_K_countUses 63 = .ok (.aload_n 0, 1) := by decide +kernel
theorem d_K_countUses_64 : decode b_K_countUses 64 = .ok (.getfield 51, 3) := by decide +kernel
theorem d_K_countUses_67 : decode b_K_countUses 67 = .ok (.aload_n 0, 1) := by decide +kernel
theorem d_K_countUses_68 : decode b_K_countUses 68 = .ok (.getfield 16, 3) := by decide +kernel
theorem d_K_countUses_71 : decode b_K_countUses 71 = .ok (.iload_n 2, 1) := by decide +kernel
theorem d_K_countUses_72 : decode b_K_countUses 72 = .ok (.iaload, 1) := by decide +kernel
theorem d_K_countUses_73 : decode b_K_countUses 73 = .ok (.iconst 1, 1) := by decide +kernel
theorem d_K_countUses_74 : decode b_K_countUses 74 = .ok (.bastore, 1) := by decide +kernel
theorem d_K_countUses_75 : decode b_K_countUses 75 = .ok (.aload_n 0, 1) := by decide +kernel
theorem d_K_countUses_76 : decode b_K_countUses 76 = .ok (.getfield 51, 3) := by decide +kernel
theorem d_K_countUses_79 : decode b_K_countUses 79 = .ok (.aload_n 0, 1) := by decide +kernel
theorem d_K_countUses_80 : decode b_K_countUses 80 = .ok (.getfield 22, 3) := by decide +kernel
theorem d_K_countUses_83 : decode b_K_countUses 83 = .ok (.iload_n 2, 1) := by decide +kernel
theorem d_K_countUses_84 : decode b_K_countUses 84 = .ok (.iaload, 1) := by decide +kernel
theorem d_K_countUses_85 : decode b_K_countUses 85 = .ok (.iconst 1, 1) := by decide +kernel
theorem d_K_countUses_86 : decode b_K_countUses 86 = .ok (.bastore, 1) := by decide +kernel
theorem d_K_countUses_87 : decode b_K_countUses 87 = .ok (.aload_n 0, 1) := by decide +kernel
theorem d_K_countUses_88 : decode b_K_countUses 88 = .ok (.getfield 48, 3) := by decide +kernel
theorem d_K_countUses_91 : decode b_K_countUses 91 = .ok (.aload_n 0, 1) := by decide +kernel
theorem d_K_countUses_92 : decode b_K_countUses 92 = .ok (.getfield 16, 3) := by decide +kernel
theorem d_K_countUses_95 : decode b_K_countUses 95 = .ok (.iload_n 2, 1) := by decide +kernel
theorem d_K_countUses_96 : decode b_K_countUses 96 = .ok (.iaload, 1) := by decide +kernel
theorem d_K_countUses_97 : decode b_K_countUses 97 = .ok (.dup2, 1) := by decide +kernel
theorem d_K_countUses_98 : decode b_K_countUses 98 = .ok (.iaload, 1) := by decide +kernel
theorem d_K_countUses_99 : decode b_K_countUses 99 = .ok (.iconst 1, 1) := by decide +kernel
theorem d_K_countUses_100 : decode b_K_countUses 100 = .ok (.iadd, 1) := by decide +kernel
theorem d_K_countUses_101 : decode b_K_countUses 101 = .ok (.iastore, 1) := by decide +kernel
theorem d_K_countUses_102 : decode b_K_countUses 102 = .ok (.aload_n 0, 1) := by decide +kernel
theorem d_K_countUses_103 : decode b_K_countUses 103 = .ok (.getfield 48, 3) := by decide +kernel
theorem d_K_countUses_106 : decode b_K_countUses 106 = .ok (.aload_n 0, 1) := by decide +kernel
theorem d_K_countUses_107 : decode b_K_countUses 107 = .ok (.getfield 22, 3) := by decide +kernel
theorem d_K_countUses_110 : decode b_K_countUses 110 = .ok (.iload_n 2, 1) := by decide +kernel
theorem d_K_countUses_111 : decode b_K_countUses 111 = .ok (.iaload, 1) := by decide +kernel
theorem d_K_countUses_112 : decode b_K_countUses 112 = .ok (.dup2, 1) := by decide +kernel
theorem d_K_countUses_113 : decode b_K_countUses 113 = .ok (.iaload, 1) := by decide +kernel
theorem d_K_countUses_114 : decode b_K_countUses 114 = .ok (.iconst 1, 1) := by decide +kernel
theorem d_K_countUses_115 : decode b_K_countUses 115 = .ok (.iadd, 1) := by decide +kernel
theorem d_K_countUses_116 : decode b_K_countUses 116 = .ok (.iastore, 1) := by decide +kernel
theorem d_K_countUses_117 : decode b_K_countUses 117 = .ok (.iinc 2 (-1), 3) := by decide +kernel
theorem d_K_countUses_120 : decode b_K_countUses 120 = .ok (.goto (-83), 3) := by decide +kernel
theorem d_K_countUses_123 : decode b_K_countUses 123 = .ok (.return_, 1) := by decide +kernel
abbrev rm_K_countUses : Room := { frames := 0, cells := 0, slots := 0, locals := 0 }
def f_K_countUses_37 : Nat → Int32 → Mem → Option Mem
  | 0, _, _ => none
  | n + 1, x2, M => if x2 < 0 then some M else gd (inb x2 120) (if (M 14 x2.toNatClampNeg) = 0 then (f_K_countUses_37 n) (x2 + (-1 : Int32)) M else gd (inb x2 120) (if (M 2 x2.toNatClampNeg) = (4 : Int32) then gd (inb x2 120) (gd (inb (M 3 x2.toNatClampNeg) 120) (gd (inb x2 120) (gd (inb ((ms M 14 (M 3 x2.toNatClampNeg).toNatClampNeg (vp_nar .boolean (1 : Int32))) 5 x2.toNatClampNeg) 120) (gd (inb x2 120) (gd (inb ((ms (ms M 14 (M 3 x2.toNatClampNeg).toNatClampNeg (vp_nar .boolean (1 : Int32))) 14 ((ms M 14 (M 3 x2.toNatClampNeg).toNatClampNeg (vp_nar .boolean (1 : Int32))) 5 x2.toNatClampNeg).toNatClampNeg (vp_nar .boolean (1 : Int32))) 3 x2.toNatClampNeg) 120) (gd (inb ((ms (ms M 14 (M 3 x2.toNatClampNeg).toNatClampNeg (vp_nar .boolean (1 : Int32))) 14 ((ms M 14 (M 3 x2.toNatClampNeg).toNatClampNeg (vp_nar .boolean (1 : Int32))) 5 x2.toNatClampNeg).toNatClampNeg (vp_nar .boolean (1 : Int32))) 3 x2.toNatClampNeg) 120) (gd (inb x2 120) (gd (inb ((ms (ms (ms M 14 (M 3 x2.toNatClampNeg).toNatClampNeg (vp_nar .boolean (1 : Int32))) 14 ((ms M 14 (M 3 x2.toNatClampNeg).toNatClampNeg (vp_nar .boolean (1 : Int32))) 5 x2.toNatClampNeg).toNatClampNeg (vp_nar .boolean (1 : Int32))) 13 ((ms (ms M 14 (M 3 x2.toNatClampNeg).toNatClampNeg (vp_nar .boolean (1 : Int32))) 14 ((ms M 14 (M 3 x2.toNatClampNeg).toNatClampNeg (vp_nar .boolean (1 : Int32))) 5 x2.toNatClampNeg).toNatClampNeg (vp_nar .boolean (1 : Int32))) 3 x2.toNatClampNeg).toNatClampNeg (((ms (ms M 14 (M 3 x2.toNatClampNeg).toNatClampNeg (vp_nar .boolean (1 : Int32))) 14 ((ms M 14 (M 3 x2.toNatClampNeg).toNatClampNeg (vp_nar .boolean (1 : Int32))) 5 x2.toNatClampNeg).toNatClampNeg (vp_nar .boolean (1 : Int32))) 13 ((ms (ms M 14 (M 3 x2.toNatClampNeg).toNatClampNeg (vp_nar .boolean (1 : Int32))) 14 ((ms M 14 (M 3 x2.toNatClampNeg).toNatClampNeg (vp_nar .boolean (1 : Int32))) 5 x2.toNatClampNeg).toNatClampNeg (vp_nar .boolean (1 : Int32))) 3 x2.toNatClampNeg).toNatClampNeg) + (1 : Int32))) 5 x2.toNatClampNeg) 120) (gd (inb ((ms (ms (ms M 14 (M 3 x2.toNatClampNeg).toNatClampNeg (vp_nar .boolean (1 : Int32))) 14 ((ms M 14 (M 3 x2.toNatClampNeg).toNatClampNeg (vp_nar .boolean (1 : Int32))) 5 x2.toNatClampNeg).toNatClampNeg (vp_nar .boolean (1 : Int32))) 13 ((ms (ms M 14 (M 3 x2.toNatClampNeg).toNatClampNeg (vp_nar .boolean (1 : Int32))) 14 ((ms M 14 (M 3 x2.toNatClampNeg).toNatClampNeg (vp_nar .boolean (1 : Int32))) 5 x2.toNatClampNeg).toNatClampNeg (vp_nar .boolean (1 : Int32))) 3 x2.toNatClampNeg).toNatClampNeg (((ms (ms M 14 (M 3 x2.toNatClampNeg).toNatClampNeg (vp_nar .boolean (1 : Int32))) 14 ((ms M 14 (M 3 x2.toNatClampNeg).toNatClampNeg (vp_nar .boolean (1 : Int32))) 5 x2.toNatClampNeg).toNatClampNeg (vp_nar .boolean (1 : Int32))) 13 ((ms (ms M 14 (M 3 x2.toNatClampNeg).toNatClampNeg (vp_nar .boolean (1 : Int32))) 14 ((ms M 14 (M 3 x2.toNatClampNeg).toNatClampNeg (vp_nar .boolean (1 : Int32))) 5 x2.toNatClampNeg).toNatClampNeg (vp_nar .boolean (1 : Int32))) 3 x2.toNatClampNeg).toNatClampNeg) + (1 : Int32))) 5 x2.toNatClampNeg) 120) ((f_K_countUses_37 n) (x2 + (-1 : Int32)) (ms (ms (ms (ms M 14 (M 3 x2.toNatClampNeg).toNatClampNeg (vp_nar .boolean (1 : Int32))) 14 ((ms M 14 (M 3 x2.toNatClampNeg).toNatClampNeg (vp_nar .boolean (1 : Int32))) 5 x2.toNatClampNeg).toNatClampNeg (vp_nar .boolean (1 : Int32))) 13 ((ms (ms M 14 (M 3 x2.toNatClampNeg).toNatClampNeg (vp_nar .boolean (1 : Int32))) 14 ((ms M 14 (M 3 x2.toNatClampNeg).toNatClampNeg (vp_nar .boolean (1 : Int32))) 5 x2.toNatClampNeg).toNatClampNeg (vp_nar .boolean (1 : Int32))) 3 x2.toNatClampNeg).toNatClampNeg (((ms (ms M 14 (M 3 x2.toNatClampNeg).toNatClampNeg (vp_nar .boolean (1 : Int32))) 14 ((ms M 14 (M 3 x2.toNatClampNeg).toNatClampNeg (vp_nar .boolean (1 : Int32))) 5 x2.toNatClampNeg).toNatClampNeg (vp_nar .boolean (1 : Int32))) 13 ((ms (ms M 14 (M 3 x2.toNatClampNeg).toNatClampNeg (vp_nar .boolean (1 : Int32))) 14 ((ms M 14 (M 3 x2.toNatClampNeg).toNatClampNeg (vp_nar .boolean (1 : Int32))) 5 x2.toNatClampNeg).toNatClampNeg (vp_nar .boolean (1 : Int32))) 3 x2.toNatClampNeg).toNatClampNeg) + (1 : Int32))) 13 ((ms (ms (ms M 14 (M 3 x2.toNatClampNeg).toNatClampNeg (vp_nar .boolean (1 : Int32))) 14 ((ms M 14 (M 3 x2.toNatClampNeg).toNatClampNeg (vp_nar .boolean (1 : Int32))) 5 x2.toNatClampNeg).toNatClampNeg (vp_nar .boolean (1 : Int32))) 13 ((ms (ms M 14 (M 3 x2.toNatClampNeg).toNatClampNeg (vp_nar .boolean (1 : Int32))) 14 ((ms M 14 (M 3 x2.toNatClampNeg).toNatClampNeg (vp_nar .boolean (1 : Int32))) 5 x2.toNatClampNeg).toNatClampNeg (vp_nar .boolean (1 : Int32))) 3 x2.toNatClampNeg).toNatClampNeg (((ms (ms M 14 (M 3 x2.toNatClampNeg).toNatClampNeg (vp_nar .boolean (1 : Int32))) 14 ((ms M 14 (M 3 x2.toNatClampNeg).toNatClampNeg (vp_nar .boolean (1 : Int32))) 5 x2.toNatClampNeg).toNatClampNeg (vp_nar .boolean (1 : Int32))) 13 ((ms (ms M 14 (M 3 x2.toNatClampNeg).toNatClampNeg (vp_nar .boolean (1 : Int32))) 14 ((ms M 14 (M 3 x2.toNatClampNeg).toNatClampNeg (vp_nar .boolean (1 : Int32))) 5 x2.toNatClampNeg).toNatClampNeg (vp_nar .boolean (1 : Int32))) 3 x2.toNatClampNeg).toNatClampNeg) + (1 : Int32))) 5 x2.toNatClampNeg).toNatClampNeg (((ms (ms (ms M 14 (M 3 x2.toNatClampNeg).toNatClampNeg (vp_nar .boolean (1 : Int32))) 14 ((ms M 14 (M 3 x2.toNatClampNeg).toNatClampNeg (vp_nar .boolean (1 : Int32))) 5 x2.toNatClampNeg).toNatClampNeg (vp_nar .boolean (1 : Int32))) 13 ((ms (ms M 14 (M 3 x2.toNatClampNeg).toNatClampNeg (vp_nar .boolean (1 : Int32))) 14 ((ms M 14 (M 3 x2.toNatClampNeg).toNatClampNeg (vp_nar .boolean (1 : Int32))) 5 x2.toNatClampNeg).toNatClampNeg (vp_nar .boolean (1 : Int32))) 3 x2.toNatClampNeg).toNatClampNeg (((ms (ms M 14 (M 3 x2.toNatClampNeg).toNatClampNeg (vp_nar .boolean (1 : Int32))) 14 ((ms M 14 (M 3 x2.toNatClampNeg).toNatClampNeg (vp_nar .boolean (1 : Int32))) 5 x2.toNatClampNeg).toNatClampNeg (vp_nar .boolean (1 : Int32))) 13 ((ms (ms M 14 (M 3 x2.toNatClampNeg).toNatClampNeg (vp_nar .boolean (1 : Int32))) 14 ((ms M 14 (M 3 x2.toNatClampNeg).toNatClampNeg (vp_nar .boolean (1 : Int32))) 5 x2.toNatClampNeg).toNatClampNeg (vp_nar .boolean (1 : Int32))) 3 x2.toNatClampNeg).toNatClampNeg) + (1 : Int32))) 13 ((ms (ms (ms M 14 (M 3 x2.toNatClampNeg).toNatClampNeg (vp_nar .boolean (1 : Int32))) 14 ((ms M 14 (M 3 x2.toNatClampNeg).toNatClampNeg (vp_nar .boolean (1 : Int32))) 5 x2.toNatClampNeg).toNatClampNeg (vp_nar .boolean (1 : Int32))) 13 ((ms (ms M 14 (M 3 x2.toNatClampNeg).toNatClampNeg (vp_nar .boolean (1 : Int32))) 14 ((ms M 14 (M 3 x2.toNatClampNeg).toNatClampNeg (vp_nar .boolean (1 : Int32))) 5 x2.toNatClampNeg).toNatClampNeg (vp_nar .boolean (1 : Int32))) 3 x2.toNatClampNeg).toNatClampNeg (((ms (ms M 14 (M 3 x2.toNatClampNeg).toNatClampNeg (vp_nar .boolean (1 : Int32))) 14 ((ms M 14 (M 3 x2.toNatClampNeg).toNatClampNeg (vp_nar .boolean (1 : Int32))) 5 x2.toNatClampNeg).toNatClampNeg (vp_nar .boolean (1 : Int32))) 13 ((ms (ms M 14 (M 3 x2.toNatClampNeg).toNatClampNeg (vp_nar .boolean (1 : Int32))) 14 ((ms M 14 (M 3 x2.toNatClampNeg).toNatClampNeg (vp_nar .boolean (1 : Int32))) 5 x2.toNatClampNeg).toNatClampNeg (vp_nar .boolean (1 : Int32))) 3 x2.toNatClampNeg).toNatClampNeg) + (1 : Int32))) 5 x2.toNatClampNeg).toNatClampNeg) + (1 : Int32))))))))))))) else (f_K_countUses_37 n) (x2 + (-1 : Int32)) M))
set_option maxRecDepth 100000 in
theorem g_K_countUses_37 {M' : Mem} (C : GC p s m args meth c b_K_countUses 3 (none) "NoneWordsModel" TB D vwCl (tysW cI cZ cC) A Z) : ∀ (n : Nat) (x2 : Int32) (M : Mem), f_K_countUses_37 n x2 M = some M' → GW p l e rm_K_countUses s m args below meth c (MQ below (QW D vwCl (tysW cI cZ cC) A none (wk ad cI cZ cC M')) args s 0 0 A) D vwCl A 3 0 0 (wk ad cI cZ cC M) 37 [(0, .ref (ad 0)), (2, .int x2)] [] := by
  intro n
  induction n with
  | zero => intro _ _ hf; cases hf
  | succ n ih =>
    intro x2 M hf
    rw [f_K_countUses_37] at hf
    refine gw_iload_n C 1 d_K_countUses_37 rfl rfl ?_
    refine gw_if_lt (tgt := 123) C d_K_countUses_38 (by decide) (fun c => ?_) (fun c => ?_)
    · have hf := (if_pos c).symm.trans hf
      exact gw_vreti C d_K_countUses_123 (wk ad cI cZ cC) hf
    · have hf := (if_neg c).symm.trans hf
      refine gw_aload_n C 0 d_K_countUses_41 rfl rfl ?_
      refine gw_get C in_K 0 wkg_0 clg_5 19 (by decide) tw_705 rfl rfl d_K_countUses_42 ?_
      refine gw_iload_n C 1 d_K_countUses_45 rfl rfl ?_
      obtain ⟨hb46, hf⟩ := gd_some hf
      refine gw_zald C 14 1 wkg_14 rfl hb46 d_K_countUses_46 ?_
      refine gw_if_eq (tgt := 117) C d_K_countUses_47 (by decide) (fun c => ?_) (fun c => ?_)
      · have hf := (if_pos c).symm.trans hf
        refine gw_iinc (v := x2 + (-1 : Int32)) (lv' := [(2, .int (x2 + (-1 : Int32))), (0, .ref (ad 0))]) C 1 d_K_countUses_117 rfl rfl (by decide) rfl ?_
        refine gw_goto (tgt := 37) C d_K_countUses_120 (by decide) ?_
        exact gw_sub [1, 0] rfl (ih _ _ hf)
      · have hf := (if_neg c).symm.trans hf
        refine gw_aload_n C 0 d_K_countUses_50 rfl rfl ?_
        refine gw_get C in_K 0 wkg_0 clg_5 4 (by decide) tw_690 rfl rfl d_K_countUses_51 ?_
        refine gw_iload_n C 1 d_K_countUses_54 rfl rfl ?_
        obtain ⟨hb55, hf⟩ := gd_some hf
        refine gw_iald C 2 0 wkg_2 rfl hb55 d_K_countUses_55 ?_
        refine gw_iconst (v := (4 : Int32)) C d_K_countUses_56 (by decide) ?_
        refine gw_icmp_eq (tgt := 63) C d_K_countUses_57 (by decide) (fun c => ?_) (fun c => ?_)
        · have hf := (if_pos c).symm.trans hf
          refine gw_aload_n C 0 d_K_countUses_63 rfl rfl ?_
          refine gw_get C in_K 0 wkg_0 clg_5 19 (by decide) tw_705 rfl rfl d_K_countUses_64 ?_
          refine gw_aload_n C 0 d_K_countUses_67 rfl rfl ?_
          refine gw_get C in_K 0 wkg_0 clg_5 5 (by decide) tw_691 rfl rfl d_K_countUses_68 ?_
          refine gw_iload_n C 1 d_K_countUses_71 rfl rfl ?_
          obtain ⟨hb72, hf⟩ := gd_some hf
          refine gw_iald C 3 0 wkg_3 rfl hb72 d_K_countUses_72 ?_
          refine gw_iconst (v := (1 : Int32)) C d_K_countUses_73 (by decide) ?_
          obtain ⟨hb74, hf⟩ := gd_some hf
          refine gw_zast C 14 1 wkg_14 rfl hb74 d_K_countUses_74 wka_14 ?_
          refine gw_aload_n C 0 d_K_countUses_75 rfl rfl ?_
          refine gw_get C in_K 0 wkg_0 clg_5 19 (by decide) tw_705 rfl rfl d_K_countUses_76 ?_
          refine gw_aload_n C 0 d_K_countUses_79 rfl rfl ?_
          refine gw_get C in_K 0 wkg_0 clg_5 7 (by decide) tw_693 rfl rfl d_K_countUses_80 ?_
          refine gw_iload_n C 1 d_K_countUses_83 rfl rfl ?_
          obtain ⟨hb84, hf⟩ := gd_some hf
          refine gw_iald C 5 0 wkg_5 rfl hb84 d_K_countUses_84 ?_
          refine gw_iconst (v := (1 : Int32)) C d_K_countUses_85 (by decide) ?_
          obtain ⟨hb86, hf⟩ := gd_some hf
          refine gw_zast C 14 1 wkg_14 rfl hb86 d_K_countUses_86 wka_14 ?_
          refine gw_aload_n C 0 d_K_countUses_87 rfl rfl ?_
          refine gw_get C in_K 0 wkg_0 clg_5 15 (by decide) tw_701 rfl rfl d_K_countUses_88 ?_
          refine gw_aload_n C 0 d_K_countUses_91 rfl rfl ?_
          refine gw_get C in_K 0 wkg_0 clg_5 5 (by decide) tw_691 rfl rfl d_K_countUses_92 ?_
          refine gw_iload_n C 1 d_K_countUses_95 rfl rfl ?_
          obtain ⟨hb96, hf⟩ := gd_some hf
          refine gw_iald C 3 0 wkg_3 rfl hb96 d_K_countUses_96 ?_
          refine gw_dup2 C d_K_countUses_97 rfl rfl ?_
          obtain ⟨hb98, hf⟩ := gd_some hf
          refine gw_iald C 13 0 wkg_13 rfl hb98 d_K_countUses_98 ?_
          refine gw_iconst (v := (1 : Int32)) C d_K_countUses_99 (by decide) ?_
          refine gw_iadd C d_K_countUses_100 ?_
          obtain ⟨hb101, hf⟩ := gd_some hf
          refine gw_iast C 13 0 wkg_13 rfl hb101 d_K_countUses_101 wka_13 ?_
          refine gw_aload_n C 0 d_K_countUses_102 rfl rfl ?_
          refine gw_get C in_K 0 wkg_0 clg_5 15 (by decide) tw_701 rfl rfl d_K_countUses_103 ?_
          refine gw_aload_n C 0 d_K_countUses_106 rfl rfl ?_
          refine gw_get C in_K 0 wkg_0 clg_5 7 (by decide) tw_693 rfl rfl d_K_countUses_107 ?_
          refine gw_iload_n C 1 d_K_countUses_110 rfl rfl ?_
          obtain ⟨hb111, hf⟩ := gd_some hf
          refine gw_iald C 5 0 wkg_5 rfl hb111 d_K_countUses_111 ?_
          refine gw_dup2 C d_K_countUses_112 rfl rfl ?_
          obtain ⟨hb113, hf⟩ := gd_some hf
          refine gw_iald C 13 0 wkg_13 rfl hb113 d_K_countUses_113 ?_
          refine gw_iconst (v := (1 : Int32)) C d_K_countUses_114 (by decide) ?_
          refine gw_iadd C d_K_countUses_115 ?_
          obtain ⟨hb116, hf⟩ := gd_some hf
          refine gw_iast C 13 0 wkg_13 rfl hb116 d_K_countUses_116 wka_13 ?_
          refine gw_iinc (v := x2 + (-1 : Int32)) (lv' := [(2, .int (x2 + (-1 : Int32))), (0, .ref (ad 0))]) C 1 d_K_countUses_117 rfl rfl (by decide) rfl ?_
          refine gw_goto (tgt := 37) C d_K_countUses_120 (by decide) ?_
          exact gw_sub [1, 0] rfl (ih _ _ hf)
        · have hf := (if_neg c).symm.trans hf
          refine gw_goto (tgt := 117) C d_K_countUses_60 (by decide) ?_
          refine gw_iinc (v := x2 + (-1 : Int32)) (lv' := [(2, .int (x2 + (-1 : Int32))), (0, .ref (ad 0))]) C 1 d_K_countUses_117 rfl rfl (by decide) rfl ?_
          refine gw_goto (tgt := 37) C d_K_countUses_120 (by decide) ?_
          exact gw_sub [1, 0] rfl (ih _ _ hf)
def f_K_countUses_2 : Nat → Int32 → Int32 → Mem → Option Mem
  | 0, _, _, _ => none
  | n + 1, x1, x2, M => if (120 : Int32) ≤ x2 then gd (inb x1 120) (f_K_countUses_37 100000 x1 (ms M 14 x1.toNatClampNeg (vp_nar .boolean (1 : Int32)))) else gd (inb x2 120) (gd (inb x2 120) ((f_K_countUses_2 n) x1 (x2 + (1 : Int32)) (ms (ms M 13 x2.toNatClampNeg (0 : Int32)) 14 x2.toNatClampNeg (vp_nar .boolean (0 : Int32)))))
set_option maxRecDepth 100000 in
theorem g_K_countUses_2 {M' : Mem} (C : GC p s m args meth c b_K_countUses 3 (none) "NoneWordsModel" TB D vwCl (tysW cI cZ cC) A Z) : ∀ (n : Nat) (x1 : Int32) (x2 : Int32) (M : Mem), f_K_countUses_2 n x1 x2 M = some M' → GW p l e rm_K_countUses s m args below meth c (MQ below (QW D vwCl (tysW cI cZ cC) A none (wk ad cI cZ cC M')) args s 0 0 A) D vwCl A 3 0 0 (wk ad cI cZ cC M) 2 [(0, .ref (ad 0)), (1, .int x1), (2, .int x2)] [] := by
  intro n
  induction n with
  | zero => intro _ _ _ hf; cases hf
  | succ n ih =>
    intro x1 x2 M hf
    rw [f_K_countUses_2] at hf
    refine gw_iload_n C 2 d_K_countUses_2 rfl rfl ?_
    refine gw_bipush (v := (120 : Int32)) C d_K_countUses_3 (by decide) ?_
    refine gw_icmp_ge (tgt := 28) C d_K_countUses_5 (by decide) (fun c => ?_) (fun c => ?_)
    · have hf := (if_pos c).symm.trans hf
      refine gw_aload_n C 0 d_K_countUses_28 rfl rfl ?_
      refine gw_get C in_K 0 wkg_0 clg_5 19 (by decide) tw_705 rfl rfl d_K_countUses_29 ?_
      refine gw_iload_n C 1 d_K_countUses_32 rfl rfl ?_
      refine gw_iconst (v := (1 : Int32)) C d_K_countUses_33 (by decide) ?_
      obtain ⟨hb34, hf⟩ := gd_some hf
      refine gw_zast C 14 1 wkg_14 rfl hb34 d_K_countUses_34 wka_14 ?_
      refine gw_iload_n C 1 d_K_countUses_35 rfl rfl ?_
      refine gw_istore_n (lv' := [(2, .int x1), (0, .ref (ad 0)), (1, .int x1)]) C d_K_countUses_36 rfl (by decide) rfl ?_
      exact gw_sub [1, 0] rfl (g_K_countUses_37 C _ _ _ hf)
    · have hf := (if_neg c).symm.trans hf
      refine gw_aload_n C 0 d_K_countUses_8 rfl rfl ?_
      refine gw_get C in_K 0 wkg_0 clg_5 15 (by decide) tw_701 rfl rfl d_K_countUses_9 ?_
      refine gw_iload_n C 2 d_K_countUses_12 rfl rfl ?_
      refine gw_iconst (v := (0 : Int32)) C d_K_countUses_13 (by decide) ?_
      obtain ⟨hb14, hf⟩ := gd_some hf
      refine gw_iast C 13 0 wkg_13 rfl hb14 d_K_countUses_14 wka_13 ?_
      refine gw_aload_n C 0 d_K_countUses_15 rfl rfl ?_
      refine gw_get C in_K 0 wkg_0 clg_5 19 (by decide) tw_705 rfl rfl d_K_countUses_16 ?_
      refine gw_iload_n C 2 d_K_countUses_19 rfl rfl ?_
      refine gw_iconst (v := (0 : Int32)) C d_K_countUses_20 (by decide) ?_
      obtain ⟨hb21, hf⟩ := gd_some hf
      refine gw_zast C 14 1 wkg_14 rfl hb21 d_K_countUses_21 wka_14 ?_
      refine gw_iinc (v := x2 + (1 : Int32)) (lv' := [(2, .int (x2 + (1 : Int32))), (0, .ref (ad 0)), (1, .int x1)]) C 2 d_K_countUses_22 rfl rfl (by decide) rfl ?_
      refine gw_goto (tgt := 2) C d_K_countUses_25 (by decide) ?_
      exact gw_sub [1, 2, 0] rfl (ih _ _ _ hf)
def f_K_countUses (x1 : Int32) (M : Mem) : Option Mem :=
  f_K_countUses_2 100000 x1 (0 : Int32) M
set_option maxRecDepth 100000 in
theorem g_K_countUses {M' : Mem} (C : GC p s m args meth c b_K_countUses 3 (none) "NoneWordsModel" TB D vwCl (tysW cI cZ cC) A Z) {x1 : Int32} {M : Mem} (hf : f_K_countUses x1 M = some M') : GW p l e rm_K_countUses s m args below meth c (MQ below (QW D vwCl (tysW cI cZ cC) A none (wk ad cI cZ cC M')) args s 0 0 A) D vwCl A 3 0 0 (wk ad cI cZ cC M) 0 [(0, .ref (ad 0)), (1, .int x1)] [] := by
  unfold f_K_countUses at hf
  refine gw_iconst (v := (0 : Int32)) C d_K_countUses_0 (by decide) ?_
  refine gw_istore_n (lv' := [(2, .int (0 : Int32)), (0, .ref (ad 0)), (1, .int x1)]) C d_K_countUses_1 rfl (by decide) rfl ?_
  exact gw_sub [1, 2, 0] rfl (g_K_countUses_2 C _ _ _ _ hf)
theorem c_K_countUses (hZ : gw_ZOK Z) {x1 : Int32} {M : Mem} {M' : Mem} (hf : f_K_countUses x1 M = some M') : CW l y_K_countUses ws_K_countUses rm_K_countUses D vwCl (tysW cI cZ cC) Z [.ref (ad 0), .int x1] (wk ad cI cZ cC M) none (wk ad cI cZ cC M') 0 0 :=
  CW.ofG hZ (by decide) rfl (Nat.le_of_ble_eq_true rfl) (fun _ _ _ _ _ _ _ _ C _ => g_K_countUses C hf)
abbrev b_K_thus : ByteArray := prog_7_method_38_code
def y_K_thus : MethodName := ⟨"NoneWordsModel", "thus", "(I)V"⟩
abbrev ws_K_thus : List Cond := Cond.code y_K_thus b_K_thus 2 (none) :: TB
set_option maxRecDepth 100000 in
theorem tc_K_thus : Cond.code y_K_thus b_K_thus 2 (none) ∈ TB := inTB 951 rfl rfl
theorem mv_K_thus : Cond.instanceMethod y_K_thus ∈ TB ∧ Cond.selects "NoneWordsModel" y_K_thus y_K_thus ∈ TB ∧ Cond.initialized "NoneWordsModel" ∈ TB ∧ Cond.code y_K_thus b_K_thus 2 (none) ∈ TB := ⟨inTB 950 (by decide +kernel) (by decide +kernel), inTB 58 (by decide +kernel) (by decide +kernel), inTB 71 (by decide +kernel) (by decide +kernel), tc_K_thus⟩
theorem pd_K_thus : y_K_thus.cls = "NoneWordsModel" ∧ y_K_thus.cls ≠ "java/lang/invoke/MethodHandle" ∧ y_K_thus.cls ≠ "java/lang/invoke/VarHandle" ∧ (parseMethodDescriptor y_K_thus.desc).map (fun d => d.parameters.length) = some 1 := by decide +kernel
theorem d_K_thus_0 : decode b_K_thus 0 = .ok (.aload_n 0, 1) := by decide +kernel
theorem d_K_thus_1 : decode b_K_thus 1 = .ok (.invokevirtual 194, 3) := by decide +kernel
theorem d_K_thus_4 : decode b_K_thus 4 = .ok (.aload_n 0, 1) := by decide +kernel
theorem d_K_thus_5 : decode b_K_thus 5 = .ok (.ldc2_w 250, 3) := by decide +kernel
theorem d_K_thus_8 : decode b_K_thus 8 = .ok (.invokevirtual 137, 3) := by decide +kernel
theorem d_K_thus_11 : decode b_K_thus 11 = .ok (.aload_n 0, 1) := by decide +kernel
theorem d_K_thus_12 : decode b_K_thus 12 = .ok (.iload_n 1, 1) := by decide +kernel
theorem d_K_thus_13 : decode b_K_thus 13 = .ok (.invokevirtual 203, 3) := by decide +kernel
theorem d_K_thus_16 : decode b_K_thus 16 = .ok (.aload_n 0, 1) := by decide +kernel
theorem d_K_thus_17 : decode b_K_thus 17 = .ok (.bipush 46, 2) := by decide +kernel
theorem d_K_thus_19 : decode b_K_thus 19 = .ok (.invokevirtual 131, 3) := by decide +kernel
theorem d_K_thus_22 : decode b_K_thus 22 = .ok (.return_, 1) := by decide +kernel
abbrev rm_K_thus : Room := { frames := 7, cells := 0, slots := 0, locals := 158 }
def f_K_thus (x1 : Int32) (M : Mem) : Option Mem :=
  om (f_K_begin M) fun M1 => om (f_K_say (92807623814176 : Int64) M1) fun M8 => om (f_K_told x1 M8) fun M13 => om (f_K_put (46 : Int32) M13) fun M19 => some M19
set_option maxRecDepth 100000 in
theorem g_K_thus {M' : Mem} (C : GC p s m args meth c b_K_thus 2 (none) "NoneWordsModel" TB D vwCl (tysW cI cZ cC) A Z) {x1 : Int32} {M : Mem} (hf : f_K_thus x1 M = some M') : GW p l e rm_K_thus s m args below meth c (MQ below (QW D vwCl (tysW cI cZ cC) A none (wk ad cI cZ cC M')) args s 0 0 A) D vwCl A 2 0 0 (wk ad cI cZ cC M) 0 [(0, .ref (ad 0)), (1, .int x1)] [] := by
  unfold f_K_thus at hf
  refine gw_aload_n C 0 d_K_thus_0 rfl rfl ?_
  obtain ⟨M1, hc1, hf⟩ := om_some hf
  refine gw_callVv (rest := []) C 0 wkg_0 clg_5 (c_K_begin C.2.2.2.2.2.2.2.2.2.2 hc1) (cwV 0 C.2.2.2.2.1 (gTB_V tw_866 mv_K_begin) rfl rfl rfl pd_K_begin ⟨Nat.le_of_ble_eq_true rfl, Nat.le_of_ble_eq_true rfl⟩) rfl rfl (Nat.le_of_ble_eq_true rfl) d_K_thus_1 ⟨Nat.le_of_ble_eq_true rfl, Nat.le_of_ble_eq_true rfl⟩ ?_
  refine gw_aload_n C 0 d_K_thus_4 rfl rfl ?_
  refine gw_ldc2 (v := (92807623814176 : Int64)) C d_K_thus_5 tw_952 ?_
  obtain ⟨M8, hc8, hf⟩ := om_some hf
  refine gw_callVv (rest := []) C 0 wkg_0 clg_5 (c_K_say C.2.2.2.2.2.2.2.2.2.2 hc8) (cwV 1 C.2.2.2.2.1 (gTB_V tw_871 mv_K_say) rfl rfl rfl pd_K_say ⟨Nat.le_of_ble_eq_true rfl, Nat.le_of_ble_eq_true rfl⟩) rfl rfl (Nat.le_of_ble_eq_true rfl) d_K_thus_8 ⟨Nat.le_of_ble_eq_true rfl, Nat.le_of_ble_eq_true rfl⟩ ?_
  refine gw_aload_n C 0 d_K_thus_11 rfl rfl ?_
  refine gw_iload_n C 1 d_K_thus_12 rfl rfl ?_
  obtain ⟨M13, hc13, hf⟩ := om_some hf
  refine gw_callVv (rest := []) C 0 wkg_0 clg_5 (c_K_told C.2.2.2.2.2.2.2.2.2.2 hc13) (cwV 1 C.2.2.2.2.1 (gTB_V tw_882 mv_K_told) rfl rfl rfl pd_K_told ⟨Nat.le_of_ble_eq_true rfl, Nat.le_of_ble_eq_true rfl⟩) rfl rfl (Nat.le_of_ble_eq_true rfl) d_K_thus_13 ⟨Nat.le_of_ble_eq_true rfl, Nat.le_of_ble_eq_true rfl⟩ ?_
  refine gw_aload_n C 0 d_K_thus_16 rfl rfl ?_
  refine gw_bipush (v := (46 : Int32)) C d_K_thus_17 (by decide) ?_
  obtain ⟨M19, hc19, hf⟩ := om_some hf
  refine gw_callVv (rest := []) C 0 wkg_0 clg_5 (c_K_put C.2.2.2.2.2.2.2.2.2.2 hc19) (cwV 1 C.2.2.2.2.1 (gTB_V tw_876 mv_K_put) rfl rfl rfl pd_K_put ⟨Nat.le_of_ble_eq_true rfl, Nat.le_of_ble_eq_true rfl⟩) rfl rfl (Nat.le_of_ble_eq_true rfl) d_K_thus_19 ⟨Nat.le_of_ble_eq_true rfl, Nat.le_of_ble_eq_true rfl⟩ ?_
  exact gw_vreti C d_K_thus_22 (wk ad cI cZ cC) hf
theorem c_K_thus (hZ : gw_ZOK Z) {x1 : Int32} {M : Mem} {M' : Mem} (hf : f_K_thus x1 M = some M') : CW l y_K_thus ws_K_thus rm_K_thus D vwCl (tysW cI cZ cC) Z [.ref (ad 0), .int x1] (wk ad cI cZ cC M) none (wk ad cI cZ cC M') 0 0 :=
  CW.ofG hZ (by decide) rfl (Nat.le_of_ble_eq_true rfl) (fun _ _ _ _ _ _ _ _ C _ => g_K_thus C hf)
end MODEL2
