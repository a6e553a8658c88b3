theorem tw_635 : Cond.methodLink "NoneWords$Search" 56 ⟨"NoneWords$Search", "canChoose", "([IIII)Z"⟩ ∈ TB := inTB 635 (by decide +kernel) (by decide +kernel)
theorem tw_638 : Cond.methodLink "NoneWords$Search" 88 ⟨"NoneWords$Search", "isStuck", "(III)Z"⟩ ∈ TB := inTB 638 (by decide +kernel) (by decide +kernel)
theorem tw_211 : Cond.fieldLink "NoneWords$Search" 17 "NoneWords$Search" "bars" "[I" ∈ TB := inTB 211 (by decide +kernel) (by decide +kernel)
theorem tw_209 : Cond.fieldLink "NoneWords$Search" 28 "NoneWords$Search" "facts" "LNoneWords$Facts;" ∈ TB := inTB 209 (by decide +kernel) (by decide +kernel)
theorem tw_632 : Cond.methodLink "NoneWords$Search" 80 ⟨"NoneWords$Facts", "nameOfTerm", "(II)I"⟩ ∈ TB := inTB 632 (by decide +kernel) (by decide +kernel)
theorem tw_634 : Cond.methodLink "NoneWords$Search" 85 ⟨"NoneWords$Facts", "optionsOfTerm", "(II)I"⟩ ∈ TB := inTB 634 (by decide +kernel) (by decide +kernel)
theorem tw_633 : Cond.constant "NoneWords$Search" 84 33554431 ∈ TB := inTB 633 (by decide +kernel) (by decide +kernel)
theorem tw_621 : Cond.methodLink "NoneWords$Search" 53 ⟨"NoneWords$Facts", "countNames", "()I"⟩ ∈ TB := inTB 621 (by decide +kernel) (by decide +kernel)
theorem tw_622 : Cond.methodLink "NoneWords$Search" 77 ⟨"NoneWords$Facts", "allVersions", "(I)I"⟩ ∈ TB := inTB 622 (by decide +kernel) (by decide +kernel)
theorem tw_210 : Cond.fieldLink "NoneWords$Search" 9 "NoneWords$Search" "leftOut" "[Z" ∈ TB := inTB 210 (by decide +kernel) (by decide +kernel)
theorem tw_623 : Cond.methodLink "NoneWords$Search" 42 ⟨"NoneWords$Facts", "countNodes", "()I"⟩ ∈ TB := inTB 623 (by decide +kernel) (by decide +kernel)
theorem tw_627 : Cond.methodLink "NoneWords$Search" 45 ⟨"NoneWords$Facts", "isLeaf", "(I)Z"⟩ ∈ TB := inTB 627 (by decide +kernel) (by decide +kernel)
theorem tw_628 : Cond.methodLink "NoneWords$Search" 49 ⟨"NoneWords$Search", "bar", "(I)I"⟩ ∈ TB := inTB 628 (by decide +kernel) (by decide +kernel)
theorem tw_616 : Cond.methodLink "NoneWords$Search" 32 ⟨"java/util/Arrays", "fill", "([II)V"⟩ ∈ TB := inTB 616 (by decide +kernel) (by decide +kernel)
theorem tw_617 : Cond.methodLink "NoneWords$Search" 38 ⟨"NoneWords$Search", "allOptions", "()I"⟩ ∈ TB := inTB 617 (by decide +kernel) (by decide +kernel)
theorem tw_649 : Cond.methodLink "NoneWords$Search" 60 ⟨"NoneWords$Search", "findsWorld", "()Z"⟩ ∈ TB := inTB 649 (by decide +kernel) (by decide +kernel)
theorem tw_213 : Cond.fieldLink "NoneWords$Search" 24 "NoneWords$Search" "stays" "I" ∈ TB := inTB 213 (by decide +kernel) (by decide +kernel)
theorem tw_212 : Cond.fieldLink "NoneWords$Search" 21 "NoneWords$Search" "stayed" "[I" ∈ TB := inTB 212 (by decide +kernel) (by decide +kernel)
theorem tw_650 : Cond.methodLink "NoneWords$Search" 64 ⟨"NoneWords$Facts", "kindOf", "(I)I"⟩ ∈ TB := inTB 650 (by decide +kernel) (by decide +kernel)
theorem tw_675 : Cond.methodLink "NoneWords$Search" 74 ⟨"NoneWords$Search", "findsWorldWithout", "(I)Z"⟩ ∈ TB := inTB 675 (by decide +kernel) (by decide +kernel)
theorem tw_655 : Cond.methodLink "NoneWords$Search" 71 ⟨"NoneWords$Search", "takeAllBack", "()V"⟩ ∈ TB := inTB 655 (by decide +kernel) (by decide +kernel)
theorem tw_651 : Cond.methodLink "NoneWords$Search" 67 ⟨"NoneWords$Search", "keep", "(I)V"⟩ ∈ TB := inTB 651 (by decide +kernel) (by decide +kernel)
section SEARCH
variable {p : Program} {l : Launch} {e : Env} {s : State} {m : MethodId} {args : Array Value} {below : List Frame} {meth : Method} {c : Code} {D : va_G} {A : Nat → Prop} {Z : gw_Z} {ad : Nat → Nat} {cI cZ cC : ClassId}
abbrev b_S_isStuck : ByteArray := prog_3_method_12_code
def y_S_isStuck : MethodName := ⟨"NoneWords$Search", "isStuck", "(III)Z"⟩
abbrev ws_S_isStuck : List Cond := Cond.code y_S_isStuck b_S_isStuck 4 (some (FieldType.boolean)) :: TB
set_option maxRecDepth 100000 in
theorem tc_S_isStuck : Cond.code y_S_isStuck b_S_isStuck 4 (some (FieldType.boolean)) ∈ TB := inTB 640 rfl rfl
theorem mv_S_isStuck : Cond.static y_S_isStuck ∈ TB ∧ Cond.initialized "NoneWords$Search" ∈ TB ∧ Cond.code y_S_isStuck b_S_isStuck 4 (some (FieldType.boolean)) ∈ TB := ⟨inTB 639 (by decide +kernel) (by decide +kernel), inTB 70 (by decide +kernel) (by decide +kernel), tc_S_isStuck⟩
theorem pd_S_isStuck : y_S_isStuck.cls = "NoneWords$Search" ∧ y_S_isStuck.cls ≠ "java/lang/invoke/MethodHandle" ∧ y_S_isStuck.cls ≠ "java/lang/invoke/VarHandle" ∧ (parseMethodDescriptor y_S_isStuck.desc).map (fun d => d.parameters.length) = some 3 := by decide +kernel
theorem d_S_isStuck_0 : decode b_S_isStuck 0 = .ok (.iload_n 1, 1) := by decide +kernel
theorem d_S_isStuck_1 : decode b_S_isStuck 1 = .ok (.istore_n 3, 1) := by decide +kernel
theorem d_S_isStuck_2 : decode b_S_isStuck 2 = .ok (.iload_n 3, 1) := by decide +kernel
theorem d_S_isStuck_3 : decode b_S_isStuck 3 = .ok (.iload_n 0, 1) := by decide +kernel
theorem d_S_isStuck_4 : decode b_S_isStuck 4 = .ok (.if_icmp .ge 22, 3) := by decide +kernel
theorem d_S_isStuck_7 : decode b_S_isStuck 7 = .ok (.iload_n 2, 1) := by decide +kernel
theorem d_S_isStuck_8 : decode b_S_isStuck 8 = .ok (.iconst 5, 1) := by decide +kernel
theorem d_S_isStuck_9 : decode b_S_isStuck 9 = .ok (.iload_n 3, 1) := by decide +kernel
theorem d_S_isStuck_10 : decode b_S_isStuck 10 = .ok (.imul, 1) := by decide +kernel
theorem d_S_isStuck_11 : decode b_S_isStuck 11 = .ok (.ishr, 1) := by decide +kernel
theorem d_S_isStuck_12 : decode b_S_isStuck 12 = .ok (.bipush 31, 2) := by decide +kernel
theorem d_S_isStuck_14 : decode b_S_isStuck 14 = .ok (.iand, 1) := by decide +kernel
theorem d_S_isStuck_15 : decode b_S_isStuck 15 = .ok (.ifCond .ne 5, 3) := by decide +kernel
theorem d_S_isStuck_18 : decode b_S_isStuck 18 = .ok (.iconst 1, 1) := by decide +kernel
theorem d_S_isStuck_19 : decode b_S_isStuck 19 = .ok (.ireturn, 1) := by decide +kernel
theorem d_S_isStuck_20 : decode b_S_isStuck 20 = .ok (.iinc 3 1, 3) := by decide +kernel
theorem d_S_isStuck_23 : decode b_S_isStuck 23 = .ok (.goto (-21), 3) := by decide +kernel
theorem d_S_isStuck_26 : decode b_S_isStuck 26 = .ok (.iconst 0, 1) := by decide +kernel
theorem d_S_isStuck_27 : decode b_S_isStuck 27 = .ok (.ireturn, 1) := by decide +kernel
abbrev rm_S_isStuck : Room := { frames := 0, cells := 0, slots := 0, locals := 0 }
def f_S_isStuck_2 : Nat → Int32 → Int32 → Int32 → Mem → Option (Int32 × Mem)
  | 0, _, _, _, _ => none
  | n + 1, x0, x2, x3, M => if x0 ≤ x3 then some ((0 : Int32), M) else if ((x2 >>> (((5 : Int32) * x3) &&& 31)) &&& (31 : Int32)) = 0 then some ((1 : Int32), M) else (f_S_isStuck_2 n) x0 x2 (x3 + (1 : Int32)) M
set_option maxRecDepth 100000 in
theorem g_S_isStuck_2 {r : Int32} {M' : Mem} (C : GC p s m args meth c b_S_isStuck 4 (some (FieldType.boolean)) "NoneWords$Search" TB D vwCl (tysW cI cZ cC) A Z) : ∀ (n : Nat) (x0 : Int32) (x2 : Int32) (x3 : Int32) (M : Mem), f_S_isStuck_2 n x0 x2 x3 M = some (r, M') → GW p l e rm_S_isStuck s m args below meth c (MQ below (QW D vwCl (tysW cI cZ cC) A (some (.int r)) (wc ad cI cZ cC M')) args s 0 0 A) D vwCl A 4 0 0 (wc ad cI cZ cC M) 2 [(0, .int x0), (2, .int x2), (3, .int x3)] [] := by
  intro n
  induction n with
  | zero => intro _ _ _ _ hf; cases hf
  | succ n ih =>
    intro x0 x2 x3 M hf
    rw [f_S_isStuck_2] at hf
    refine gw_iload_n C 2 d_S_isStuck_2 rfl rfl ?_
    refine gw_iload_n C 0 d_S_isStuck_3 rfl rfl ?_
    refine gw_icmp_ge (tgt := 26) C d_S_isStuck_4 (by decide) (fun c => ?_) (fun c => ?_)
    · have hf := (if_pos c).symm.trans hf
      refine gw_iconst (v := (0 : Int32)) C d_S_isStuck_26 (by decide) ?_
      exact gw_zreti C d_S_isStuck_27 (wc ad cI cZ cC) (by decide) hf
    · have hf := (if_neg c).symm.trans hf
      refine gw_iload_n C 1 d_S_isStuck_7 rfl rfl ?_
      refine gw_iconst (v := (5 : Int32)) C d_S_isStuck_8 (by decide) ?_
      refine gw_iload_n C 2 d_S_isStuck_9 rfl rfl ?_
      refine gw_imul C d_S_isStuck_10 ?_
      refine gw_ishr C d_S_isStuck_11 ?_
      refine gw_bipush (v := (31 : Int32)) C d_S_isStuck_12 (by decide) ?_
      refine gw_iand C d_S_isStuck_14 ?_
      refine gw_if_ne (tgt := 20) C d_S_isStuck_15 (by decide) (fun c => ?_) (fun c => ?_)
      · have hf := (if_neg c).symm.trans hf
        refine gw_iinc (v := x3 + (1 : Int32)) (lv' := [(3, .int (x3 + (1 : Int32))), (0, .int x0), (2, .int x2)]) C 2 d_S_isStuck_20 rfl rfl (by decide) rfl ?_
        refine gw_goto (tgt := 2) C d_S_isStuck_23 (by decide) ?_
        exact gw_sub [1, 2, 0] rfl (ih _ _ _ _ hf)
      · have hf := (if_pos c).symm.trans hf
        refine gw_iconst (v := (1 : Int32)) C d_S_isStuck_18 (by decide) ?_
        exact gw_zreti C d_S_isStuck_19 (wc ad cI cZ cC) (by decide) hf
def f_S_isStuck (x0 : Int32) (x1 : Int32) (x2 : Int32) (M : Mem) : Option (Int32 × Mem) :=
  f_S_isStuck_2 100000 x0 x2 x1 M
set_option maxRecDepth 100000 in
theorem g_S_isStuck {r : Int32} {M' : Mem} (C : GC p s m args meth c b_S_isStuck 4 (some (FieldType.boolean)) "NoneWords$Search" TB D vwCl (tysW cI cZ cC) A Z) {x0 : Int32} {x1 : Int32} {x2 : Int32} {M : Mem} (hf : f_S_isStuck x0 x1 x2 M = some (r, M')) : GW p l e rm_S_isStuck s m args below meth c (MQ below (QW D vwCl (tysW cI cZ cC) A (some (.int r)) (wc ad cI cZ cC M')) args s 0 0 A) D vwCl A 4 0 0 (wc ad cI cZ cC M) 0 [(0, .int x0), (1, .int x1), (2, .int x2)] [] := by
  unfold f_S_isStuck at hf
  refine gw_iload_n C 1 d_S_isStuck_0 rfl rfl ?_
  refine gw_istore_n (lv' := [(3, .int x1), (0, .int x0), (1, .int x1), (2, .int x2)]) C d_S_isStuck_1 rfl (by decide) rfl ?_
  exact gw_sub [1, 3, 0] rfl (g_S_isStuck_2 C _ _ _ _ _ hf)
theorem c_S_isStuck (hZ : gw_ZOK Z) {x0 : Int32} {x1 : Int32} {x2 : Int32} {M : Mem} {r : Int32} {M' : Mem} (hf : f_S_isStuck x0 x1 x2 M = some (r, M')) : CW l y_S_isStuck ws_S_isStuck rm_S_isStuck D vwCl (tysW cI cZ cC) Z [.int x0, .int x1, .int x2] (wc ad cI cZ cC M) (some (.int r)) (wc ad cI cZ cC M') 0 0 :=
  CW.ofG hZ (by decide) rfl (Nat.le_of_ble_eq_true rfl) (fun _ _ _ _ _ _ _ _ C _ => g_S_isStuck C hf)
abbrev b_S_canChoose : ByteArray := prog_3_method_11_code
def y_S_canChoose : MethodName := ⟨"NoneWords$Search", "canChoose", "([IIII)Z"⟩
abbrev ws_S_canChoose : List Cond := Cond.code y_S_canChoose b_S_canChoose 7 (some (FieldType.boolean)) :: TB
set_option maxRecDepth 100000 in
theorem tc_S_canChoose : Cond.code y_S_canChoose b_S_canChoose 7 (some (FieldType.boolean)) ∈ TB := inTB 637 rfl rfl
theorem mv_S_canChoose : Cond.static y_S_canChoose ∈ TB ∧ Cond.initialized "NoneWords$Search" ∈ TB ∧ Cond.code y_S_canChoose b_S_canChoose 7 (some (FieldType.boolean)) ∈ TB := ⟨inTB 636 (by decide +kernel) (by decide +kernel), inTB 70 (by decide +kernel) (by decide +kernel), tc_S_canChoose⟩
theorem pd_S_canChoose : y_S_canChoose.cls = "NoneWords$Search" ∧ y_S_canChoose.cls ≠ "java/lang/invoke/MethodHandle" ∧ y_S_canChoose.cls ≠ "java/lang/invoke/VarHandle" ∧ (parseMethodDescriptor y_S_canChoose.desc).map (fun d => d.parameters.length) = some 4 := by decide +kernel
theorem d_S_canChoose_0 : decode b_S_canChoose 0 = .ok (.iload_n 2, 1) := by decide +kernel
theorem d_S_canChoose_1 : decode b_S_canChoose 1 = .ok (.iload_n 1, 1) := by decide +kernel
theorem d_S_canChoose_2 : decode b_S_canChoose 2 = .ok (.if_icmp .ge 8, 3) := by decide +kernel
theorem d_S_canChoose_5 : decode b_S_canChoose 5 = .ok (.iload_n 2, 1) := by decide +kernel
theorem d_S_canChoose_6 : decode b_S_canChoose 6 = .ok (.iconst 5, 1) := by decide +kernel
theorem d_S_canChoose_7 : decode b_S_canChoose 7 = .ok (.if_icmp .lt 5, 3) := by decide +kernel
theorem d_S_canChoose_10 : decode b_S_canChoose 10 = .ok (.iconst 1, 1) := by decide +kernel
theorem d_S_canChoose_11 : decode b_S_canChoose 11 = .ok (.ireturn, 1) := by decide +kernel
theorem d_S_canChoose_12 : decode b_S_canChoose 12 = .ok (.iload_n 1, 1) := by decide +kernel
theorem d_S_canChoose_13 : decode b_S_canChoose 13 = .ok (.iload_n 2, 1) := by decide +kernel
theorem d_S_canChoose_14 : decode b_S_canChoose 14 = .ok (.iload_n 3, 1) := by decide +kernel
theorem d_S_canChoose_15 : decode b_S_canChoose 15 = .ok (.invokestatic 88, 3) := by decide +kernel
theorem d_S_canChoose_18 : decode b_S_canChoose 18 = .ok (.ifCond .eq 5, 3) := by decide +kernel
theorem d_S_canChoose_21 : decode b_S_canChoose 21 = .ok (.iconst 0, 1) := by decide +kernel
theorem d_S_canChoose_22 : decode b_S_canChoose 22 = .ok (.ireturn, 1) := by decide +kernel
theorem d_S_canChoose_23 : decode b_S_canChoose 23 = .ok (.iconst 0, 1) := by decide +kernel
theorem d_S_canChoose_24 : decode b_S_canChoose 24 = .ok (.istore 4, 2) := by decide +kernel
theorem d_S_canChoose_26 : decode b_S_canChoose 26 = .ok (.iload 4, 2) := by decide +kernel
theorem d_S_canChoose_28 : decode b_S_canChoose 28 = .ok (.iconst 5, 1) := by decide +kernel
theorem d_S_canChoose_29 : decode b_S_canChoose 29 = .ok (.if_icmp .ge 60, 3) := by decide +kernel
theorem d_S_canChoose_32 : decode b_S_canChoose 32 = .ok (.iconst 5, 1) := by decide +kernel
theorem d_S_canChoose_33 : decode b_S_canChoose 33 = .ok (.iload_n 2, 1) := by decide +kernel
theorem d_S_canChoose_34 : decode b_S_canChoose 34 = .ok (.imul, 1) := by decide +kernel
theorem d_S_canChoose_35 : decode b_S_canChoose 35 = .ok (.iload 4, 2) := by decide +kernel
theorem d_S_canChoose_37 : decode b_S_canChoose 37 = .ok (.iadd, 1) := by decide +kernel
theorem d_S_canChoose_38 : decode b_S_canChoose 38 = .ok (.istore 5, 2) := by decide +kernel
theorem d_S_canChoose_40 : decode b_S_canChoose 40 = .ok (.iload_n 3, 1) := by decide +kernel
theorem d_S_canChoose_41 : decode b_S_canChoose 41 = .ok (.iload 5, 2) := by decide +kernel
theorem d_S_canChoose_43 : decode b_S_canChoose 43 = .ok (.ishr, 1) := by decide +kernel
theorem d_S_canChoose_44 : decode b_S_canChoose 44 = .ok (.iconst 1, 1) := by decide +kernel
theorem d_S_canChoose_45 : decode b_S_canChoose 45 = .ok (.iand, 1) := by decide +kernel
theorem d_S_canChoose_46 : decode b_S_canChoose 46 = .ok (.iconst 1, 1) := by decide +kernel
theorem d_S_canChoose_47 : decode b_S_canChoose 47 = .ok (.if_icmp .ne 7, 3) := by decide +kernel
theorem d_S_canChoose_50 : decode b_S_canChoose 50 = .ok (.iconst 1, 1) := by decide +kernel
theorem d_S_canChoose_51 : decode b_S_canChoose 51 = .ok (.goto 4, 3) := by decide +kernel
theorem d_S_canChoose_54 : decode b_S_canChoose 54 = .ok (.iconst 0, 1) := by decide +kernel
theorem d_S_canChoose_55 : decode b_S_canChoose 55 = .ok (.istore 6, 2) := by decide +kernel
theorem d_S_canChoose_57 : decode b_S_canChoose 57 = .ok (.iload 6, 2) := by decide +kernel
theorem d_S_canChoose_59 : decode b_S_canChoose 59 = .ok (.ifCond .eq 24, 3) := by decide +kernel
theorem d_S_canChoose_62 : decode b_S_canChoose 62 = .ok (.aload_n 0, 1) := by decide +kernel
theorem d_S_canChoose_63 : decode b_S_canChoose 63 = .ok (.iload_n 1, 1) := by decide +kernel
theorem d_S_canChoose_64 : decode b_S_canChoose 64 = .ok (.iload_n 2, 1) := by decide +kernel
theorem d_S_canChoose_65 : decode b_S_canChoose 65 = .ok (.iconst 1, 1) := by decide +kernel
theorem d_S_canChoose_66 : decode b_S_canChoose 66 = .ok (.iadd, 1) := by decide +kernel
theorem d_S_canChoose_67 : decode b_S_canChoose 67 = .ok (.iload_n 3, 1) := by decide +kernel
theorem d_S_canChoose_68 : decode b_S_canChoose 68 = .ok (.aload_n 0, 1) := by decide +kernel
theorem d_S_canChoose_69 : decode b_S_canChoose 69 = .ok (.iload 5, 2) := by decide +kernel
theorem d_S_canChoose_71 : decode b_S_canChoose 71 = .ok (.iaload, 1) := by decide +kernel
theorem d_S_canChoose_72 : decode b_S_canChoose 72 = .ok (.iconst (-1), 1) := by decide +kernel
theorem d_S_canChoose_73 : decode b_S_canChoose 73 = .ok (.ixor, 1) := by decide +kernel
theorem d_S_canChoose_74 : decode b_S_canChoose 74 = .ok (.iand, 1) := by decide +kernel
theorem d_S_canChoose_75 : decode b_S_canChoose 75 = .ok (.invokestatic 56, 3) := by decide +kernel
theorem d_S_canChoose_78 : decode b_S_canChoose 78 = .ok (.ifCond .eq 5, 3) := by decide +kernel
theorem d_S_canChoose_81 : decode b_S_canChoose 81 = .ok (.iconst 1, 1) := by decide +kernel
theorem d_S_canChoose_82 : decode b_S_canChoose 82 = .ok (.ireturn, 1) := by decide +kernel
theorem d_S_canChoose_83 : decode b_S_canChoose 83 = .ok (.iinc 4 1, 3) := by decide +kernel
theorem d_S_canChoose_86 : decode b_S_canChoose 86 = .ok (.goto (-60), 3) := by decide +kernel
theorem d_S_canChoose_89 : decode b_S_canChoose 89 = .ok (.iconst 0, 1) := by decide +kernel
theorem d_S_canChoose_90 : decode b_S_canChoose 90 = .ok (.ireturn, 1) := by decide +kernel
def rm_S_canChoose (dd : Nat) : Room := { frames := dd + 1, cells := 0, slots := 0, locals := 26 * (dd + 1) }
def f_S_canChoose_55 (self : Int32 → Int32 → Int32 → Mem → Option (Int32 × Mem)) (k26 : Int32 → Int32 → Int32 → Int32 → Mem → Option (Int32 × Mem)) (x1 : Int32) (x2 : Int32) (x3 : Int32) (x4 : Int32) (x5 : Int32) (y0 : Int32) (M : Mem) : Option (Int32 × Mem) :=
  if y0 = 0 then k26 x1 x2 x3 (x4 + (1 : Int32)) M else gd (inb x5 25) (ob (self x1 (x2 + (1 : Int32)) (x3 &&& ((M 27 x5.toNatClampNeg) ^^^ (-1 : Int32))) M) fun r75 M75 => if r75 = 0 then k26 x1 x2 x3 (x4 + (1 : Int32)) M75 else some ((1 : Int32), M75))
set_option maxRecDepth 100000 in
theorem g_S_canChoose_55 {r : Int32} {M' : Mem} (C : GC p s m args meth c b_S_canChoose 7 (some (FieldType.boolean)) "NoneWords$Search" TB D vwCl (tysW cI cZ cC) A Z) {self : Int32 → Int32 → Int32 → Mem → Option (Int32 × Mem)} {dd : Nat} (hself : ∀ (x1 : Int32) (x2 : Int32) (x3 : Int32) (M : Mem) (r : Int32) (M' : Mem), self x1 x2 x3 M = some (r, M') → CW l y_S_canChoose ws_S_canChoose (rm_S_canChoose dd) D vwCl (tysW cI cZ cC) Z [.ref (ad 27), .int x1, .int x2, .int x3] (wc ad cI cZ cC M) (some (.int r)) (wc ad cI cZ cC M') 0 0) {k26 : Int32 → Int32 → Int32 → Int32 → Mem → Option (Int32 × Mem)} (hk26 : ∀ (x1 : Int32) (x2 : Int32) (x3 : Int32) (x4 : Int32) (M : Mem), k26 x1 x2 x3 x4 M = some (r, M') → GW p l e (rm_S_canChoose (dd + 1)) s m args below meth c (MQ below (QW D vwCl (tysW cI cZ cC) A (some (.int r)) (wc ad cI cZ cC M')) args s 0 0 A) D vwCl A 7 0 0 (wc ad cI cZ cC M) 26 [(0, .ref (ad 27)), (1, .int x1), (2, .int x2), (3, .int x3), (4, .int x4)] []) {x1 : Int32} {x2 : Int32} {x3 : Int32} {x4 : Int32} {x5 : Int32} {y0 : Int32} {M : Mem} (hf : f_S_canChoose_55 self k26 x1 x2 x3 x4 x5 y0 M = some (r, M')) : GW p l e (rm_S_canChoose (dd + 1)) s m args below meth c (MQ below (QW D vwCl (tysW cI cZ cC) A (some (.int r)) (wc ad cI cZ cC M')) args s 0 0 A) D vwCl A 7 0 0 (wc ad cI cZ cC M) 55 [(0, .ref (ad 27)), (1, .int x1), (2, .int x2), (3, .int x3), (4, .int x4), (5, .int x5)] [.int y0] := by
  unfold f_S_canChoose_55 at hf
  refine gw_istore (lv' := [(6, .int y0), (0, .ref (ad 27)), (1, .int x1), (2, .int x2), (3, .int x3), (4, .int x4), (5, .int x5)]) C d_S_canChoose_55 (by decide) rfl ?_
  refine gw_iload C 0 d_S_canChoose_57 rfl ?_
  refine gw_if_eq (tgt := 83) C d_S_canChoose_59 (by decide) (fun c => ?_) (fun c => ?_)
  · have hf := (if_pos c).symm.trans hf
    refine gw_iinc (v := x4 + (1 : Int32)) (lv' := [(4, .int (x4 + (1 : Int32))), (6, .int y0), (0, .ref (ad 27)), (1, .int x1), (2, .int x2), (3, .int x3), (5, .int x5)]) C 5 d_S_canChoose_83 rfl rfl (by decide) rfl ?_
    refine gw_goto (tgt := 26) C d_S_canChoose_86 (by decide) ?_
    exact gw_sub [2, 3, 4, 5, 0] rfl (hk26 _ _ _ _ _ hf)
  · have hf := (if_neg c).symm.trans hf
    refine gw_aload_n C 1 d_S_canChoose_62 rfl rfl ?_
    refine gw_iload_n C 2 d_S_canChoose_63 rfl rfl ?_
    refine gw_iload_n C 3 d_S_canChoose_64 rfl rfl ?_
    refine gw_iconst (v := (1 : Int32)) C d_S_canChoose_65 (by decide) ?_
    refine gw_iadd C d_S_canChoose_66 ?_
    refine gw_iload_n C 4 d_S_canChoose_67 rfl rfl ?_
    refine gw_aload_n C 1 d_S_canChoose_68 rfl rfl ?_
    refine gw_iload C 6 d_S_canChoose_69 rfl ?_
    obtain ⟨hb71, hf⟩ := gd_some hf
    refine gw_iald C 27 0 wcg_27 rfl hb71 d_S_canChoose_71 ?_
    refine gw_iconst (v := (-1 : Int32)) C d_S_canChoose_72 (by decide) ?_
    refine gw_ixor C d_S_canChoose_73 ?_
    refine gw_iand C d_S_canChoose_74 ?_
    obtain ⟨r75, M75, hc75, hf⟩ := ob_some hf
    refine gw_callSr (rest := []) C (hself _ _ _ _ _ _ hc75) (cwS 4 C.2.2.2.2.1 (gTB_S tw_635 mv_S_canChoose) rfl rfl rfl pd_S_canChoose ⟨by simp only [rm_S_canChoose, rm_S_canChoose]; omega, by simp only [rm_S_canChoose, rm_S_canChoose]; omega⟩) rfl rfl (Nat.le_of_ble_eq_true rfl) d_S_canChoose_75 ⟨Nat.zero_le _, Nat.zero_le _⟩ ?_
    refine gw_if_eq (tgt := 83) C d_S_canChoose_78 (by decide) (fun c => ?_) (fun c => ?_)
    · have hf := (if_pos c).symm.trans hf
      refine gw_iinc (v := x4 + (1 : Int32)) (lv' := [(4, .int (x4 + (1 : Int32))), (6, .int y0), (0, .ref (ad 27)), (1, .int x1), (2, .int x2), (3, .int x3), (5, .int x5)]) C 5 d_S_canChoose_83 rfl rfl (by decide) rfl ?_
      refine gw_goto (tgt := 26) C d_S_canChoose_86 (by decide) ?_
      exact gw_sub [2, 3, 4, 5, 0] rfl (hk26 _ _ _ _ _ hf)
    · have hf := (if_neg c).symm.trans hf
      refine gw_iconst (v := (1 : Int32)) C d_S_canChoose_81 (by decide) ?_
      exact gw_zreti C d_S_canChoose_82 (wc ad cI cZ cC) (by decide) hf
def f_S_canChoose_26 (self : Int32 → Int32 → Int32 → Mem → Option (Int32 × Mem)) : Nat → Int32 → Int32 → Int32 → Int32 → Mem → Option (Int32 × Mem)
  | 0, _, _, _, _, _ => none
  | n + 1, x1, x2, x3, x4, M => if (5 : Int32) ≤ x4 then some ((0 : Int32), M) else if ((x3 >>> ((((5 : Int32) * x2) + x4) &&& 31)) &&& (1 : Int32)) = (1 : Int32) then f_S_canChoose_55 self (f_S_canChoose_26 self n) x1 x2 x3 x4 (((5 : Int32) * x2) + x4) (1 : Int32) M else f_S_canChoose_55 self (f_S_canChoose_26 self n) x1 x2 x3 x4 (((5 : Int32) * x2) + x4) (0 : Int32) M
set_option maxRecDepth 100000 in
theorem g_S_canChoose_26 {r : Int32} {M' : Mem} (C : GC p s m args meth c b_S_canChoose 7 (some (FieldType.boolean)) "NoneWords$Search" TB D vwCl (tysW cI cZ cC) A Z) {self : Int32 → Int32 → Int32 → Mem → Option (Int32 × Mem)} {dd : Nat} (hself : ∀ (x1 : Int32) (x2 : Int32) (x3 : Int32) (M : Mem) (r : Int32) (M' : Mem), self x1 x2 x3 M = some (r, M') → CW l y_S_canChoose ws_S_canChoose (rm_S_canChoose dd) D vwCl (tysW cI cZ cC) Z [.ref (ad 27), .int x1, .int x2, .int x3] (wc ad cI cZ cC M) (some (.int r)) (wc ad cI cZ cC M') 0 0) : ∀ (n : Nat) (x1 : Int32) (x2 : Int32) (x3 : Int32) (x4 : Int32) (M : Mem), f_S_canChoose_26 self n x1 x2 x3 x4 M = some (r, M') → GW p l e (rm_S_canChoose (dd + 1)) s m args below meth c (MQ below (QW D vwCl (tysW cI cZ cC) A (some (.int r)) (wc ad cI cZ cC M')) args s 0 0 A) D vwCl A 7 0 0 (wc ad cI cZ cC M) 26 [(0, .ref (ad 27)), (1, .int x1), (2, .int x2), (3, .int x3), (4, .int x4)] [] := by
  intro n
  induction n with
  | zero => intro _ _ _ _ _ hf; cases hf
  | succ n ih =>
    intro x1 x2 x3 x4 M hf
    rw [f_S_canChoose_26] at hf
    refine gw_iload C 4 d_S_canChoose_26 rfl ?_
    refine gw_iconst (v := (5 : Int32)) C d_S_canChoose_28 (by decide) ?_
    refine gw_icmp_ge (tgt := 89) C d_S_canChoose_29 (by decide) (fun c => ?_) (fun c => ?_)
    · have hf := (if_pos c).symm.trans hf
      refine gw_iconst (v := (0 : Int32)) C d_S_canChoose_89 (by decide) ?_
      exact gw_zreti C d_S_canChoose_90 (wc ad cI cZ cC) (by decide) hf
    · have hf := (if_neg c).symm.trans hf
      refine gw_iconst (v := (5 : Int32)) C d_S_canChoose_32 (by decide) ?_
      refine gw_iload_n C 2 d_S_canChoose_33 rfl rfl ?_
      refine gw_imul C d_S_canChoose_34 ?_
      refine gw_iload C 4 d_S_canChoose_35 rfl ?_
      refine gw_iadd C d_S_canChoose_37 ?_
      refine gw_istore (lv' := [(5, .int (((5 : Int32) * x2) + x4)), (0, .ref (ad 27)), (1, .int x1), (2, .int x2), (3, .int x3), (4, .int x4)]) C d_S_canChoose_38 (by decide) rfl ?_
      refine gw_iload_n C 4 d_S_canChoose_40 rfl rfl ?_
      refine gw_iload C 0 d_S_canChoose_41 rfl ?_
      refine gw_ishr C d_S_canChoose_43 ?_
      refine gw_iconst (v := (1 : Int32)) C d_S_canChoose_44 (by decide) ?_
      refine gw_iand C d_S_canChoose_45 ?_
      refine gw_iconst (v := (1 : Int32)) C d_S_canChoose_46 (by decide) ?_
      refine gw_icmp_ne (tgt := 54) C d_S_canChoose_47 (by decide) (fun c => ?_) (fun c => ?_)
      · have hf := (if_neg c).symm.trans hf
        refine gw_iconst (v := (0 : Int32)) C d_S_canChoose_54 (by decide) ?_
        exact gw_sub [1, 2, 3, 4, 5, 0] rfl (g_S_canChoose_55 C hself ih hf)
      · have hf := (if_pos c).symm.trans hf
        refine gw_iconst (v := (1 : Int32)) C d_S_canChoose_50 (by decide) ?_
        refine gw_goto (tgt := 55) C d_S_canChoose_51 (by decide) ?_
        exact gw_sub [1, 2, 3, 4, 5, 0] rfl (g_S_canChoose_55 C hself ih hf)
def f_S_canChoose_e (self : Int32 → Int32 → Int32 → Mem → Option (Int32 × Mem)) (x1 : Int32) (x2 : Int32) (x3 : Int32) (M : Mem) : Option (Int32 × Mem) :=
  if x1 ≤ x2 then some ((1 : Int32), M) else if x2 < (5 : Int32) then ob (f_S_isStuck x1 x2 x3 M) fun r15 M15 => if r15 = 0 then f_S_canChoose_26 self 100000 x1 x2 x3 (0 : Int32) M15 else some ((0 : Int32), M15) else some ((1 : Int32), M)
set_option maxRecDepth 100000 in
theorem g_S_canChoose_e {r : Int32} {M' : Mem} (C : GC p s m args meth c b_S_canChoose 7 (some (FieldType.boolean)) "NoneWords$Search" TB D vwCl (tysW cI cZ cC) A Z) {self : Int32 → Int32 → Int32 → Mem → Option (Int32 × Mem)} {dd : Nat} (hself : ∀ (x1 : Int32) (x2 : Int32) (x3 : Int32) (M : Mem) (r : Int32) (M' : Mem), self x1 x2 x3 M = some (r, M') → CW l y_S_canChoose ws_S_canChoose (rm_S_canChoose dd) D vwCl (tysW cI cZ cC) Z [.ref (ad 27), .int x1, .int x2, .int x3] (wc ad cI cZ cC M) (some (.int r)) (wc ad cI cZ cC M') 0 0) {x1 : Int32} {x2 : Int32} {x3 : Int32} {M : Mem} (hf : f_S_canChoose_e self x1 x2 x3 M = some (r, M')) : GW p l e (rm_S_canChoose (dd + 1)) s m args below meth c (MQ below (QW D vwCl (tysW cI cZ cC) A (some (.int r)) (wc ad cI cZ cC M')) args s 0 0 A) D vwCl A 7 0 0 (wc ad cI cZ cC M) 0 [(0, .ref (ad 27)), (1, .int x1), (2, .int x2), (3, .int x3)] [] := by
  unfold f_S_canChoose_e at hf
  refine gw_iload_n C 2 d_S_canChoose_0 rfl rfl ?_
  refine gw_iload_n C 1 d_S_canChoose_1 rfl rfl ?_
  refine gw_icmp_ge (tgt := 10) C d_S_canChoose_2 (by decide) (fun c => ?_) (fun c => ?_)
  · have hf := (if_pos c).symm.trans hf
    refine gw_iconst (v := (1 : Int32)) C d_S_canChoose_10 (by decide) ?_
    exact gw_zreti C d_S_canChoose_11 (wc ad cI cZ cC) (by decide) hf
  · have hf := (if_neg c).symm.trans hf
    refine gw_iload_n C 2 d_S_canChoose_5 rfl rfl ?_
    refine gw_iconst (v := (5 : Int32)) C d_S_canChoose_6 (by decide) ?_
    refine gw_icmp_lt (tgt := 12) C d_S_canChoose_7 (by decide) (fun c => ?_) (fun c => ?_)
    · have hf := (if_pos c).symm.trans hf
      refine gw_iload_n C 1 d_S_canChoose_12 rfl rfl ?_
      refine gw_iload_n C 2 d_S_canChoose_13 rfl rfl ?_
      refine gw_iload_n C 3 d_S_canChoose_14 rfl rfl ?_
      obtain ⟨r15, M15, hc15, hf⟩ := ob_some hf
      refine gw_callSr (rest := []) C (c_S_isStuck C.2.2.2.2.2.2.2.2.2.2 hc15) (cwS 3 C.2.2.2.2.1 (gTB_S tw_638 mv_S_isStuck) rfl rfl rfl pd_S_isStuck ⟨by simp only [rm_S_canChoose, rm_S_isStuck]; omega, by simp only [rm_S_canChoose, rm_S_isStuck]; omega⟩) rfl rfl (Nat.le_of_ble_eq_true rfl) d_S_canChoose_15 ⟨Nat.zero_le _, Nat.zero_le _⟩ ?_
      refine gw_if_eq (tgt := 23) C d_S_canChoose_18 (by decide) (fun c => ?_) (fun c => ?_)
      · have hf := (if_pos c).symm.trans hf
        refine gw_iconst (v := (0 : Int32)) C d_S_canChoose_23 (by decide) ?_
        refine gw_istore (lv' := [(4, .int (0 : Int32)), (0, .ref (ad 27)), (1, .int x1), (2, .int x2), (3, .int x3)]) C d_S_canChoose_24 (by decide) rfl ?_
        exact gw_sub [1, 2, 3, 4, 0] rfl (g_S_canChoose_26 C hself _ _ _ _ _ _ hf)
      · have hf := (if_neg c).symm.trans hf
        refine gw_iconst (v := (0 : Int32)) C d_S_canChoose_21 (by decide) ?_
        exact gw_zreti C d_S_canChoose_22 (wc ad cI cZ cC) (by decide) hf
    · have hf := (if_neg c).symm.trans hf
      refine gw_iconst (v := (1 : Int32)) C d_S_canChoose_10 (by decide) ?_
      exact gw_zreti C d_S_canChoose_11 (wc ad cI cZ cC) (by decide) hf
def f_S_canChoose : Nat → Int32 → Int32 → Int32 → Mem → Option (Int32 × Mem)
  | 0, _, _, _, _ => none
  | dd + 1, x1, x2, x3, M => f_S_canChoose_e (f_S_canChoose dd) x1 x2 x3 M
theorem c_S_canChoose (hZ : gw_ZOK Z) : ∀ (dd : Nat) (x1 : Int32) (x2 : Int32) (x3 : Int32) (M : Mem) (r : Int32) (M' : Mem), f_S_canChoose dd x1 x2 x3 M = some (r, M') → CW l y_S_canChoose ws_S_canChoose (rm_S_canChoose dd) D vwCl (tysW cI cZ cC) Z [.ref (ad 27), .int x1, .int x2, .int x3] (wc ad cI cZ cC M) (some (.int r)) (wc ad cI cZ cC M') 0 0 := by
  intro dd
  induction dd with
  | zero => intro _ _ _ _ _ _ h; cases h
  | succ dd ih =>
    intro x1 x2 x3 M r M' hf
    exact CW.ofG hZ (by decide) rfl (Nat.le_of_ble_eq_true rfl) (fun _ _ _ _ _ _ _ _ C _ => g_S_canChoose_e C ih hf)
abbrev b_S_bar : ByteArray := prog_3_method_10_code
def y_S_bar : MethodName := ⟨"NoneWords$Search", "bar", "(I)I"⟩
abbrev ws_S_bar : List Cond := Cond.code y_S_bar b_S_bar 7 (some (FieldType.int)) :: TB
set_option maxRecDepth 100000 in
theorem tc_S_bar : Cond.code y_S_bar b_S_bar 7 (some (FieldType.int)) ∈ TB := inTB 631 rfl rfl
theorem mv_S_bar : Cond.instanceMethod y_S_bar ∈ TB ∧ Cond.selects "NoneWords$Search" y_S_bar y_S_bar ∈ TB ∧ Cond.initialized "NoneWords$Search" ∈ TB ∧ Cond.code y_S_bar b_S_bar 7 (some (FieldType.int)) ∈ TB := ⟨inTB 630 (by decide +kernel) (by decide +kernel), inTB 22 (by decide +kernel) (by decide +kernel), inTB 70 (by decide +kernel) (by decide +kernel), tc_S_bar⟩
theorem pd_S_bar : y_S_bar.cls = "NoneWords$Search" ∧ y_S_bar.cls ≠ "java/lang/invoke/MethodHandle" ∧ y_S_bar.cls ≠ "java/lang/invoke/VarHandle" ∧ (parseMethodDescriptor y_S_bar.desc).map (fun d => d.parameters.length) = some 1 := by decide +kernel
theorem d_S_bar_0 : decode b_S_bar 0 = .ok (.aload_n 0, 1) := by decide +kernel
theorem d_S_bar_1 : decode b_S_bar 1 = .ok (.getfield 28, 3) := by decide +kernel
theorem d_S_bar_4 : decode b_S_bar 4 = .ok (.iload_n 1, 1) := by decide +kernel
theorem d_S_bar_5 : decode b_S_bar 5 = .ok (.iconst 0, 1) := by decide +kernel
theorem d_S_bar_6 : decode b_S_bar 6 = .ok (.invokevirtual 80, 3) := by decide +kernel
theorem d_S_bar_9 : decode b_S_bar 9 = .ok (.istore_n 2, 1) := by decide +kernel
theorem d_S_bar_10 : decode b_S_bar 10 = .ok (.iload_n 2, 1) := by decide +kernel
theorem d_S_bar_11 : decode b_S_bar 11 = .ok (.iconst (-1), 1) := by decide +kernel
theorem d_S_bar_12 : decode b_S_bar 12 = .ok (.if_icmp .ne 6, 3) := by decide +kernel
theorem d_S_bar_15 : decode b_S_bar 15 = .ok (.ldc 84, 2) := by decide +kernel
theorem d_S_bar_17 : decode b_S_bar 17 = .ok (.ireturn, 1) := by decide +kernel
theorem d_S_bar_18 : decode b_S_bar 18 = .ok (.aload_n 0, 1) := by decide +kernel
theorem d_S_bar_19 : decode b_S_bar 19 = .ok (.getfield 28, 3) := by decide +kernel
theorem d_S_bar_22 : decode b_S_bar 22 = .ok (.iload_n 1, 1) := by decide +kernel
theorem d_S_bar_23 : decode b_S_bar 23 = .ok (.iconst 1, 1) := by decide +kernel
theorem d_S_bar_24 : decode b_S_bar 24 = .ok (.invokevirtual 80, 3) := by decide +kernel
theorem d_S_bar_27 : decode b_S_bar 27 = .ok (.istore_n 3, 1) := by decide +kernel
theorem d_S_bar_28 : decode b_S_bar 28 = .ok (.aload_n 0, 1) := by decide +kernel
theorem d_S_bar_29 : decode b_S_bar 29 = .ok (.getfield 28, 3) := by decide +kernel
theorem d_S_bar_32 : decode b_S_bar 32 = .ok (.iload_n 1, 1) := by decide +kernel
theorem d_S_bar_33 : decode b_S_bar 33 = .ok (.iload_n 2, 1) := by decide +kernel
theorem d_S_bar_34 : decode b_S_bar 34 = .ok (.invokevirtual 85, 3) := by decide +kernel
theorem d_S_bar_37 : decode b_S_bar 37 = .ok (.istore 4, 2) := by decide +kernel
theorem d_S_bar_39 : decode b_S_bar 39 = .ok (.iload_n 3, 1) := by decide +kernel
theorem d_S_bar_40 : decode b_S_bar 40 = .ok (.iconst (-1), 1) := by decide +kernel
theorem d_S_bar_41 : decode b_S_bar 41 = .ok (.if_icmp .ne 10, 3) := by decide +kernel
theorem d_S_bar_44 : decode b_S_bar 44 = .ok (.iload 4, 2) := by decide +kernel
theorem d_S_bar_46 : decode b_S_bar 46 = .ok (.iconst 5, 1) := by decide +kernel
theorem d_S_bar_47 : decode b_S_bar 47 = .ok (.iload_n 2, 1) := by decide +kernel
theorem d_S_bar_48 : decode b_S_bar 48 = .ok (.imul, 1) := by decide +kernel
theorem d_S_bar_49 : decode b_S_bar 49 = .ok (.ishl, 1) := by decide +kernel
theorem d_S_bar_50 : decode b_S_bar 50 = .ok (.ireturn, 1) := by decide +kernel
theorem d_S_bar_51 : decode b_S_bar 51 = .ok (.aload_n 0, 1) := by decide +kernel
theorem d_S_bar_52 : decode b_S_bar 52 = .ok (.getfield 28, 3) := by decide +kernel
theorem d_S_bar_55 : decode b_S_bar 55 = .ok (.iload_n 1, 1) := by decide +kernel
theorem d_S_bar_56 : decode b_S_bar 56 = .ok (.iload_n 3, 1) := by decide +kernel
theorem d_S_bar_57 : decode b_S_bar 57 = .ok (.invokevirtual 85, 3) := by decide +kernel
theorem d_S_bar_60 : decode b_S_bar 60 = .ok (.iconst 5, 1) := by decide +kernel
theorem d_S_bar_61 : decode b_S_bar 61 = .ok (.iload_n 3, 1) := by decide +kernel
theorem d_S_bar_62 : decode b_S_bar 62 = .ok (.imul, 1) := by decide +kernel
theorem d_S_bar_63 : decode b_S_bar 63 = .ok (.ishl, 1) := by decide +kernel
theorem d_S_bar_64 : decode b_S_bar 64 = .ok (.istore 5, 2) := by decide +kernel
theorem d_S_bar_66 : decode b_S_bar 66 = .ok (.iconst 0, 1) := by decide +kernel
theorem d_S_bar_67 : decode b_S_bar 67 = .ok (.istore 6, 2) := by decide +kernel
theorem d_S_bar_69 : decode b_S_bar 69 = .ok (.iload 6, 2) := by decide +kernel
theorem d_S_bar_71 : decode b_S_bar 71 = .ok (.iconst 5, 1) := by decide +kernel
theorem d_S_bar_72 : decode b_S_bar 72 = .ok (.if_icmp .ge 36, 3) := by decide +kernel
theorem d_S_bar_75 : decode b_S_bar 75 = .ok (.iload 4, 2) := by decide +kernel
theorem d_S_bar_77 : decode b_S_bar 77 = .ok (.iload 6, 2) := by decide +kernel
theorem d_S_bar_79 : decode b_S_bar 79 = .ok (.ishr, 1) := by decide +kernel
theorem d_S_bar_80 : decode b_S_bar 80 = .ok (.iconst 1, 1) := by decide +kernel
theorem d_S_bar_81 : decode b_S_bar 81 = .ok (.iand, 1) := by decide +kernel
theorem d_S_bar_82 : decode b_S_bar 82 = .ok (.iconst 1, 1) := by decide +kernel
theorem d_S_bar_83 : decode b_S_bar 83 = .ok (.if_icmp .ne 19, 3) := by decide +kernel
theorem d_S_bar_86 : decode b_S_bar 86 = .ok (.aload_n 0, 1) := by decide +kernel
theorem d_S_bar_87 : decode b_S_bar 87 = .ok (.getfield 17, 3) := by decide +kernel
theorem d_S_bar_90 : decode b_S_bar 90 = .ok (.iconst 5, 1) := by decide +kernel
theorem d_S_bar_91 : decode b_S_bar 91 = .ok (.iload_n 2, 1) := by decide +kernel
theorem d_S_bar_92 : decode b_S_bar 92 = .ok (.imul, 1) := by decide +kernel
theorem d_S_bar_93 : decode b_S_bar 93 = .ok (.iload 6, 2) := by decide +kernel
theorem d_S_bar_95 : decode b_S_bar 95 = .ok (.iadd, 1) := by decide +kernel
theorem d_S_bar_96 : decode b_S_bar 96 = .ok (.dup2, 1) := by decide +kernel
theorem d_S_bar_97 : decode b_S_bar 97 = .ok (.iaload, 1) := by decide +kernel
theorem d_S_bar_98 : decode b_S_bar 98 = .ok (.iload 5, 2) := by decide +kernel
theorem d_S_bar_100 : decode b_S_bar 100 = .ok (.ior, 1) := by decide +kernel
theorem d_S_bar_101 : decode b_S_bar 101 = .ok (.iastore, 1) := by decide +kernel
theorem d_S_bar_102 : decode b_S_bar 102 = .ok (.iinc 6 1, 3) := by decide +kernel
theorem d_S_bar_105 : decode b_S_bar 105 = .ok (.goto (-36), 3) := by decide +kernel
theorem d_S_bar_108 : decode b_S_bar 108 = .ok (.iconst 0, 1) := by decide +kernel
theorem d_S_bar_109 : decode b_S_bar 109 = .ok (.ireturn, 1) := by decide +kernel
abbrev rm_S_bar : Room := { frames := 2, cells := 0, slots := 0, locals := 46 }
def f_S_bar_69 : Nat → Int32 → Int32 → Int32 → Int32 → Mem → Option (Int32 × Mem)
  | 0, _, _, _, _, _ => none
  | n + 1, x2, x4, x5, x6, M => if (5 : Int32) ≤ x6 then some ((0 : Int32), M) else if ((x4 >>> (x6 &&& 31)) &&& (1 : Int32)) = (1 : Int32) then gd (inb (((5 : Int32) * x2) + x6) 25) (gd (inb (((5 : Int32) * x2) + x6) 25) ((f_S_bar_69 n) x2 x4 x5 (x6 + (1 : Int32)) (ms M 27 (((5 : Int32) * x2) + x6).toNatClampNeg ((M 27 (((5 : Int32) * x2) + x6).toNatClampNeg) ||| x5)))) else (f_S_bar_69 n) x2 x4 x5 (x6 + (1 : Int32)) M
set_option maxRecDepth 100000 in
theorem g_S_bar_69 {r : Int32} {M' : Mem} (C : GC p s m args meth c b_S_bar 7 (some (FieldType.int)) "NoneWords$Search" TB D vwCl (tysW cI cZ cC) A Z) : ∀ (n : Nat) (x2 : Int32) (x4 : Int32) (x5 : Int32) (x6 : Int32) (M : Mem), f_S_bar_69 n x2 x4 x5 x6 M = some (r, M') → GW p l e rm_S_bar s m args below meth c (MQ below (QW D vwCl (tysW cI cZ cC) A (some (.int r)) (wc ad cI cZ cC M')) args s 0 0 A) D vwCl A 7 0 0 (wc ad cI cZ cC M) 69 [(0, .ref (ad 25)), (2, .int x2), (4, .int x4), (5, .int x5), (6, .int x6)] [] := by
  intro n
  induction n with
  | zero => intro _ _ _ _ _ hf; cases hf
  | succ n ih =>
    intro x2 x4 x5 x6 M hf
    rw [f_S_bar_69] at hf
    refine gw_iload C 4 d_S_bar_69 rfl ?_
    refine gw_iconst (v := (5 : Int32)) C d_S_bar_71 (by decide) ?_
    refine gw_icmp_ge (tgt := 108) C d_S_bar_72 (by decide) (fun c => ?_) (fun c => ?_)
    · have hf := (if_pos c).symm.trans hf
      refine gw_iconst (v := (0 : Int32)) C d_S_bar_108 (by decide) ?_
      exact gw_ireti C d_S_bar_109 (wc ad cI cZ cC) hf
    · have hf := (if_neg c).symm.trans hf
      refine gw_iload C 2 d_S_bar_75 rfl ?_
      refine gw_iload C 4 d_S_bar_77 rfl ?_
      refine gw_ishr C d_S_bar_79 ?_
      refine gw_iconst (v := (1 : Int32)) C d_S_bar_80 (by decide) ?_
      refine gw_iand C d_S_bar_81 ?_
      refine gw_iconst (v := (1 : Int32)) C d_S_bar_82 (by decide) ?_
      refine gw_icmp_ne (tgt := 102) C d_S_bar_83 (by decide) (fun c => ?_) (fun c => ?_)
      · have hf := (if_neg c).symm.trans hf
        refine gw_iinc (v := x6 + (1 : Int32)) (lv' := [(6, .int (x6 + (1 : Int32))), (0, .ref (ad 25)), (2, .int x2), (4, .int x4), (5, .int x5)]) C 4 d_S_bar_102 rfl rfl (by decide) rfl ?_
        refine gw_goto (tgt := 69) C d_S_bar_105 (by decide) ?_
        exact gw_sub [1, 2, 3, 4, 0] rfl (ih _ _ _ _ _ hf)
      · have hf := (if_pos c).symm.trans hf
        refine gw_aload_n C 0 d_S_bar_86 rfl rfl ?_
        refine gw_get C in_S 25 wcg_25 clg_1 2 (by decide) tw_211 rfl rfl d_S_bar_87 ?_
        refine gw_iconst (v := (5 : Int32)) C d_S_bar_90 (by decide) ?_
        refine gw_iload_n C 1 d_S_bar_91 rfl rfl ?_
        refine gw_imul C d_S_bar_92 ?_
        refine gw_iload C 4 d_S_bar_93 rfl ?_
        refine gw_iadd C d_S_bar_95 ?_
        refine gw_dup2 C d_S_bar_96 rfl rfl ?_
        obtain ⟨hb97, hf⟩ := gd_some hf
        refine gw_iald C 27 0 wcg_27 rfl hb97 d_S_bar_97 ?_
        refine gw_iload C 3 d_S_bar_98 rfl ?_
        refine gw_ior C d_S_bar_100 ?_
        obtain ⟨hb101, hf⟩ := gd_some hf
        refine gw_iast C 27 0 wcg_27 rfl hb101 d_S_bar_101 wca_27 ?_
        refine gw_iinc (v := x6 + (1 : Int32)) (lv' := [(6, .int (x6 + (1 : Int32))), (0, .ref (ad 25)), (2, .int x2), (4, .int x4), (5, .int x5)]) C 4 d_S_bar_102 rfl rfl (by decide) rfl ?_
        refine gw_goto (tgt := 69) C d_S_bar_105 (by decide) ?_
        exact gw_sub [1, 2, 3, 4, 0] rfl (ih _ _ _ _ _ hf)
def f_S_bar (x1 : Int32) (M : Mem) : Option (Int32 × Mem) :=
  ob (f_F_nameOfTerm x1 (0 : Int32) M) fun r6 M6 => if r6 = (-1 : Int32) then some ((33554431 : Int32), M6) else ob (f_F_nameOfTerm x1 (1 : Int32) M6) fun r24 M24 => ob (f_F_optionsOfTerm x1 r6 M24) fun r34 M34 => if r24 = (-1 : Int32) then some (r34 <<< (((5 : Int32) * r6) &&& 31), M34) else ob (f_F_optionsOfTerm x1 r24 M34) fun r57 M57 => f_S_bar_69 100000 r6 r34 (r57 <<< (((5 : Int32) * r24) &&& 31)) (0 : Int32) M57
set_option maxRecDepth 100000 in
theorem g_S_bar {r : Int32} {M' : Mem} (C : GC p s m args meth c b_S_bar 7 (some (FieldType.int)) "NoneWords$Search" TB D vwCl (tysW cI cZ cC) A Z) {x1 : Int32} {M : Mem} (hf : f_S_bar x1 M = some (r, M')) : GW p l e rm_S_bar s m args below meth c (MQ below (QW D vwCl (tysW cI cZ cC) A (some (.int r)) (wc ad cI cZ cC M')) args s 0 0 A) D vwCl A 7 0 0 (wc ad cI cZ cC M) 0 [(0, .ref (ad 25)), (1, .int x1)] [] := by
  unfold f_S_bar at hf
  refine gw_aload_n C 0 d_S_bar_0 rfl rfl ?_
  refine gw_get C in_S 25 wcg_25 clg_1 0 (by decide) tw_209 rfl rfl d_S_bar_1 ?_
  refine gw_iload_n C 1 d_S_bar_4 rfl rfl ?_
  refine gw_iconst (v := (0 : Int32)) C d_S_bar_5 (by decide) ?_
  obtain ⟨r6, M6, hc6, hf⟩ := ob_some hf
  refine gw_callVr (rest := []) C 1 wcg_1 clg_0 (c_F_nameOfTerm C.2.2.2.2.2.2.2.2.2.2 hc6) (cwV 2 C.2.2.2.2.1 (gTB_V tw_632 mv_F_nameOfTerm) rfl rfl rfl pd_F_nameOfTerm ⟨Nat.le_of_ble_eq_true rfl, Nat.le_of_ble_eq_true rfl⟩) rfl rfl (Nat.le_of_ble_eq_true rfl) d_S_bar_6 ⟨Nat.le_of_ble_eq_true rfl, Nat.le_of_ble_eq_true rfl⟩ ?_
  refine gw_istore_n (lv' := [(2, .int r6), (0, .ref (ad 25)), (1, .int x1)]) C d_S_bar_9 rfl (by decide) rfl ?_
  refine gw_iload_n C 0 d_S_bar_10 rfl rfl ?_
  refine gw_iconst (v := (-1 : Int32)) C d_S_bar_11 (by decide) ?_
  refine gw_icmp_ne (tgt := 18) C d_S_bar_12 (by decide) (fun c => ?_) (fun c => ?_)
  · have hf := (if_neg c).symm.trans hf
    refine gw_aload_n C 1 d_S_bar_18 rfl rfl ?_
    refine gw_get C in_S 25 wcg_25 clg_1 0 (by decide) tw_209 rfl rfl d_S_bar_19 ?_
    refine gw_iload_n C 2 d_S_bar_22 rfl rfl ?_
    refine gw_iconst (v := (1 : Int32)) C d_S_bar_23 (by decide) ?_
    obtain ⟨r24, M24, hc24, hf⟩ := ob_some hf
    refine gw_callVr (rest := []) C 1 wcg_1 clg_0 (c_F_nameOfTerm C.2.2.2.2.2.2.2.2.2.2 hc24) (cwV 2 C.2.2.2.2.1 (gTB_V tw_632 mv_F_nameOfTerm) rfl rfl rfl pd_F_nameOfTerm ⟨Nat.le_of_ble_eq_true rfl, Nat.le_of_ble_eq_true rfl⟩) rfl rfl (Nat.le_of_ble_eq_true rfl) d_S_bar_24 ⟨Nat.le_of_ble_eq_true rfl, Nat.le_of_ble_eq_true rfl⟩ ?_
    refine gw_istore_n (lv' := [(3, .int r24), (2, .int r6), (0, .ref (ad 25)), (1, .int x1)]) C d_S_bar_27 rfl (by decide) rfl ?_
    refine gw_aload_n C 2 d_S_bar_28 rfl rfl ?_
    refine gw_get C in_S 25 wcg_25 clg_1 0 (by decide) tw_209 rfl rfl d_S_bar_29 ?_
    refine gw_iload_n C 3 d_S_bar_32 rfl rfl ?_
    refine gw_iload_n C 1 d_S_bar_33 rfl rfl ?_
    obtain ⟨r34, M34, hc34, hf⟩ := ob_some hf
    refine gw_callVr (rest := []) C 1 wcg_1 clg_0 (c_F_optionsOfTerm C.2.2.2.2.2.2.2.2.2.2 hc34) (cwV 2 C.2.2.2.2.1 (gTB_V tw_634 mv_F_optionsOfTerm) rfl rfl rfl pd_F_optionsOfTerm ⟨Nat.le_of_ble_eq_true rfl, Nat.le_of_ble_eq_true rfl⟩) rfl rfl (Nat.le_of_ble_eq_true rfl) d_S_bar_34 ⟨Nat.le_of_ble_eq_true rfl, Nat.le_of_ble_eq_true rfl⟩ ?_
    refine gw_istore (lv' := [(4, .int r34), (3, .int r24), (2, .int r6), (0, .ref (ad 25)), (1, .int x1)]) C d_S_bar_37 (by decide) rfl ?_
    refine gw_iload_n C 1 d_S_bar_39 rfl rfl ?_
    refine gw_iconst (v := (-1 : Int32)) C d_S_bar_40 (by decide) ?_
    refine gw_icmp_ne (tgt := 51) C d_S_bar_41 (by decide) (fun c => ?_) (fun c => ?_)
    · have hf := (if_neg c).symm.trans hf
      refine gw_aload_n C 3 d_S_bar_51 rfl rfl ?_
      refine gw_get C in_S 25 wcg_25 clg_1 0 (by decide) tw_209 rfl rfl d_S_bar_52 ?_
      refine gw_iload_n C 4 d_S_bar_55 rfl rfl ?_
      refine gw_iload_n C 1 d_S_bar_56 rfl rfl ?_
      obtain ⟨r57, M57, hc57, hf⟩ := ob_some hf
      refine gw_callVr (rest := []) C 1 wcg_1 clg_0 (c_F_optionsOfTerm C.2.2.2.2.2.2.2.2.2.2 hc57) (cwV 2 C.2.2.2.2.1 (gTB_V tw_634 mv_F_optionsOfTerm) rfl rfl rfl pd_F_optionsOfTerm ⟨Nat.le_of_ble_eq_true rfl, Nat.le_of_ble_eq_true rfl⟩) rfl rfl (Nat.le_of_ble_eq_true rfl) d_S_bar_57 ⟨Nat.le_of_ble_eq_true rfl, Nat.le_of_ble_eq_true rfl⟩ ?_
      refine gw_iconst (v := (5 : Int32)) C d_S_bar_60 (by decide) ?_
      refine gw_iload_n C 1 d_S_bar_61 rfl rfl ?_
      refine gw_imul C d_S_bar_62 ?_
      refine gw_ishl C d_S_bar_63 ?_
      refine gw_istore (lv' := [(5, .int (r57 <<< (((5 : Int32) * r24) &&& 31))), (4, .int r34), (3, .int r24), (2, .int r6), (0, .ref (ad 25)), (1, .int x1)]) C d_S_bar_64 (by decide) rfl ?_
      refine gw_iconst (v := (0 : Int32)) C d_S_bar_66 (by decide) ?_
      refine gw_istore (lv' := [(6, .int (0 : Int32)), (5, .int (r57 <<< (((5 : Int32) * r24) &&& 31))), (4, .int r34), (3, .int r24), (2, .int r6), (0, .ref (ad 25)), (1, .int x1)]) C d_S_bar_67 (by decide) rfl ?_
      exact gw_sub [5, 4, 2, 1, 0] rfl (g_S_bar_69 C _ _ _ _ _ _ hf)
    · have hf := (if_pos c).symm.trans hf
      refine gw_iload C 0 d_S_bar_44 rfl ?_
      refine gw_iconst (v := (5 : Int32)) C d_S_bar_46 (by decide) ?_
      refine gw_iload_n C 2 d_S_bar_47 rfl rfl ?_
      refine gw_imul C d_S_bar_48 ?_
      refine gw_ishl C d_S_bar_49 ?_
      exact gw_ireti C d_S_bar_50 (wc ad cI cZ cC) hf
  · have hf := (if_pos c).symm.trans hf
    refine gw_ldc (v := (33554431 : Int32)) C d_S_bar_15 tw_633 ?_
    exact gw_ireti C d_S_bar_17 (wc ad cI cZ cC) hf
theorem c_S_bar (hZ : gw_ZOK Z) {x1 : Int32} {M : Mem} {r : Int32} {M' : Mem} (hf : f_S_bar x1 M = some (r, M')) : CW l y_S_bar ws_S_bar rm_S_bar D vwCl (tysW cI cZ cC) Z [.ref (ad 25), .int x1] (wc ad cI cZ cC M) (some (.int r)) (wc ad cI cZ cC M') 0 0 :=
  CW.ofG hZ (by decide) rfl (Nat.le_of_ble_eq_true rfl) (fun _ _ _ _ _ _ _ _ C _ => g_S_bar C hf)
abbrev b_S_allOptions : ByteArray := prog_3_method_9_code
def y_S_allOptions : MethodName := ⟨"NoneWords$Search", "allOptions", "()I"⟩
abbrev ws_S_allOptions : List Cond := Cond.code y_S_allOptions b_S_allOptions 4 (some (FieldType.int)) :: TB
set_option maxRecDepth 100000 in
theorem tc_S_allOptions : Cond.code y_S_allOptions b_S_allOptions 4 (some (FieldType.int)) ∈ TB := inTB 620 rfl rfl
theorem mv_S_allOptions : Cond.instanceMethod y_S_allOptions ∈ TB ∧ Cond.selects "NoneWords$Search" y_S_allOptions y_S_allOptions ∈ TB ∧ Cond.initialized "NoneWords$Search" ∈ TB ∧ Cond.code y_S_allOptions b_S_allOptions 4 (some (FieldType.int)) ∈ TB := ⟨inTB 619 (by decide +kernel) (by decide +kernel), inTB 21 (by decide +kernel) (by decide +kernel), inTB 70 (by decide +kernel) (by decide +kernel), tc_S_allOptions⟩
theorem pd_S_allOptions : y_S_allOptions.cls = "NoneWords$Search" ∧ y_S_allOptions.cls ≠ "java/lang/invoke/MethodHandle" ∧ y_S_allOptions.cls ≠ "java/lang/invoke/VarHandle" ∧ (parseMethodDescriptor y_S_allOptions.desc).map (fun d => d.parameters.length) = some 0 := by decide +kernel
theorem d_S_allOptions_0 : decode b_S_allOptions 0 = .ok (.iconst 0, 1) := by decide +kernel
theorem d_S_allOptions_1 : decode b_S_allOptions 1 = .ok (.istore_n 1, 1) := by decide +kernel
theorem d_S_allOptions_2 : decode b_S_allOptions 2 = .ok (.iconst 0, 1) := by decide +kernel
theorem d_S_allOptions_3 : decode b_S_allOptions 3 = .ok (.istore_n 2, 1) := by decide +kernel
theorem d_S_allOptions_4 : decode b_S_allOptions 4 = .ok (.iload_n 2, 1) := by decide +kernel
theorem d_S_allOptions_5 : decode b_S_allOptions 5 = .ok (.aload_n 0, 1) := by decide +kernel
theorem d_S_allOptions_6 : decode b_S_allOptions 6 = .ok (.getfield 28, 3) := by decide +kernel
theorem d_S_allOptions_9 : decode b_S_allOptions 9 = .ok (.invokevirtual 53, 3) := by decide +kernel
theorem d_S_allOptions_12 : decode b_S_allOptions 12 = .ok (.if_icmp .ge 29, 3) := by decide +kernel
theorem d_S_allOptions_15 : decode b_S_allOptions 15 = .ok (.aload_n 0, 1) := by decide +kernel
theorem d_S_allOptions_16 : decode b_S_allOptions 16 = .ok (.getfield 28, 3) := by decide +kernel
theorem d_S_allOptions_19 : decode b_S_allOptions 19 = .ok (.iload_n 2, 1) := by decide +kernel
theorem d_S_allOptions_20 : decode b_S_allOptions 20 = .ok (.invokevirtual 77, 3) := by decide +kernel
theorem d_S_allOptions_23 : decode b_S_allOptions 23 = .ok (.bipush 16, 2) := by decide +kernel
theorem d_S_allOptions_25 : decode b_S_allOptions 25 = .ok (.ior, 1) := by decide +kernel
theorem d_S_allOptions_26 : decode b_S_allOptions 26 = .ok (.istore_n 3, 1) := by decide +kernel
theorem d_S_allOptions_27 : decode b_S_allOptions 27 = .ok (.iload_n 1, 1) := by decide +kernel
theorem d_S_allOptions_28 : decode b_S_allOptions 28 = .ok (.iload_n 3, 1) := by decide +kernel
theorem d_S_allOptions_29 : decode b_S_allOptions 29 = .ok (.iconst 5, 1) := by decide +kernel
theorem d_S_allOptions_30 : decode b_S_allOptions 30 = .ok (.iload_n 2, 1) := by decide +kernel
theorem d_S_allOptions_31 : decode b_S_allOptions 31 = .ok (.imul, 1) := by decide +kernel
theorem d_S_allOptions_32 : decode b_S_allOptions 32 = .ok (.ishl, 1) := by decide +kernel
theorem d_S_allOptions_33 : decode b_S_allOptions 33 = .ok (.ior, 1) := by decide +kernel
theorem d_S_allOptions_34 : decode b_S_allOptions 34 = .ok (.istore_n 1, 1) := by decide +kernel
theorem d_S_allOptions_35 : decode b_S_allOptions 35 = .ok (.iinc 2 1, 3) := by decide +kernel
theorem d_S_allOptions_38 : decode b_S_allOptions 38 = .ok (.goto (-34), 3) := by decide +kernel
theorem d_S_allOptions_41 : decode b_S_allOptions 41 = .ok (.iload_n 1, 1) := by decide +kernel
theorem d_S_allOptions_42 : decode b_S_allOptions 42 = .ok (.ireturn, 1) := by decide +kernel
abbrev rm_S_allOptions : Room := { frames := 2, cells := 0, slots := 0, locals := 42 }
def f_S_allOptions_4 : Nat → Int32 → Int32 → Mem → Option (Int32 × Mem)
  | 0, _, _, _ => none
  | n + 1, x1, x2, M => ob (f_F_countNames M) fun r9 M9 => if r9 ≤ x2 then some (x1, M9) else ob (f_F_allVersions x2 M9) fun r20 M20 => (f_S_allOptions_4 n) (x1 ||| ((r20 ||| (16 : Int32)) <<< (((5 : Int32) * x2) &&& 31))) (x2 + (1 : Int32)) M20
set_option maxRecDepth 100000 in
theorem g_S_allOptions_4 {r : Int32} {M' : Mem} (C : GC p s m args meth c b_S_allOptions 4 (some (FieldType.int)) "NoneWords$Search" TB D vwCl (tysW cI cZ cC) A Z) : ∀ (n : Nat) (x1 : Int32) (x2 : Int32) (M : Mem), f_S_allOptions_4 n x1 x2 M = some (r, M') → GW p l e rm_S_allOptions s m args below meth c (MQ below (QW D vwCl (tysW cI cZ cC) A (some (.int r)) (wc ad cI cZ cC M')) args s 0 0 A) D vwCl A 4 0 0 (wc ad cI cZ cC M) 4 [(0, .ref (ad 25)), (1, .int x1), (2, .int x2)] [] := by
  intro n
  induction n with
  | zero => intro _ _ _ hf; cases hf
  | succ n ih =>
    intro x1 x2 M hf
    rw [f_S_allOptions_4] at hf
    refine gw_iload_n C 2 d_S_allOptions_4 rfl rfl ?_
    refine gw_aload_n C 0 d_S_allOptions_5 rfl rfl ?_
    refine gw_get C in_S 25 wcg_25 clg_1 0 (by decide) tw_209 rfl rfl d_S_allOptions_6 ?_
    obtain ⟨r9, M9, hc9, hf⟩ := ob_some hf
    refine gw_callVr (rest := [.int x2]) C 1 wcg_1 clg_0 (c_F_countNames C.2.2.2.2.2.2.2.2.2.2 hc9) (cwV 0 C.2.2.2.2.1 (gTB_V tw_621 mv_F_countNames) rfl rfl rfl pd_F_countNames ⟨Nat.le_of_ble_eq_true rfl, Nat.le_of_ble_eq_true rfl⟩) rfl rfl (Nat.le_of_ble_eq_true rfl) d_S_allOptions_9 ⟨Nat.le_of_ble_eq_true rfl, Nat.le_of_ble_eq_true rfl⟩ ?_
    refine gw_icmp_ge (tgt := 41) C d_S_allOptions_12 (by decide) (fun c => ?_) (fun c => ?_)
    · have hf := (if_pos c).symm.trans hf
      refine gw_iload_n C 1 d_S_allOptions_41 rfl rfl ?_
      exact gw_ireti C d_S_allOptions_42 (wc ad cI cZ cC) hf
    · have hf := (if_neg c).symm.trans hf
      refine gw_aload_n C 0 d_S_allOptions_15 rfl rfl ?_
      refine gw_get C in_S 25 wcg_25 clg_1 0 (by decide) tw_209 rfl rfl d_S_allOptions_16 ?_
      refine gw_iload_n C 2 d_S_allOptions_19 rfl rfl ?_
      obtain ⟨r20, M20, hc20, hf⟩ := ob_some hf
      refine gw_callVr (rest := []) C 1 wcg_1 clg_0 (c_F_allVersions C.2.2.2.2.2.2.2.2.2.2 hc20) (cwV 1 C.2.2.2.2.1 (gTB_V tw_622 mv_F_allVersions) rfl rfl rfl pd_F_allVersions ⟨Nat.le_of_ble_eq_true rfl, Nat.le_of_ble_eq_true rfl⟩) rfl rfl (Nat.le_of_ble_eq_true rfl) d_S_allOptions_20 ⟨Nat.le_of_ble_eq_true rfl, Nat.le_of_ble_eq_true rfl⟩ ?_
      refine gw_bipush (v := (16 : Int32)) C d_S_allOptions_23 (by decide) ?_
      refine gw_ior C d_S_allOptions_25 ?_
      refine gw_istore_n (lv' := [(3, .int (r20 ||| (16 : Int32))), (0, .ref (ad 25)), (1, .int x1), (2, .int x2)]) C d_S_allOptions_26 rfl (by decide) rfl ?_
      refine gw_iload_n C 2 d_S_allOptions_27 rfl rfl ?_
      refine gw_iload_n C 0 d_S_allOptions_28 rfl rfl ?_
      refine gw_iconst (v := (5 : Int32)) C d_S_allOptions_29 (by decide) ?_
      refine gw_iload_n C 3 d_S_allOptions_30 rfl rfl ?_
      refine gw_imul C d_S_allOptions_31 ?_
      refine gw_ishl C d_S_allOptions_32 ?_
      refine gw_ior C d_S_allOptions_33 ?_
      refine gw_istore_n (lv' := [(1, .int (x1 ||| ((r20 ||| (16 : Int32)) <<< (((5 : Int32) * x2) &&& 31)))), (3, .int (r20 ||| (16 : Int32))), (0, .ref (ad 25)), (2, .int x2)]) C d_S_allOptions_34 rfl (by decide) rfl ?_
      refine gw_iinc (v := x2 + (1 : Int32)) (lv' := [(2, .int (x2 + (1 : Int32))), (1, .int (x1 ||| ((r20 ||| (16 : Int32)) <<< (((5 : Int32) * x2) &&& 31)))), (3, .int (r20 ||| (16 : Int32))), (0, .ref (ad 25))]) C 3 d_S_allOptions_35 rfl rfl (by decide) rfl ?_
      refine gw_goto (tgt := 4) C d_S_allOptions_38 (by decide) ?_
      exact gw_sub [3, 1, 0] rfl (ih _ _ _ hf)
def f_S_allOptions (M : Mem) : Option (Int32 × Mem) :=
  f_S_allOptions_4 100000 (0 : Int32) (0 : Int32) M
set_option maxRecDepth 100000 in
theorem g_S_allOptions {r : Int32} {M' : Mem} (C : GC p s m args meth c b_S_allOptions 4 (some (FieldType.int)) "NoneWords$Search" TB D vwCl (tysW cI cZ cC) A Z) {M : Mem} (hf : f_S_allOptions M = some (r, M')) : GW p l e rm_S_allOptions s m args below meth c (MQ below (QW D vwCl (tysW cI cZ cC) A (some (.int r)) (wc ad cI cZ cC M')) args s 0 0 A) D vwCl A 4 0 0 (wc ad cI cZ cC M) 0 [(0, .ref (ad 25))] [] := by
  unfold f_S_allOptions at hf
  refine gw_iconst (v := (0 : Int32)) C d_S_allOptions_0 (by decide) ?_
  refine gw_istore_n (lv' := [(1, .int (0 : Int32)), (0, .ref (ad 25))]) C d_S_allOptions_1 rfl (by decide) rfl ?_
  refine gw_iconst (v := (0 : Int32)) C d_S_allOptions_2 (by decide) ?_
  refine gw_istore_n (lv' := [(2, .int (0 : Int32)), (1, .int (0 : Int32)), (0, .ref (ad 25))]) C d_S_allOptions_3 rfl (by decide) rfl ?_
  exact gw_sub [2, 1, 0] rfl (g_S_allOptions_4 C _ _ _ _ hf)
theorem c_S_allOptions (hZ : gw_ZOK Z) {M : Mem} {r : Int32} {M' : Mem} (hf : f_S_allOptions M = some (r, M')) : CW l y_S_allOptions ws_S_allOptions rm_S_allOptions D vwCl (tysW cI cZ cC) Z [.ref (ad 25)] (wc ad cI cZ cC M) (some (.int r)) (wc ad cI cZ cC M') 0 0 :=
  CW.ofG hZ (by decide) rfl (Nat.le_of_ble_eq_true rfl) (fun _ _ _ _ _ _ _ _ C _ => g_S_allOptions C hf)
abbrev b_S_takeAllBack : ByteArray := prog_3_method_8_code
def y_S_takeAllBack : MethodName := ⟨"NoneWords$Search", "takeAllBack", "()V"⟩
abbrev ws_S_takeAllBack : List Cond := Cond.code y_S_takeAllBack b_S_takeAllBack 2 (none) :: TB
set_option maxRecDepth 100000 in
theorem tc_S_takeAllBack : Cond.code y_S_takeAllBack b_S_takeAllBack 2 (none) ∈ TB := inTB 658 rfl rfl
theorem mv_S_takeAllBack : Cond.instanceMethod y_S_takeAllBack ∈ TB ∧ Cond.selects "NoneWords$Search" y_S_takeAllBack y_S_takeAllBack ∈ TB ∧ Cond.initialized "NoneWords$Search" ∈ TB ∧ Cond.code y_S_takeAllBack b_S_takeAllBack 2 (none) ∈ TB := ⟨inTB 657 (by decide +kernel) (by decide +kernel), inTB 24 (by decide +kernel) (by decide +kernel), inTB 70 (by decide +kernel) (by decide +kernel), tc_S_takeAllBack⟩
theorem pd_S_takeAllBack : y_S_takeAllBack.cls = "NoneWords$Search" ∧ y_S_takeAllBack.cls ≠ "java/lang/invoke/MethodHandle" ∧ y_S_takeAllBack.cls ≠ "java/lang/invoke/VarHandle" ∧ (parseMethodDescriptor y_S_takeAllBack.desc).map (fun d => d.parameters.length) = some 0 := by decide +kernel
theorem d_S_takeAllBack_0 : decode b_S_takeAllBack 0 = .ok (.iconst 0, 1) := by decide +kernel
theorem d_S_takeAllBack_1 : decode b_S_takeAllBack 1 = .ok (.istore_n 1, 1) := by decide +kernel
theorem d_S_takeAllBack_2 : decode b_S_takeAllBack 2 = .ok (.iload_n 1, 1) := by decide +kernel
theorem d_S_takeAllBack_3 : decode b_S_takeAllBack 3 = .ok (.bipush 120, 2) := by decide +kernel
theorem d_S_takeAllBack_5 : decode b_S_takeAllBack 5 = .ok (.if_icmp .ge 16, 3) := by decide +kernel
theorem d_S_takeAllBack_8 : decode b_S_takeAllBack 8 = .ok (.aload_n 0, 1) := by decide +kernel
theorem d_S_takeAllBack_9 : decode b_S_takeAllBack 9 = .ok (.getfield 9, 3) := by decide +kernel
theorem d_S_takeAllBack_12 : decode b_S_takeAllBack 12 = .ok (.iload_n 1, 1) := by decide +kernel
theorem d_S_takeAllBack_13 : decode b_S_takeAllBack 13 = .ok (.iconst 0, 1) := by decide +kernel
theorem d_S_takeAllBack_14 : decode b_S_takeAllBack 14 = .ok (.bastore, 1) := by decide +kernel
theorem d_S_takeAllBack_15 : decode b_S_takeAllBack 15 = .ok (.iinc 1 1, 3) := by decide +kernel
theorem d_S_takeAllBack_18 : decode b_S_takeAllBack 18 = .ok (.goto (-16), 3) := by decide +kernel
theorem d_S_takeAllBack_21 : decode b_S_takeAllBack 21 = .ok (.return_, 1) := by decide +kernel
abbrev rm_S_takeAllBack : Room := { frames := 0, cells := 0, slots := 0, locals := 0 }
def f_S_takeAllBack_2 : Nat → Int32 → Mem → Option Mem
  | 0, _, _ => none
  | n + 1, x1, M => if (120 : Int32) ≤ x1 then some M else gd (inb x1 120) ((f_S_takeAllBack_2 n) (x1 + (1 : Int32)) (ms M 26 x1.toNatClampNeg (vp_nar .boolean (0 : Int32))))
set_option maxRecDepth 100000 in
theorem g_S_takeAllBack_2 {M' : Mem} (C : GC p s m args meth c b_S_takeAllBack 2 (none) "NoneWords$Search" TB D vwCl (tysW cI cZ cC) A Z) : ∀ (n : Nat) (x1 : Int32) (M : Mem), f_S_takeAllBack_2 n x1 M = some M' → GW p l e rm_S_takeAllBack s m args below meth c (MQ below (QW D vwCl (tysW cI cZ cC) A none (wc ad cI cZ cC M')) args s 0 0 A) D vwCl A 2 0 0 (wc ad cI cZ cC M) 2 [(0, .ref (ad 25)), (1, .int x1)] [] := by
  intro n
  induction n with
  | zero => intro _ _ hf; cases hf
  | succ n ih =>
    intro x1 M hf
    rw [f_S_takeAllBack_2] at hf
    refine gw_iload_n C 1 d_S_takeAllBack_2 rfl rfl ?_
    refine gw_bipush (v := (120 : Int32)) C d_S_takeAllBack_3 (by decide) ?_
    refine gw_icmp_ge (tgt := 21) C d_S_takeAllBack_5 (by decide) (fun c => ?_) (fun c => ?_)
    · have hf := (if_pos c).symm.trans hf
      exact gw_vreti C d_S_takeAllBack_21 (wc ad cI cZ cC) hf
    · have hf := (if_neg c).symm.trans hf
      refine gw_aload_n C 0 d_S_takeAllBack_8 rfl rfl ?_
      refine gw_get C in_S 25 wcg_25 clg_1 1 (by decide) tw_210 rfl rfl d_S_takeAllBack_9 ?_
      refine gw_iload_n C 1 d_S_takeAllBack_12 rfl rfl ?_
      refine gw_iconst (v := (0 : Int32)) C d_S_takeAllBack_13 (by decide) ?_
      obtain ⟨hb14, hf⟩ := gd_some hf
      refine gw_zast C 26 1 wcg_26 rfl hb14 d_S_takeAllBack_14 wca_26 ?_
      refine gw_iinc (v := x1 + (1 : Int32)) (lv' := [(1, .int (x1 + (1 : Int32))), (0, .ref (ad 25))]) C 1 d_S_takeAllBack_15 rfl rfl (by decide) rfl ?_
      refine gw_goto (tgt := 2) C d_S_takeAllBack_18 (by decide) ?_
      exact gw_sub [1, 0] rfl (ih _ _ hf)
def f_S_takeAllBack (M : Mem) : Option Mem :=
  f_S_takeAllBack_2 100000 (0 : Int32) M
set_option maxRecDepth 100000 in
theorem g_S_takeAllBack {M' : Mem} (C : GC p s m args meth c b_S_takeAllBack 2 (none) "NoneWords$Search" TB D vwCl (tysW cI cZ cC) A Z) {M : Mem} (hf : f_S_takeAllBack M = some M') : GW p l e rm_S_takeAllBack s m args below meth c (MQ below (QW D vwCl (tysW cI cZ cC) A none (wc ad cI cZ cC M')) args s 0 0 A) D vwCl A 2 0 0 (wc ad cI cZ cC M) 0 [(0, .ref (ad 25))] [] := by
  unfold f_S_takeAllBack at hf
  refine gw_iconst (v := (0 : Int32)) C d_S_takeAllBack_0 (by decide) ?_
  refine gw_istore_n (lv' := [(1, .int (0 : Int32)), (0, .ref (ad 25))]) C d_S_takeAllBack_1 rfl (by decide) rfl ?_
  exact gw_sub [1, 0] rfl (g_S_takeAllBack_2 C _ _ _ hf)
theorem c_S_takeAllBack (hZ : gw_ZOK Z) {M : Mem} {M' : Mem} (hf : f_S_takeAllBack M = some M') : CW l y_S_takeAllBack ws_S_takeAllBack rm_S_takeAllBack D vwCl (tysW cI cZ cC) Z [.ref (ad 25)] (wc ad cI cZ cC M) none (wc ad cI cZ cC M') 0 0 :=
  CW.ofG hZ (by decide) rfl (Nat.le_of_ble_eq_true rfl) (fun _ _ _ _ _ _ _ _ C _ => g_S_takeAllBack C hf)
abbrev b_S_findsWorld : ByteArray := prog_3_method_2_code
def y_S_findsWorld : MethodName := ⟨"NoneWords$Search", "findsWorld", "()Z"⟩
abbrev ws_S_findsWorld : List Cond := Cond.code y_S_findsWorld b_S_findsWorld 3 (some (FieldType.boolean)) :: TB
set_option maxRecDepth 100000 in
theorem tc_S_findsWorld : Cond.code y_S_findsWorld b_S_findsWorld 3 (some (FieldType.boolean)) ∈ TB := inTB 615 rfl rfl
theorem mv_S_findsWorld : Cond.instanceMethod y_S_findsWorld ∈ TB ∧ Cond.selects "NoneWords$Search" y_S_findsWorld y_S_findsWorld ∈ TB ∧ Cond.initialized "NoneWords$Search" ∈ TB ∧ Cond.code y_S_findsWorld b_S_findsWorld 3 (some (FieldType.boolean)) ∈ TB := ⟨inTB 613 (by decide +kernel) (by decide +kernel), inTB 614 (by decide +kernel) (by decide +kernel), inTB 70 (by decide +kernel) (by decide +kernel), tc_S_findsWorld⟩
theorem pd_S_findsWorld : y_S_findsWorld.cls = "NoneWords$Search" ∧ y_S_findsWorld.cls ≠ "java/lang/invoke/MethodHandle" ∧ y_S_findsWorld.cls ≠ "java/lang/invoke/VarHandle" ∧ (parseMethodDescriptor y_S_findsWorld.desc).map (fun d => d.parameters.length) = some 0 := by decide +kernel
theorem d_S_findsWorld_0 : decode b_S_findsWorld 0 = .ok (.aload_n 0, 1) := by decide +kernel
theorem d_S_findsWorld_1 : decode b_S_findsWorld 1 = .ok (.getfield 17, 3) := by decide +kernel
theorem d_S_findsWorld_4 : decode b_S_findsWorld 4 = .ok (.iconst 0, 1) := by decide +kernel
theorem d_S_findsWorld_5 : decode b_S_findsWorld 5 = .ok (.invokestatic 32, 3) := by decide +kernel
theorem d_S_findsWorld_8 : decode b_S_findsWorld 8 = .ok (.aload_n 0, 1) := by decide +kernel
theorem d_S_findsWorld_9 : decode b_S_findsWorld 9 = .ok (.invokevirtual 38, 3) := by decide +kernel
theorem d_S_findsWorld_12 : decode b_S_findsWorld 12 = .ok (.istore_n 1, 1) := by decide +kernel
theorem d_S_findsWorld_13 : decode b_S_findsWorld 13 = .ok (.iconst 0, 1) := by decide +kernel
theorem d_S_findsWorld_14 : decode b_S_findsWorld 14 = .ok (.istore_n 2, 1) := by decide +kernel
theorem d_S_findsWorld_15 : decode b_S_findsWorld 15 = .ok (.iload_n 2, 1) := by decide +kernel
theorem d_S_findsWorld_16 : decode b_S_findsWorld 16 = .ok (.aload_n 0, 1) := by decide +kernel
theorem d_S_findsWorld_17 : decode b_S_findsWorld 17 = .ok (.getfield 28, 3) := by decide +kernel
theorem d_S_findsWorld_20 : decode b_S_findsWorld 20 = .ok (.invokevirtual 42, 3) := by decide +kernel
theorem d_S_findsWorld_23 : decode b_S_findsWorld 23 = .ok (.if_icmp .ge 39, 3) := by decide +kernel
theorem d_S_findsWorld_26 : decode b_S_findsWorld 26 = .ok (.aload_n 0, 1) := by decide +kernel
theorem d_S_findsWorld_27 : decode b_S_findsWorld 27 = .ok (.getfield 28, 3) := by decide +kernel
theorem d_S_findsWorld_30 : decode b_S_findsWorld 30 = .ok (.iload_n 2, 1) := by decide +kernel
theorem d_S_findsWorld_31 : decode b_S_findsWorld 31 = .ok (.invokevirtual 45, 3) := by decide +kernel
theorem d_S_findsWorld_34 : decode b_S_findsWorld 34 = .ok (.ifCond .eq 22, 3) := by decide +kernel
theorem d_S_findsWorld_37 : decode b_S_findsWorld 37 = .ok (.aload_n 0, 1) := by decide +kernel
theorem d_S_findsWorld_38 : decode b_S_findsWorld 38 = .ok (.getfield 9, 3) := by decide +kernel
theorem d_S_findsWorld_41 : decode b_S_findsWorld 41 = .ok (.iload_n 2, 1) := by decide +kernel
theorem d_S_findsWorld_42 : decode b_S_findsWorld 42 = .ok (.baload, 1) := by decide +kernel
theorem d_S_findsWorld_43 : decode b_S_findsWorld 43 = .ok (.ifCond .ne 13, 3) := by decide +kernel
theorem d_S_findsWorld_46 : decode b_S_findsWorld 46 = .ok (.iload_n 1, 1) := by decide +kernel
theorem d_S_findsWorld_47 : decode b_S_findsWorld 47 = .ok (.aload_n 0, 1) := by decide +kernel
theorem d_S_findsWorld_48 : decode b_S_findsWorld 48 = .ok (.iload_n 2, 1) := by decide +kernel
theorem d_S_findsWorld_49 : decode b_S_findsWorld 49 = .ok (.invokevirtual 49, 3) := by decide +kernel
theorem d_S_findsWorld_52 : decode b_S_findsWorld 52 = .ok (.iconst (-1), 1) := by decide +kernel
theorem d_S_findsWorld_53 : decode b_S_findsWorld 53 = .ok (.ixor, 1) := by decide +kernel
theorem d_S_findsWorld_54 : decode b_S_findsWorld 54 = .ok (.iand, 1) := by decide +kernel
theorem d_S_findsWorld_55 : decode b_S_findsWorld 55 = .ok (.istore_n 1, 1) := by decide +kernel
theorem d_S_findsWorld_56 : decode b_S_findsWorld 56 = .ok (.iinc 2 1, 3) := by decide +kernel
theorem d_S_findsWorld_59 : decode b_S_findsWorld 59 = .ok (.goto (-44), 3) := by decide +kernel
theorem d_S_findsWorld_62 : decode b_S_findsWorld 62 = .ok (.aload_n 0, 1) := by decide +kernel
theorem d_S_findsWorld_63 : decode b_S_findsWorld 63 = .ok (.getfield 17, 3) := by decide +kernel
theorem d_S_findsWorld_66 : decode b_S_findsWorld 66 = .ok (.aload_n 0, 1) := by decide +kernel
theorem d_S_findsWorld_67 : decode b_S_findsWorld 67 = .ok (.getfield 28, 3) := by decide +kernel
theorem d_S_findsWorld_70 : decode b_S_findsWorld 70 = .ok (.invokevirtual 53, 3) := by decide +kernel
theorem d_S_findsWorld_73 : decode b_S_findsWorld 73 = .ok (.iconst 0, 1) := by decide +kernel
theorem d_S_findsWorld_74 : decode b_S_findsWorld 74 = .ok (.iload_n 1, 1) := by decide +kernel
theorem d_S_findsWorld_75 : decode b_S_findsWorld 75 = .ok (.invokestatic 56, 3) := by decide +kernel
theorem d_S_findsWorld_78 : decode b_S_findsWorld 78 = .ok (.ireturn, 1) := by decide +kernel
abbrev rm_S_findsWorld : Room := { frames := 9, cells := 0, slots := 0, locals := 234 }
def f_S_findsWorld_15 : Nat → Int32 → Int32 → Mem → Option (Int32 × Mem)
  | 0, _, _, _ => none
  | n + 1, x1, x2, M => ob (f_F_countNodes M) fun r20 M20 => if r20 ≤ x2 then ob (f_F_countNames M20) fun r70 M70 => ob (f_S_canChoose 7 r70 (0 : Int32) x1 M70) fun r75 M75 => some (vp_nar .boolean r75, M75) else ob (f_F_isLeaf x2 M20) fun r31 M31 => if r31 = 0 then (f_S_findsWorld_15 n) x1 (x2 + (1 : Int32)) M31 else gd (inb x2 120) (if (M31 26 x2.toNatClampNeg) = 0 then ob (f_S_bar x2 M31) fun r49 M49 => (f_S_findsWorld_15 n) (x1 &&& (r49 ^^^ (-1 : Int32))) (x2 + (1 : Int32)) M49 else (f_S_findsWorld_15 n) x1 (x2 + (1 : Int32)) M31)
set_option maxRecDepth 100000 in
theorem g_S_findsWorld_15 {r : Int32} {M' : Mem} (C : GC p s m args meth c b_S_findsWorld 3 (some (FieldType.boolean)) "NoneWords$Search" TB D vwCl (tysW cI cZ cC) A Z) : ∀ (n : Nat) (x1 : Int32) (x2 : Int32) (M : Mem), f_S_findsWorld_15 n x1 x2 M = some (r, M') → GW p l e rm_S_findsWorld s m args below meth c (MQ below (QW D vwCl (tysW cI cZ cC) A (some (.int r)) (wc ad cI cZ cC M')) args s 0 0 A) D vwCl A 3 0 0 (wc ad cI cZ cC M) 15 [(0, .ref (ad 25)), (1, .int x1), (2, .int x2)] [] := by
  intro n
  induction n with
  | zero => intro _ _ _ hf; cases hf
  | succ n ih =>
    intro x1 x2 M hf
    rw [f_S_findsWorld_15] at hf
    refine gw_iload_n C 2 d_S_findsWorld_15 rfl rfl ?_
    refine gw_aload_n C 0 d_S_findsWorld_16 rfl rfl ?_
    refine gw_get C in_S 25 wcg_25 clg_1 0 (by decide) tw_209 rfl rfl d_S_findsWorld_17 ?_
    obtain ⟨r20, M20, hc20, hf⟩ := ob_some hf
    refine gw_callVr (rest := [.int x2]) C 1 wcg_1 clg_0 (c_F_countNodes C.2.2.2.2.2.2.2.2.2.2 hc20) (cwV 0 C.2.2.2.2.1 (gTB_V tw_623 mv_F_countNodes) rfl rfl rfl pd_F_countNodes ⟨Nat.le_of_ble_eq_true rfl, Nat.le_of_ble_eq_true rfl⟩) rfl rfl (Nat.le_of_ble_eq_true rfl) d_S_findsWorld_20 ⟨Nat.le_of_ble_eq_true rfl, Nat.le_of_ble_eq_true rfl⟩ ?_
    refine gw_icmp_ge (tgt := 62) C d_S_findsWorld_23 (by decide) (fun c => ?_) (fun c => ?_)
    · have hf := (if_pos c).symm.trans hf
      refine gw_aload_n C 0 d_S_findsWorld_62 rfl rfl ?_
      refine gw_get C in_S 25 wcg_25 clg_1 2 (by decide) tw_211 rfl rfl d_S_findsWorld_63 ?_
      refine gw_aload_n C 0 d_S_findsWorld_66 rfl rfl ?_
      refine gw_get C in_S 25 wcg_25 clg_1 0 (by decide) tw_209 rfl rfl d_S_findsWorld_67 ?_
      obtain ⟨r70, M70, hc70, hf⟩ := ob_some hf
      refine gw_callVr (rest := [.ref (ad 27)]) C 1 wcg_1 clg_0 (c_F_countNames C.2.2.2.2.2.2.2.2.2.2 hc70) (cwV 0 C.2.2.2.2.1 (gTB_V tw_621 mv_F_countNames) rfl rfl rfl pd_F_countNames ⟨Nat.le_of_ble_eq_true rfl, Nat.le_of_ble_eq_true rfl⟩) rfl rfl (Nat.le_of_ble_eq_true rfl) d_S_findsWorld_70 ⟨Nat.le_of_ble_eq_true rfl, Nat.le_of_ble_eq_true rfl⟩ ?_
      refine gw_iconst (v := (0 : Int32)) C d_S_findsWorld_73 (by decide) ?_
      refine gw_iload_n C 1 d_S_findsWorld_74 rfl rfl ?_
      obtain ⟨r75, M75, hc75, hf⟩ := ob_some hf
      refine gw_callSr (rest := []) C (c_S_canChoose C.2.2.2.2.2.2.2.2.2.2 7 _ _ _ _ _ _ hc75) (cwS 4 C.2.2.2.2.1 (gTB_S tw_635 mv_S_canChoose) rfl rfl rfl pd_S_canChoose ⟨Nat.le_of_ble_eq_true rfl, Nat.le_of_ble_eq_true rfl⟩) rfl rfl (Nat.le_of_ble_eq_true rfl) d_S_findsWorld_75 ⟨Nat.le_of_ble_eq_true rfl, Nat.le_of_ble_eq_true rfl⟩ ?_
      exact gw_zretn C d_S_findsWorld_78 (wc ad cI cZ cC) (nar_b _) hf
    · have hf := (if_neg c).symm.trans hf
      refine gw_aload_n C 0 d_S_findsWorld_26 rfl rfl ?_
      refine gw_get C in_S 25 wcg_25 clg_1 0 (by decide) tw_209 rfl rfl d_S_findsWorld_27 ?_
      refine gw_iload_n C 2 d_S_findsWorld_30 rfl rfl ?_
      obtain ⟨r31, M31, hc31, hf⟩ := ob_some hf
      refine gw_callVr (rest := []) C 1 wcg_1 clg_0 (c_F_isLeaf C.2.2.2.2.2.2.2.2.2.2 hc31) (cwV 1 C.2.2.2.2.1 (gTB_V tw_627 mv_F_isLeaf) rfl rfl rfl pd_F_isLeaf ⟨Nat.le_of_ble_eq_true rfl, Nat.le_of_ble_eq_true rfl⟩) rfl rfl (Nat.le_of_ble_eq_true rfl) d_S_findsWorld_31 ⟨Nat.le_of_ble_eq_true rfl, Nat.le_of_ble_eq_true rfl⟩ ?_
      refine gw_if_eq (tgt := 56) C d_S_findsWorld_34 (by decide) (fun c => ?_) (fun c => ?_)
      · have hf := (if_pos c).symm.trans hf
        refine gw_iinc (v := x2 + (1 : Int32)) (lv' := [(2, .int (x2 + (1 : Int32))), (0, .ref (ad 25)), (1, .int x1)]) C 2 d_S_findsWorld_56 rfl rfl (by decide) rfl ?_
        refine gw_goto (tgt := 15) C d_S_findsWorld_59 (by decide) ?_
        exact gw_sub [1, 2, 0] rfl (ih _ _ _ hf)
      · have hf := (if_neg c).symm.trans hf
        refine gw_aload_n C 0 d_S_findsWorld_37 rfl rfl ?_
        refine gw_get C in_S 25 wcg_25 clg_1 1 (by decide) tw_210 rfl rfl d_S_findsWorld_38 ?_
        refine gw_iload_n C 2 d_S_findsWorld_41 rfl rfl ?_
        obtain ⟨hb42, hf⟩ := gd_some hf
        refine gw_zald C 26 1 wcg_26 rfl hb42 d_S_findsWorld_42 ?_
        refine gw_if_ne (tgt := 56) C d_S_findsWorld_43 (by decide) (fun c => ?_) (fun c => ?_)
        · have hf := (if_neg c).symm.trans hf
          refine gw_iinc (v := x2 + (1 : Int32)) (lv' := [(2, .int (x2 + (1 : Int32))), (0, .ref (ad 25)), (1, .int x1)]) C 2 d_S_findsWorld_56 rfl rfl (by decide) rfl ?_
          refine gw_goto (tgt := 15) C d_S_findsWorld_59 (by decide) ?_
          exact gw_sub [1, 2, 0] rfl (ih _ _ _ hf)
        · have hf := (if_pos c).symm.trans hf
          refine gw_iload_n C 1 d_S_findsWorld_46 rfl rfl ?_
          refine gw_aload_n C 0 d_S_findsWorld_47 rfl rfl ?_
          refine gw_iload_n C 2 d_S_findsWorld_48 rfl rfl ?_
          obtain ⟨r49, M49, hc49, hf⟩ := ob_some hf
          refine gw_callVr (rest := [.int x1]) C 25 wcg_25 clg_1 (c_S_bar C.2.2.2.2.2.2.2.2.2.2 hc49) (cwV 1 C.2.2.2.2.1 (gTB_V tw_628 mv_S_bar) rfl rfl rfl pd_S_bar ⟨Nat.le_of_ble_eq_true rfl, Nat.le_of_ble_eq_true rfl⟩) rfl rfl (Nat.le_of_ble_eq_true rfl) d_S_findsWorld_49 ⟨Nat.le_of_ble_eq_true rfl, Nat.le_of_ble_eq_true rfl⟩ ?_
          refine gw_iconst (v := (-1 : Int32)) C d_S_findsWorld_52 (by decide) ?_
          refine gw_ixor C d_S_findsWorld_53 ?_
          refine gw_iand C d_S_findsWorld_54 ?_
          refine gw_istore_n (lv' := [(1, .int (x1 &&& (r49 ^^^ (-1 : Int32)))), (0, .ref (ad 25)), (2, .int x2)]) C d_S_findsWorld_55 rfl (by decide) rfl ?_
          refine gw_iinc (v := x2 + (1 : Int32)) (lv' := [(2, .int (x2 + (1 : Int32))), (1, .int (x1 &&& (r49 ^^^ (-1 : Int32)))), (0, .ref (ad 25))]) C 2 d_S_findsWorld_56 rfl rfl (by decide) rfl ?_
          refine gw_goto (tgt := 15) C d_S_findsWorld_59 (by decide) ?_
          exact gw_sub [2, 1, 0] rfl (ih _ _ _ hf)
def f_S_findsWorld (M : Mem) : Option (Int32 × Mem) :=
  ob (f_S_allOptions (mf M 27 25 (0 : Int32))) fun r9 M9 => f_S_findsWorld_15 100000 r9 (0 : Int32) M9
set_option maxRecDepth 100000 in
theorem g_S_findsWorld {r : Int32} {M' : Mem} (C : GC p s m args meth c b_S_findsWorld 3 (some (FieldType.boolean)) "NoneWords$Search" TB D vwCl (tysW cI cZ cC) A Z) {M : Mem} (hf : f_S_findsWorld M = some (r, M')) : GW p l e rm_S_findsWorld s m args below meth c (MQ below (QW D vwCl (tysW cI cZ cC) A (some (.int r)) (wc ad cI cZ cC M')) args s 0 0 A) D vwCl A 3 0 0 (wc ad cI cZ cC M) 0 [(0, .ref (ad 25))] [] := by
  unfold f_S_findsWorld at hf
  refine gw_aload_n C 0 d_S_findsWorld_0 rfl rfl ?_
  refine gw_get C in_S 25 wcg_25 clg_1 2 (by decide) tw_211 rfl rfl d_S_findsWorld_1 ?_
  refine gw_iconst (v := (0 : Int32)) C d_S_findsWorld_4 (by decide) ?_
  refine gw_callSv (rest := []) C (c_A_fill C.2.2.2.2.2.2.2.2.2.2 27 0 wcg_27 rfl (by decide) wcz_27) (va_cwS 2 C.2.2.2.2.1 (gTB_vS rfl tw_616 mv_A_fill) rfl rfl rfl pd_A_fill.2 ⟨Nat.le_of_ble_eq_true rfl, Nat.le_of_ble_eq_true rfl⟩) rfl rfl (Nat.le_of_ble_eq_true rfl) d_S_findsWorld_5 ⟨Nat.le_of_ble_eq_true rfl, Nat.le_of_ble_eq_true rfl⟩ ?_
  refine gw_aload_n C 0 d_S_findsWorld_8 rfl rfl ?_
  obtain ⟨r9, M9, hc9, hf⟩ := ob_some hf
  refine gw_callVr (rest := []) C 25 wcg_25 clg_1 (c_S_allOptions C.2.2.2.2.2.2.2.2.2.2 hc9) (cwV 0 C.2.2.2.2.1 (gTB_V tw_617 mv_S_allOptions) rfl rfl rfl pd_S_allOptions ⟨Nat.le_of_ble_eq_true rfl, Nat.le_of_ble_eq_true rfl⟩) rfl rfl (Nat.le_of_ble_eq_true rfl) d_S_findsWorld_9 ⟨Nat.le_of_ble_eq_true rfl, Nat.le_of_ble_eq_true rfl⟩ ?_
  refine gw_istore_n (lv' := [(1, .int r9), (0, .ref (ad 25))]) C d_S_findsWorld_12 rfl (by decide) rfl ?_
  refine gw_iconst (v := (0 : Int32)) C d_S_findsWorld_13 (by decide) ?_
  refine gw_istore_n (lv' := [(2, .int (0 : Int32)), (1, .int r9), (0, .ref (ad 25))]) C d_S_findsWorld_14 rfl (by decide) rfl ?_
  exact gw_sub [2, 1, 0] rfl (g_S_findsWorld_15 C _ _ _ _ hf)
theorem c_S_findsWorld (hZ : gw_ZOK Z) {M : Mem} {r : Int32} {M' : Mem} (hf : f_S_findsWorld M = some (r, M')) : CW l y_S_findsWorld ws_S_findsWorld rm_S_findsWorld D vwCl (tysW cI cZ cC) Z [.ref (ad 25)] (wc ad cI cZ cC M) (some (.int r)) (wc ad cI cZ cC M') 0 0 :=
  CW.ofG hZ (by decide) rfl (Nat.le_of_ble_eq_true rfl) (fun _ _ _ _ _ _ _ _ C _ => g_S_findsWorld C hf)
abbrev b_S_findsWorldWithout : ByteArray := prog_3_method_7_code
def y_S_findsWorldWithout : MethodName := ⟨"NoneWords$Search", "findsWorldWithout", "(I)Z"⟩
abbrev ws_S_findsWorldWithout : List Cond := Cond.code y_S_findsWorldWithout b_S_findsWorldWithout 3 (some (FieldType.boolean)) :: TB
set_option maxRecDepth 100000 in
theorem tc_S_findsWorldWithout : Cond.code y_S_findsWorldWithout b_S_findsWorldWithout 3 (some (FieldType.boolean)) ∈ TB := inTB 678 rfl rfl
theorem mv_S_findsWorldWithout : Cond.instanceMethod y_S_findsWorldWithout ∈ TB ∧ Cond.selects "NoneWords$Search" y_S_findsWorldWithout y_S_findsWorldWithout ∈ TB ∧ Cond.initialized "NoneWords$Search" ∈ TB ∧ Cond.code y_S_findsWorldWithout b_S_findsWorldWithout 3 (some (FieldType.boolean)) ∈ TB := ⟨inTB 677 (by decide +kernel) (by decide +kernel), inTB 25 (by decide +kernel) (by decide +kernel), inTB 70 (by decide +kernel) (by decide +kernel), tc_S_findsWorldWithout⟩
theorem pd_S_findsWorldWithout : y_S_findsWorldWithout.cls = "NoneWords$Search" ∧ y_S_findsWorldWithout.cls ≠ "java/lang/invoke/MethodHandle" ∧ y_S_findsWorldWithout.cls ≠ "java/lang/invoke/VarHandle" ∧ (parseMethodDescriptor y_S_findsWorldWithout.desc).map (fun d => d.parameters.length) = some 1 := by decide +kernel
theorem d_S_findsWorldWithout_0 : decode b_S_findsWorldWithout 0 = .ok (.aload_n 0, 1) := by decide +kernel
theorem d_S_findsWorldWithout_1 : decode b_S_findsWorldWithout 1 = .ok (.getfield 9, 3) := by decide +kernel
theorem d_S_findsWorldWithout_4 : decode b_S_findsWorldWithout 4 = .ok (.iload_n 1, 1) := by decide +kernel
theorem d_S_findsWorldWithout_5 : decode b_S_findsWorldWithout 5 = .ok (.iconst 1, 1) := by decide +kernel
theorem d_S_findsWorldWithout_6 : decode b_S_findsWorldWithout 6 = .ok (.bastore, 1) := by decide +kernel
theorem d_S_findsWorldWithout_7 : decode b_S_findsWorldWithout 7 = .ok (.aload_n 0, 1) := by decide +kernel
theorem d_S_findsWorldWithout_8 : decode b_S_findsWorldWithout 8 = .ok (.invokevirtual 60, 3) := by decide +kernel
theorem d_S_findsWorldWithout_11 : decode b_S_findsWorldWithout 11 = .ok (.istore_n 2, 1) := by decide +kernel
theorem d_S_findsWorldWithout_12 : decode b_S_findsWorldWithout 12 = .ok (.aload_n 0, 1) := by decide +kernel
theorem d_S_findsWorldWithout_13 : decode b_S_findsWorldWithout 13 = .ok (.getfield 9, 3) := by decide +kernel
theorem d_S_findsWorldWithout_16 : decode b_S_findsWorldWithout 16 = .ok (.iload_n 1, 1) := by decide +kernel
theorem d_S_findsWorldWithout_17 : decode b_S_findsWorldWithout 17 = .ok (.iconst 0, 1) := by decide +kernel
theorem d_S_findsWorldWithout_18 : decode b_S_findsWorldWithout 18 = .ok (.bastore, 1) := by decide +kernel
theorem d_S_findsWorldWithout_19 : decode b_S_findsWorldWithout 19 = .ok (.iload_n 2, 1) := by decide +kernel
theorem d_S_findsWorldWithout_20 : decode b_S_findsWorldWithout 20 = .ok (.ireturn, 1) := by decide +kernel
abbrev rm_S_findsWorldWithout : Room := { frames := 10, cells := 0, slots := 0, locals := 256 }
def f_S_findsWorldWithout (x1 : Int32) (M : Mem) : Option (Int32 × Mem) :=
  gd (inb x1 120) (ob (f_S_findsWorld (ms M 26 x1.toNatClampNeg (vp_nar .boolean (1 : Int32)))) fun r8 M8 => gd (inb x1 120) (some (vp_nar .boolean r8, ms M8 26 x1.toNatClampNeg (vp_nar .boolean (0 : Int32)))))
set_option maxRecDepth 100000 in
theorem g_S_findsWorldWithout {r : Int32} {M' : Mem} (C : GC p s m args meth c b_S_findsWorldWithout 3 (some (FieldType.boolean)) "NoneWords$Search" TB D vwCl (tysW cI cZ cC) A Z) {x1 : Int32} {M : Mem} (hf : f_S_findsWorldWithout x1 M = some (r, M')) : GW p l e rm_S_findsWorldWithout s m args below meth c (MQ below (QW D vwCl (tysW cI cZ cC) A (some (.int r)) (wc ad cI cZ cC M')) args s 0 0 A) D vwCl A 3 0 0 (wc ad cI cZ cC M) 0 [(0, .ref (ad 25)), (1, .int x1)] [] := by
  unfold f_S_findsWorldWithout at hf
  refine gw_aload_n C 0 d_S_findsWorldWithout_0 rfl rfl ?_
  refine gw_get C in_S 25 wcg_25 clg_1 1 (by decide) tw_210 rfl rfl d_S_findsWorldWithout_1 ?_
  refine gw_iload_n C 1 d_S_findsWorldWithout_4 rfl rfl ?_
  refine gw_iconst (v := (1 : Int32)) C d_S_findsWorldWithout_5 (by decide) ?_
  obtain ⟨hb6, hf⟩ := gd_some hf
  refine gw_zast C 26 1 wcg_26 rfl hb6 d_S_findsWorldWithout_6 wca_26 ?_
  refine gw_aload_n C 0 d_S_findsWorldWithout_7 rfl rfl ?_
  obtain ⟨r8, M8, hc8, hf⟩ := ob_some hf
  refine gw_callVr (rest := []) C 25 wcg_25 clg_1 (c_S_findsWorld C.2.2.2.2.2.2.2.2.2.2 hc8) (cwV 0 C.2.2.2.2.1 (gTB_V tw_649 mv_S_findsWorld) rfl rfl rfl pd_S_findsWorld ⟨Nat.le_of_ble_eq_true rfl, Nat.le_of_ble_eq_true rfl⟩) rfl rfl (Nat.le_of_ble_eq_true rfl) d_S_findsWorldWithout_8 ⟨Nat.le_of_ble_eq_true rfl, Nat.le_of_ble_eq_true rfl⟩ ?_
  refine gw_istore_n (lv' := [(2, .int r8), (0, .ref (ad 25)), (1, .int x1)]) C d_S_findsWorldWithout_11 rfl (by decide) rfl ?_
  refine gw_aload_n C 1 d_S_findsWorldWithout_12 rfl rfl ?_
  refine gw_get C in_S 25 wcg_25 clg_1 1 (by decide) tw_210 rfl rfl d_S_findsWorldWithout_13 ?_
  refine gw_iload_n C 2 d_S_findsWorldWithout_16 rfl rfl ?_
  refine gw_iconst (v := (0 : Int32)) C d_S_findsWorldWithout_17 (by decide) ?_
  obtain ⟨hb18, hf⟩ := gd_some hf
  refine gw_zast C 26 1 wcg_26 rfl hb18 d_S_findsWorldWithout_18 wca_26 ?_
  refine gw_iload_n C 0 d_S_findsWorldWithout_19 rfl rfl ?_
  exact gw_zretn C d_S_findsWorldWithout_20 (wc ad cI cZ cC) (nar_b _) hf
theorem c_S_findsWorldWithout (hZ : gw_ZOK Z) {x1 : Int32} {M : Mem} {r : Int32} {M' : Mem} (hf : f_S_findsWorldWithout x1 M = some (r, M')) : CW l y_S_findsWorldWithout ws_S_findsWorldWithout rm_S_findsWorldWithout D vwCl (tysW cI cZ cC) Z [.ref (ad 25), .int x1] (wc ad cI cZ cC M) (some (.int r)) (wc ad cI cZ cC M') 0 0 :=
  CW.ofG hZ (by decide) rfl (Nat.le_of_ble_eq_true rfl) (fun _ _ _ _ _ _ _ _ C _ => g_S_findsWorldWithout C hf)
abbrev b_S_blamed : ByteArray := prog_3_method_5_code
def y_S_blamed : MethodName := ⟨"NoneWords$Search", "blamed", "(I)I"⟩
abbrev ws_S_blamed : List Cond := Cond.code y_S_blamed b_S_blamed 2 (some (FieldType.int)) :: TB
set_option maxRecDepth 100000 in
theorem tc_S_blamed : Cond.code y_S_blamed b_S_blamed 2 (some (FieldType.int)) ∈ TB := inTB 666 rfl rfl
theorem mv_S_blamed : Cond.instanceMethod y_S_blamed ∈ TB ∧ Cond.selects "NoneWords$Search" y_S_blamed y_S_blamed ∈ TB ∧ Cond.initialized "NoneWords$Search" ∈ TB ∧ Cond.code y_S_blamed b_S_blamed 2 (some (FieldType.int)) ∈ TB := ⟨inTB 664 (by decide +kernel) (by decide +kernel), inTB 665 (by decide +kernel) (by decide +kernel), inTB 70 (by decide +kernel) (by decide +kernel), tc_S_blamed⟩
theorem pd_S_blamed : y_S_blamed.cls = "NoneWords$Search" ∧ y_S_blamed.cls ≠ "java/lang/invoke/MethodHandle" ∧ y_S_blamed.cls ≠ "java/lang/invoke/VarHandle" ∧ (parseMethodDescriptor y_S_blamed.desc).map (fun d => d.parameters.length) = some 1 := by decide +kernel
theorem d_S_blamed_0 : decode b_S_blamed 0 = .ok (.iload_n 1, 1) := by decide +kernel
theorem d_S_blamed_1 : decode b_S_blamed 1 = .ok (.ifCond .lt 20, 3) := by decide +kernel
theorem d_S_blamed_4 : decode b_S_blamed 4 = .ok (.iload_n 1, 1) := by decide +kernel
theorem d_S_blamed_5 : decode b_S_blamed 5 = .ok (.aload_n 0, 1) := by decide +kernel
theorem d_S_blamed_6 : decode b_S_blamed 6 = .ok (.getfield 24, 3) := by decide +kernel
theorem d_S_blamed_9 : decode b_S_blamed 9 = .ok (.if_icmp .ge 12, 3) := by decide +kernel
theorem d_S_blamed_12 : decode b_S_blamed 12 = .ok (.aload_n 0, 1) := by decide +kernel
theorem d_S_blamed_13 : decode b_S_blamed 13 = .ok (.getfield 21, 3) := by decide +kernel
theorem d_S_blamed_16 : decode b_S_blamed 16 = .ok (.iload_n 1, 1) := by decide +kernel
theorem d_S_blamed_17 : decode b_S_blamed 17 = .ok (.iaload, 1) := by decide +kernel
theorem d_S_blamed_18 : decode b_S_blamed 18 = .ok (.goto 4, 3) := by decide +kernel
theorem d_S_blamed_21 : decode b_S_blamed 21 = .ok (.iconst (-1), 1) := by decide +kernel
theorem d_S_blamed_22 : decode b_S_blamed 22 = .ok (.ireturn, 1) := by decide +kernel
abbrev rm_S_blamed : Room := { frames := 0, cells := 0, slots := 0, locals := 0 }
def f_S_blamed (x1 : Int32) (M : Mem) : Option (Int32 × Mem) :=
  if x1 < 0 then some ((-1 : Int32), M) else if (M 25 4) ≤ x1 then some ((-1 : Int32), M) else gd (inb x1 120) (some (M 28 x1.toNatClampNeg, M))
set_option maxRecDepth 100000 in
theorem g_S_blamed {r : Int32} {M' : Mem} (C : GC p s m args meth c b_S_blamed 2 (some (FieldType.int)) "NoneWords$Search" TB D vwCl (tysW cI cZ cC) A Z) {x1 : Int32} {M : Mem} (hf : f_S_blamed x1 M = some (r, M')) : GW p l e rm_S_blamed s m args below meth c (MQ below (QW D vwCl (tysW cI cZ cC) A (some (.int r)) (wc ad cI cZ cC M')) args s 0 0 A) D vwCl A 2 0 0 (wc ad cI cZ cC M) 0 [(0, .ref (ad 25)), (1, .int x1)] [] := by
  unfold f_S_blamed at hf
  refine gw_iload_n C 1 d_S_blamed_0 rfl rfl ?_
  refine gw_if_lt (tgt := 21) C d_S_blamed_1 (by decide) (fun c => ?_) (fun c => ?_)
  · have hf := (if_pos c).symm.trans hf
    refine gw_iconst (v := (-1 : Int32)) C d_S_blamed_21 (by decide) ?_
    exact gw_ireti C d_S_blamed_22 (wc ad cI cZ cC) hf
  · have hf := (if_neg c).symm.trans hf
    refine gw_iload_n C 1 d_S_blamed_4 rfl rfl ?_
    refine gw_aload_n C 0 d_S_blamed_5 rfl rfl ?_
    refine gw_get C in_S 25 wcg_25 clg_1 4 (by decide) tw_213 rfl rfl d_S_blamed_6 ?_
    refine gw_icmp_ge (tgt := 21) C d_S_blamed_9 (by decide) (fun c => ?_) (fun c => ?_)
    · have hf := (if_pos c).symm.trans hf
      refine gw_iconst (v := (-1 : Int32)) C d_S_blamed_21 (by decide) ?_
      exact gw_ireti C d_S_blamed_22 (wc ad cI cZ cC) hf
    · have hf := (if_neg c).symm.trans hf
      refine gw_aload_n C 0 d_S_blamed_12 rfl rfl ?_
      refine gw_get C in_S 25 wcg_25 clg_1 3 (by decide) tw_212 rfl rfl d_S_blamed_13 ?_
      refine gw_iload_n C 1 d_S_blamed_16 rfl rfl ?_
      obtain ⟨hb17, hf⟩ := gd_some hf
      refine gw_iald C 28 0 wcg_28 rfl hb17 d_S_blamed_17 ?_
      refine gw_goto (tgt := 22) C d_S_blamed_18 (by decide) ?_
      exact gw_ireti C d_S_blamed_22 (wc ad cI cZ cC) hf
theorem c_S_blamed (hZ : gw_ZOK Z) {x1 : Int32} {M : Mem} {r : Int32} {M' : Mem} (hf : f_S_blamed x1 M = some (r, M')) : CW l y_S_blamed ws_S_blamed rm_S_blamed D vwCl (tysW cI cZ cC) Z [.ref (ad 25), .int x1] (wc ad cI cZ cC M) (some (.int r)) (wc ad cI cZ cC M') 0 0 :=
  CW.ofG hZ (by decide) rfl (Nat.le_of_ble_eq_true rfl) (fun _ _ _ _ _ _ _ _ C _ => g_S_blamed C hf)
abbrev b_S_release : ByteArray := prog_3_method_6_code
def y_S_release : MethodName := ⟨"NoneWords$Search", "release", "(I)I"⟩
abbrev ws_S_release : List Cond := Cond.code y_S_release b_S_release 4 (some (FieldType.int)) :: TB
set_option maxRecDepth 100000 in
theorem tc_S_release : Cond.code y_S_release b_S_release 4 (some (FieldType.int)) ∈ TB := inTB 674 rfl rfl
theorem mv_S_release : Cond.instanceMethod y_S_release ∈ TB ∧ Cond.selects "NoneWords$Search" y_S_release y_S_release ∈ TB ∧ Cond.initialized "NoneWords$Search" ∈ TB ∧ Cond.code y_S_release b_S_release 4 (some (FieldType.int)) ∈ TB := ⟨inTB 672 (by decide +kernel) (by decide +kernel), inTB 673 (by decide +kernel) (by decide +kernel), inTB 70 (by decide +kernel) (by decide +kernel), tc_S_release⟩
theorem pd_S_release : y_S_release.cls = "NoneWords$Search" ∧ y_S_release.cls ≠ "java/lang/invoke/MethodHandle" ∧ y_S_release.cls ≠ "java/lang/invoke/VarHandle" ∧ (parseMethodDescriptor y_S_release.desc).map (fun d => d.parameters.length) = some 1 := by decide +kernel
theorem d_S_release_0 : decode b_S_release 0 = .ok (.iload_n 1, 1) := by decide +kernel
theorem d_S_release_1 : decode b_S_release 1 = .ok (.ifCond .lt 10, 3) := by decide +kernel
theorem d_S_release_4 : decode b_S_release 4 = .ok (.aload_n 0, 1) := by decide +kernel
theorem d_S_release_5 : decode b_S_release 5 = .ok (.invokevirtual 60, 3) := by decide +kernel
theorem d_S_release_8 : decode b_S_release 8 = .ok (.ifCond .eq 5, 3) := by decide +kernel
theorem d_S_release_11 : decode b_S_release 11 = .ok (.iconst (-1), 1) := by decide +kernel
theorem d_S_release_12 : decode b_S_release 12 = .ok (.ireturn, 1) := by decide +kernel
theorem d_S_release_13 : decode b_S_release 13 = .ok (.iconst 0, 1) := by decide +kernel
theorem d_S_release_14 : decode b_S_release 14 = .ok (.istore_n 2, 1) := by decide +kernel
theorem d_S_release_15 : decode b_S_release 15 = .ok (.iconst 0, 1) := by decide +kernel
theorem d_S_release_16 : decode b_S_release 16 = .ok (.istore_n 3, 1) := by decide +kernel
theorem d_S_release_17 : decode b_S_release 17 = .ok (.iload_n 3, 1) := by decide +kernel
theorem d_S_release_18 : decode b_S_release 18 = .ok (.aload_n 0, 1) := by decide +kernel
theorem d_S_release_19 : decode b_S_release 19 = .ok (.getfield 28, 3) := by decide +kernel
theorem d_S_release_22 : decode b_S_release 22 = .ok (.invokevirtual 42, 3) := by decide +kernel
theorem d_S_release_25 : decode b_S_release 25 = .ok (.if_icmp .ge 50, 3) := by decide +kernel
theorem d_S_release_28 : decode b_S_release 28 = .ok (.aload_n 0, 1) := by decide +kernel
theorem d_S_release_29 : decode b_S_release 29 = .ok (.getfield 28, 3) := by decide +kernel
theorem d_S_release_32 : decode b_S_release 32 = .ok (.iload_n 3, 1) := by decide +kernel
theorem d_S_release_33 : decode b_S_release 33 = .ok (.invokevirtual 45, 3) := by decide +kernel
theorem d_S_release_36 : decode b_S_release 36 = .ok (.ifCond .eq 33, 3) := by decide +kernel
theorem d_S_release_39 : decode b_S_release 39 = .ok (.aload_n 0, 1) := by decide +kernel
theorem d_S_release_40 : decode b_S_release 40 = .ok (.getfield 28, 3) := by decide +kernel
theorem d_S_release_43 : decode b_S_release 43 = .ok (.iload_n 3, 1) := by decide +kernel
theorem d_S_release_44 : decode b_S_release 44 = .ok (.invokevirtual 64, 3) := by decide +kernel
theorem d_S_release_47 : decode b_S_release 47 = .ok (.iconst 1, 1) := by decide +kernel
theorem d_S_release_48 : decode b_S_release 48 = .ok (.if_icmp .eq 21, 3) := by decide +kernel
theorem d_S_release_51 : decode b_S_release 51 = .ok (.aload_n 0, 1) := by decide +kernel
theorem d_S_release_52 : decode b_S_release 52 = .ok (.iload_n 3, 1) := by decide +kernel
theorem d_S_release_53 : decode b_S_release 53 = .ok (.invokevirtual 74, 3) := by decide +kernel
theorem d_S_release_56 : decode b_S_release 56 = .ok (.ifCond .eq 13, 3) := by decide +kernel
theorem d_S_release_59 : decode b_S_release 59 = .ok (.iload_n 2, 1) := by decide +kernel
theorem d_S_release_60 : decode b_S_release 60 = .ok (.iload_n 1, 1) := by decide +kernel
theorem d_S_release_61 : decode b_S_release 61 = .ok (.if_icmp .ne 5, 3) := by decide +kernel
theorem d_S_release_64 : decode b_S_release 64 = .ok (.iload_n 3, 1) := by decide +kernel
theorem d_S_release_65 : decode b_S_release 65 = .ok (.ireturn, 1) := by decide +kernel
theorem d_S_release_66 : decode b_S_release 66 = .ok (.iinc 2 1, 3) := by decide +kernel
theorem d_S_release_69 : decode b_S_release 69 = .ok (.iinc 3 1, 3) := by decide +kernel
theorem d_S_release_72 : decode b_S_release 72 = .ok (.goto (-55), 3) := by decide +kernel
theorem d_S_release_75 : decode b_S_release 75 = .ok (.iconst (-1), 1) := by decide +kernel
theorem d_S_release_76 : decode b_S_release 76 = .ok (.ireturn, 1) := by decide +kernel
abbrev rm_S_release : Room := { frames := 11, cells := 0, slots := 0, locals := 278 }
def f_S_release_17 : Nat → Int32 → Int32 → Int32 → Mem → Option (Int32 × Mem)
  | 0, _, _, _, _ => none
  | n + 1, x1, x2, x3, M => ob (f_F_countNodes M) fun r22 M22 => if r22 ≤ x3 then some ((-1 : Int32), M22) else ob (f_F_isLeaf x3 M22) fun r33 M33 => if r33 = 0 then (f_S_release_17 n) x1 x2 (x3 + (1 : Int32)) M33 else ob (f_F_kindOf x3 M33) fun r44 M44 => if r44 = (1 : Int32) then (f_S_release_17 n) x1 x2 (x3 + (1 : Int32)) M44 else ob (f_S_findsWorldWithout x3 M44) fun r53 M53 => if r53 = 0 then (f_S_release_17 n) x1 x2 (x3 + (1 : Int32)) M53 else if x2 = x1 then some (x3, M53) else (f_S_release_17 n) x1 (x2 + (1 : Int32)) (x3 + (1 : Int32)) M53
set_option maxRecDepth 100000 in
theorem g_S_release_17 {r : Int32} {M' : Mem} (C : GC p s m args meth c b_S_release 4 (some (FieldType.int)) "NoneWords$Search" TB D vwCl (tysW cI cZ cC) A Z) : ∀ (n : Nat) (x1 : Int32) (x2 : Int32) (x3 : Int32) (M : Mem), f_S_release_17 n x1 x2 x3 M = some (r, M') → GW p l e rm_S_release s m args below meth c (MQ below (QW D vwCl (tysW cI cZ cC) A (some (.int r)) (wc ad cI cZ cC M')) args s 0 0 A) D vwCl A 4 0 0 (wc ad cI cZ cC M) 17 [(0, .ref (ad 25)), (1, .int x1), (2, .int x2), (3, .int x3)] [] := by
  intro n
  induction n with
  | zero => intro _ _ _ _ hf; cases hf
  | succ n ih =>
    intro x1 x2 x3 M hf
    rw [f_S_release_17] at hf
    refine gw_iload_n C 3 d_S_release_17 rfl rfl ?_
    refine gw_aload_n C 0 d_S_release_18 rfl rfl ?_
    refine gw_get C in_S 25 wcg_25 clg_1 0 (by decide) tw_209 rfl rfl d_S_release_19 ?_
    obtain ⟨r22, M22, hc22, hf⟩ := ob_some hf
    refine gw_callVr (rest := [.int x3]) C 1 wcg_1 clg_0 (c_F_countNodes C.2.2.2.2.2.2.2.2.2.2 hc22) (cwV 0 C.2.2.2.2.1 (gTB_V tw_623 mv_F_countNodes) rfl rfl rfl pd_F_countNodes ⟨Nat.le_of_ble_eq_true rfl, Nat.le_of_ble_eq_true rfl⟩) rfl rfl (Nat.le_of_ble_eq_true rfl) d_S_release_22 ⟨Nat.le_of_ble_eq_true rfl, Nat.le_of_ble_eq_true rfl⟩ ?_
    refine gw_icmp_ge (tgt := 75) C d_S_release_25 (by decide) (fun c => ?_) (fun c => ?_)
    · have hf := (if_pos c).symm.trans hf
      refine gw_iconst (v := (-1 : Int32)) C d_S_release_75 (by decide) ?_
      exact gw_ireti C d_S_release_76 (wc ad cI cZ cC) hf
    · have hf := (if_neg c).symm.trans hf
      refine gw_aload_n C 0 d_S_release_28 rfl rfl ?_
      refine gw_get C in_S 25 wcg_25 clg_1 0 (by decide) tw_209 rfl rfl d_S_release_29 ?_
      refine gw_iload_n C 3 d_S_release_32 rfl rfl ?_
      obtain ⟨r33, M33, hc33, hf⟩ := ob_some hf
      refine gw_callVr (rest := []) C 1 wcg_1 clg_0 (c_F_isLeaf C.2.2.2.2.2.2.2.2.2.2 hc33) (cwV 1 C.2.2.2.2.1 (gTB_V tw_627 mv_F_isLeaf) rfl rfl rfl pd_F_isLeaf ⟨Nat.le_of_ble_eq_true rfl, Nat.le_of_ble_eq_true rfl⟩) rfl rfl (Nat.le_of_ble_eq_true rfl) d_S_release_33 ⟨Nat.le_of_ble_eq_true rfl, Nat.le_of_ble_eq_true rfl⟩ ?_
      refine gw_if_eq (tgt := 69) C d_S_release_36 (by decide) (fun c => ?_) (fun c => ?_)
      · have hf := (if_pos c).symm.trans hf
        refine gw_iinc (v := x3 + (1 : Int32)) (lv' := [(3, .int (x3 + (1 : Int32))), (0, .ref (ad 25)), (1, .int x1), (2, .int x2)]) C 3 d_S_release_69 rfl rfl (by decide) rfl ?_
        refine gw_goto (tgt := 17) C d_S_release_72 (by decide) ?_
        exact gw_sub [1, 2, 3, 0] rfl (ih _ _ _ _ hf)
      · have hf := (if_neg c).symm.trans hf
        refine gw_aload_n C 0 d_S_release_39 rfl rfl ?_
        refine gw_get C in_S 25 wcg_25 clg_1 0 (by decide) tw_209 rfl rfl d_S_release_40 ?_
        refine gw_iload_n C 3 d_S_release_43 rfl rfl ?_
        obtain ⟨r44, M44, hc44, hf⟩ := ob_some hf
        refine gw_callVr (rest := []) C 1 wcg_1 clg_0 (c_F_kindOf C.2.2.2.2.2.2.2.2.2.2 hc44) (cwV 1 C.2.2.2.2.1 (gTB_V tw_650 mv_F_kindOf) rfl rfl rfl pd_F_kindOf ⟨Nat.le_of_ble_eq_true rfl, Nat.le_of_ble_eq_true rfl⟩) rfl rfl (Nat.le_of_ble_eq_true rfl) d_S_release_44 ⟨Nat.le_of_ble_eq_true rfl, Nat.le_of_ble_eq_true rfl⟩ ?_
        refine gw_iconst (v := (1 : Int32)) C d_S_release_47 (by decide) ?_
        refine gw_icmp_eq (tgt := 69) C d_S_release_48 (by decide) (fun c => ?_) (fun c => ?_)
        · have hf := (if_pos c).symm.trans hf
          refine gw_iinc (v := x3 + (1 : Int32)) (lv' := [(3, .int (x3 + (1 : Int32))), (0, .ref (ad 25)), (1, .int x1), (2, .int x2)]) C 3 d_S_release_69 rfl rfl (by decide) rfl ?_
          refine gw_goto (tgt := 17) C d_S_release_72 (by decide) ?_
          exact gw_sub [1, 2, 3, 0] rfl (ih _ _ _ _ hf)
        · have hf := (if_neg c).symm.trans hf
          refine gw_aload_n C 0 d_S_release_51 rfl rfl ?_
          refine gw_iload_n C 3 d_S_release_52 rfl rfl ?_
          obtain ⟨r53, M53, hc53, hf⟩ := ob_some hf
          refine gw_callVr (rest := []) C 25 wcg_25 clg_1 (c_S_findsWorldWithout C.2.2.2.2.2.2.2.2.2.2 hc53) (cwV 1 C.2.2.2.2.1 (gTB_V tw_675 mv_S_findsWorldWithout) rfl rfl rfl pd_S_findsWorldWithout ⟨Nat.le_of_ble_eq_true rfl, Nat.le_of_ble_eq_true rfl⟩) rfl rfl (Nat.le_of_ble_eq_true rfl) d_S_release_53 ⟨Nat.le_of_ble_eq_true rfl, Nat.le_of_ble_eq_true rfl⟩ ?_
          refine gw_if_eq (tgt := 69) C d_S_release_56 (by decide) (fun c => ?_) (fun c => ?_)
          · have hf := (if_pos c).symm.trans hf
            refine gw_iinc (v := x3 + (1 : Int32)) (lv' := [(3, .int (x3 + (1 : Int32))), (0, .ref (ad 25)), (1, .int x1), (2, .int x2)]) C 3 d_S_release_69 rfl rfl (by decide) rfl ?_
            refine gw_goto (tgt := 17) C d_S_release_72 (by decide) ?_
            exact gw_sub [1, 2, 3, 0] rfl (ih _ _ _ _ hf)
          · have hf := (if_neg c).symm.trans hf
            refine gw_iload_n C 2 d_S_release_59 rfl rfl ?_
            refine gw_iload_n C 1 d_S_release_60 rfl rfl ?_
            refine gw_icmp_ne (tgt := 66) C d_S_release_61 (by decide) (fun c => ?_) (fun c => ?_)
            · have hf := (if_neg c).symm.trans hf
              refine gw_iinc (v := x2 + (1 : Int32)) (lv' := [(2, .int (x2 + (1 : Int32))), (0, .ref (ad 25)), (1, .int x1), (3, .int x3)]) C 2 d_S_release_66 rfl rfl (by decide) rfl ?_
              refine gw_iinc (v := x3 + (1 : Int32)) (lv' := [(3, .int (x3 + (1 : Int32))), (2, .int (x2 + (1 : Int32))), (0, .ref (ad 25)), (1, .int x1)]) C 3 d_S_release_69 rfl rfl (by decide) rfl ?_
              refine gw_goto (tgt := 17) C d_S_release_72 (by decide) ?_
              exact gw_sub [2, 3, 1, 0] rfl (ih _ _ _ _ hf)
            · have hf := (if_pos c).symm.trans hf
              refine gw_iload_n C 3 d_S_release_64 rfl rfl ?_
              exact gw_ireti C d_S_release_65 (wc ad cI cZ cC) hf
def f_S_release (x1 : Int32) (M : Mem) : Option (Int32 × Mem) :=
  if x1 < 0 then some ((-1 : Int32), M) else ob (f_S_findsWorld M) fun r5 M5 => if r5 = 0 then f_S_release_17 100000 x1 (0 : Int32) (0 : Int32) M5 else some ((-1 : Int32), M5)
set_option maxRecDepth 100000 in
theorem g_S_release {r : Int32} {M' : Mem} (C : GC p s m args meth c b_S_release 4 (some (FieldType.int)) "NoneWords$Search" TB D vwCl (tysW cI cZ cC) A Z) {x1 : Int32} {M : Mem} (hf : f_S_release x1 M = some (r, M')) : GW p l e rm_S_release s m args below meth c (MQ below (QW D vwCl (tysW cI cZ cC) A (some (.int r)) (wc ad cI cZ cC M')) args s 0 0 A) D vwCl A 4 0 0 (wc ad cI cZ cC M) 0 [(0, .ref (ad 25)), (1, .int x1)] [] := by
  unfold f_S_release at hf
  refine gw_iload_n C 1 d_S_release_0 rfl rfl ?_
  refine gw_if_lt (tgt := 11) C d_S_release_1 (by decide) (fun c => ?_) (fun c => ?_)
  · have hf := (if_pos c).symm.trans hf
    refine gw_iconst (v := (-1 : Int32)) C d_S_release_11 (by decide) ?_
    exact gw_ireti C d_S_release_12 (wc ad cI cZ cC) hf
  · have hf := (if_neg c).symm.trans hf
    refine gw_aload_n C 0 d_S_release_4 rfl rfl ?_
    obtain ⟨r5, M5, hc5, hf⟩ := ob_some hf
    refine gw_callVr (rest := []) C 25 wcg_25 clg_1 (c_S_findsWorld C.2.2.2.2.2.2.2.2.2.2 hc5) (cwV 0 C.2.2.2.2.1 (gTB_V tw_649 mv_S_findsWorld) rfl rfl rfl pd_S_findsWorld ⟨Nat.le_of_ble_eq_true rfl, Nat.le_of_ble_eq_true rfl⟩) rfl rfl (Nat.le_of_ble_eq_true rfl) d_S_release_5 ⟨Nat.le_of_ble_eq_true rfl, Nat.le_of_ble_eq_true rfl⟩ ?_
    refine gw_if_eq (tgt := 13) C d_S_release_8 (by decide) (fun c => ?_) (fun c => ?_)
    · have hf := (if_pos c).symm.trans hf
      refine gw_iconst (v := (0 : Int32)) C d_S_release_13 (by decide) ?_
      refine gw_istore_n (lv' := [(2, .int (0 : Int32)), (0, .ref (ad 25)), (1, .int x1)]) C d_S_release_14 rfl (by decide) rfl ?_
      refine gw_iconst (v := (0 : Int32)) C d_S_release_15 (by decide) ?_
      refine gw_istore_n (lv' := [(3, .int (0 : Int32)), (2, .int (0 : Int32)), (0, .ref (ad 25)), (1, .int x1)]) C d_S_release_16 rfl (by decide) rfl ?_
      exact gw_sub [2, 3, 1, 0] rfl (g_S_release_17 C _ _ _ _ _ hf)
    · have hf := (if_neg c).symm.trans hf
      refine gw_iconst (v := (-1 : Int32)) C d_S_release_11 (by decide) ?_
      exact gw_ireti C d_S_release_12 (wc ad cI cZ cC) hf
theorem c_S_release (hZ : gw_ZOK Z) {x1 : Int32} {M : Mem} {r : Int32} {M' : Mem} (hf : f_S_release x1 M = some (r, M')) : CW l y_S_release ws_S_release rm_S_release D vwCl (tysW cI cZ cC) Z [.ref (ad 25), .int x1] (wc ad cI cZ cC M) (some (.int r)) (wc ad cI cZ cC M') 0 0 :=
  CW.ofG hZ (by decide) rfl (Nat.le_of_ble_eq_true rfl) (fun _ _ _ _ _ _ _ _ C _ => g_S_release C hf)
abbrev b_S_keep : ByteArray := prog_3_method_4_code
def y_S_keep : MethodName := ⟨"NoneWords$Search", "keep", "(I)V"⟩
abbrev ws_S_keep : List Cond := Cond.code y_S_keep b_S_keep 2 (none) :: TB
set_option maxRecDepth 100000 in
theorem tc_S_keep : Cond.code y_S_keep b_S_keep 2 (none) ∈ TB := inTB 654 rfl rfl
theorem mv_S_keep : Cond.instanceMethod y_S_keep ∈ TB ∧ Cond.selects "NoneWords$Search" y_S_keep y_S_keep ∈ TB ∧ Cond.initialized "NoneWords$Search" ∈ TB ∧ Cond.code y_S_keep b_S_keep 2 (none) ∈ TB := ⟨inTB 653 (by decide +kernel) (by decide +kernel), inTB 23 (by decide +kernel) (by decide +kernel), inTB 70 (by decide +kernel) (by decide +kernel), tc_S_keep⟩
theorem pd_S_keep : y_S_keep.cls = "NoneWords$Search" ∧ y_S_keep.cls ≠ "java/lang/invoke/MethodHandle" ∧ y_S_keep.cls ≠ "java/lang/invoke/VarHandle" ∧ (parseMethodDescriptor y_S_keep.desc).map (fun d => d.parameters.length) = some 1 := by decide +kernel
theorem d_S_keep_0 : decode b_S_keep 0 = .ok (.aload_n 0, 1) := by decide +kernel
theorem d_S_keep_1 : decode b_S_keep 1 = .ok (.getfield 24, 3) := by decide +kernel
theorem d_S_keep_4 : decode b_S_keep 4 = .ok (.bipush 120, 2) := by decide +kernel
theorem d_S_keep_6 : decode b_S_keep 6 = .ok (.if_icmp .ge 23, 3) := by decide +kernel
theorem d_S_keep_9 : decode b_S_keep 9 = .ok (.aload_n 0, 1) := by decide +kernel
theorem d_S_keep_10 : decode b_S_keep 10 = .ok (.getfield 21, 3) := by decide +kernel
theorem d_S_keep_13 : decode b_S_keep 13 = .ok (.aload_n 0, 1) := by decide +kernel
theorem d_S_keep_14 : decode b_S_keep 14 = .ok (.getfield 24, 3) := by decide +kernel
theorem d_S_keep_17 : decode b_S_keep 17 = .ok (.iload_n 1, 1) := by decide +kernel
theorem d_S_keep_18 : decode b_S_keep 18 = .ok (.iastore, 1) := by decide +kernel
theorem d_S_keep_19 : decode b_S_keep 19 = .ok (.aload_n 0, 1) := by decide +kernel
theorem d_S_keep_20 : decode b_S_keep 20 = .ok (.dup, 1) := by decide +kernel
theorem d_S_keep_21 : decode b_S_keep 21 = .ok (.getfield 24, 3) := by decide +kernel
theorem d_S_keep_24 : decode b_S_keep 24 = .ok (.iconst 1, 1) := by decide +kernel
theorem d_S_keep_25 : decode b_S_keep 25 = .ok (.iadd, 1) := by decide +kernel
theorem d_S_keep_26 : decode b_S_keep 26 = .ok (.putfield 24, 3) := by decide +kernel
theorem d_S_keep_29 : decode b_S_keep 29 = .ok (.return_, 1) := by decide +kernel
abbrev rm_S_keep : Room := { frames := 0, cells := 0, slots := 0, locals := 0 }
def f_S_keep (x1 : Int32) (M : Mem) : Option Mem :=
  if (120 : Int32) ≤ (M 25 4) then some M else gd (inb (M 25 4) 120) (some (ms (ms M 28 (M 25 4).toNatClampNeg x1) 25 4 (((ms M 28 (M 25 4).toNatClampNeg x1) 25 4) + (1 : Int32))))
set_option maxRecDepth 100000 in
theorem g_S_keep {M' : Mem} (C : GC p s m args meth c b_S_keep 2 (none) "NoneWords$Search" TB D vwCl (tysW cI cZ cC) A Z) {x1 : Int32} {M : Mem} (hf : f_S_keep x1 M = some M') : GW p l e rm_S_keep s m args below meth c (MQ below (QW D vwCl (tysW cI cZ cC) A none (wc ad cI cZ cC M')) args s 0 0 A) D vwCl A 2 0 0 (wc ad cI cZ cC M) 0 [(0, .ref (ad 25)), (1, .int x1)] [] := by
  unfold f_S_keep at hf
  refine gw_aload_n C 0 d_S_keep_0 rfl rfl ?_
  refine gw_get C in_S 25 wcg_25 clg_1 4 (by decide) tw_213 rfl rfl d_S_keep_1 ?_
  refine gw_bipush (v := (120 : Int32)) C d_S_keep_4 (by decide) ?_
  refine gw_icmp_ge (tgt := 29) C d_S_keep_6 (by decide) (fun c => ?_) (fun c => ?_)
  · have hf := (if_pos c).symm.trans hf
    exact gw_vreti C d_S_keep_29 (wc ad cI cZ cC) hf
  · have hf := (if_neg c).symm.trans hf
    refine gw_aload_n C 0 d_S_keep_9 rfl rfl ?_
    refine gw_get C in_S 25 wcg_25 clg_1 3 (by decide) tw_212 rfl rfl d_S_keep_10 ?_
    refine gw_aload_n C 0 d_S_keep_13 rfl rfl ?_
    refine gw_get C in_S 25 wcg_25 clg_1 4 (by decide) tw_213 rfl rfl d_S_keep_14 ?_
    refine gw_iload_n C 1 d_S_keep_17 rfl rfl ?_
    obtain ⟨hb18, hf⟩ := gd_some hf
    refine gw_iast C 28 0 wcg_28 rfl hb18 d_S_keep_18 wca_28 ?_
    refine gw_aload_n C 0 d_S_keep_19 rfl rfl ?_
    refine gw_dup C d_S_keep_20 rfl ?_
    refine gw_get C in_S 25 wcg_25 clg_1 4 (by decide) tw_213 rfl rfl d_S_keep_21 ?_
    refine gw_iconst (v := (1 : Int32)) C d_S_keep_24 (by decide) ?_
    refine gw_iadd C d_S_keep_25 ?_
    refine gw_put C in_S ty_S tk_S nm_S 25 wcg_25 clg_1 4 (by decide) tw_213 rfl rfl rfl rfl (Nat.le_of_ble_eq_true rfl) d_S_keep_26 wcf_25_4 ?_
    exact gw_vreti C d_S_keep_29 (wc ad cI cZ cC) hf
theorem c_S_keep (hZ : gw_ZOK Z) {x1 : Int32} {M : Mem} {M' : Mem} (hf : f_S_keep x1 M = some M') : CW l y_S_keep ws_S_keep rm_S_keep D vwCl (tysW cI cZ cC) Z [.ref (ad 25), .int x1] (wc ad cI cZ cC M) none (wc ad cI cZ cC M') 0 0 :=
  CW.ofG hZ (by decide) rfl (Nat.le_of_ble_eq_true rfl) (fun _ _ _ _ _ _ _ _ C _ => g_S_keep C hf)
abbrev b_S_keepBlamed : ByteArray := prog_3_method_3_code
def y_S_keepBlamed : MethodName := ⟨"NoneWords$Search", "keepBlamed", "()I"⟩
abbrev ws_S_keepBlamed : List Cond := Cond.code y_S_keepBlamed b_S_keepBlamed 2 (some (FieldType.int)) :: TB
set_option maxRecDepth 100000 in
theorem tc_S_keepBlamed : Cond.code y_S_keepBlamed b_S_keepBlamed 2 (some (FieldType.int)) ∈ TB := inTB 648 rfl rfl
theorem mv_S_keepBlamed : Cond.instanceMethod y_S_keepBlamed ∈ TB ∧ Cond.selects "NoneWords$Search" y_S_keepBlamed y_S_keepBlamed ∈ TB ∧ Cond.initialized "NoneWords$Search" ∈ TB ∧ Cond.code y_S_keepBlamed b_S_keepBlamed 2 (some (FieldType.int)) ∈ TB := ⟨inTB 646 (by decide +kernel) (by decide +kernel), inTB 647 (by decide +kernel) (by decide +kernel), inTB 70 (by decide +kernel) (by decide +kernel), tc_S_keepBlamed⟩
theorem pd_S_keepBlamed : y_S_keepBlamed.cls = "NoneWords$Search" ∧ y_S_keepBlamed.cls ≠ "java/lang/invoke/MethodHandle" ∧ y_S_keepBlamed.cls ≠ "java/lang/invoke/VarHandle" ∧ (parseMethodDescriptor y_S_keepBlamed.desc).map (fun d => d.parameters.length) = some 0 := by decide +kernel
theorem d_S_keepBlamed_0 : decode b_S_keepBlamed 0 = .ok (.aload_n 0, 1) := by decide +kernel
theorem d_S_keepBlamed_1 : decode b_S_keepBlamed 1 = .ok (.iconst 0, 1) := by decide +kernel
theorem d_S_keepBlamed_2 : decode b_S_keepBlamed 2 = .ok (.putfield 24, 3) := by decide +kernel
theorem d_S_keepBlamed_5 : decode b_S_keepBlamed 5 = .ok (.aload_n 0, 1) := by decide +kernel
theorem d_S_keepBlamed_6 : decode b_S_keepBlamed 6 = .ok (.invokevirtual 60, 3) := by decide +kernel
theorem d_S_keepBlamed_9 : decode b_S_keepBlamed 9 = .ok (.ifCond .eq 5, 3) := by decide +kernel
theorem d_S_keepBlamed_12 : decode b_S_keepBlamed 12 = .ok (.iconst 0, 1) := by decide +kernel
theorem d_S_keepBlamed_13 : decode b_S_keepBlamed 13 = .ok (.ireturn, 1) := by decide +kernel
theorem d_S_keepBlamed_14 : decode b_S_keepBlamed 14 = .ok (.iconst 0, 1) := by decide +kernel
theorem d_S_keepBlamed_15 : decode b_S_keepBlamed 15 = .ok (.istore_n 1, 1) := by decide +kernel
theorem d_S_keepBlamed_16 : decode b_S_keepBlamed 16 = .ok (.iload_n 1, 1) := by decide +kernel
theorem d_S_keepBlamed_17 : decode b_S_keepBlamed 17 = .ok (.aload_n 0, 1) := by decide +kernel
theorem d_S_keepBlamed_18 : decode b_S_keepBlamed 18 = .ok (.getfield 28, 3) := by decide +kernel
theorem d_S_keepBlamed_21 : decode b_S_keepBlamed 21 = .ok (.invokevirtual 42, 3) := by decide +kernel
theorem d_S_keepBlamed_24 : decode b_S_keepBlamed 24 = .ok (.if_icmp .ge 46, 3) := by decide +kernel
theorem d_S_keepBlamed_27 : decode b_S_keepBlamed 27 = .ok (.aload_n 0, 1) := by decide +kernel
theorem d_S_keepBlamed_28 : decode b_S_keepBlamed 28 = .ok (.getfield 28, 3) := by decide +kernel
theorem d_S_keepBlamed_31 : decode b_S_keepBlamed 31 = .ok (.iload_n 1, 1) := by decide +kernel
theorem d_S_keepBlamed_32 : decode b_S_keepBlamed 32 = .ok (.invokevirtual 64, 3) := by decide +kernel
theorem d_S_keepBlamed_35 : decode b_S_keepBlamed 35 = .ok (.ifCond .ne 29, 3) := by decide +kernel
theorem d_S_keepBlamed_38 : decode b_S_keepBlamed 38 = .ok (.aload_n 0, 1) := by decide +kernel
theorem d_S_keepBlamed_39 : decode b_S_keepBlamed 39 = .ok (.getfield 9, 3) := by decide +kernel
theorem d_S_keepBlamed_42 : decode b_S_keepBlamed 42 = .ok (.iload_n 1, 1) := by decide +kernel
theorem d_S_keepBlamed_43 : decode b_S_keepBlamed 43 = .ok (.iconst 1, 1) := by decide +kernel
theorem d_S_keepBlamed_44 : decode b_S_keepBlamed 44 = .ok (.bastore, 1) := by decide +kernel
theorem d_S_keepBlamed_45 : decode b_S_keepBlamed 45 = .ok (.aload_n 0, 1) := by decide +kernel
theorem d_S_keepBlamed_46 : decode b_S_keepBlamed 46 = .ok (.invokevirtual 60, 3) := by decide +kernel
theorem d_S_keepBlamed_49 : decode b_S_keepBlamed 49 = .ok (.ifCond .eq 15, 3) := by decide +kernel
theorem d_S_keepBlamed_52 : decode b_S_keepBlamed 52 = .ok (.aload_n 0, 1) := by decide +kernel
theorem d_S_keepBlamed_53 : decode b_S_keepBlamed 53 = .ok (.getfield 9, 3) := by decide +kernel
theorem d_S_keepBlamed_56 : decode b_S_keepBlamed 56 = .ok (.iload_n 1, 1) := by decide +kernel
theorem d_S_keepBlamed_57 : decode b_S_keepBlamed 57 = .ok (.iconst 0, 1) := by decide +kernel
theorem d_S_keepBlamed_58 : decode b_S_keepBlamed 58 = .ok (.bastore, 1) := by decide +kernel
theorem d_S_keepBlamed_59 : decode b_S_keepBlamed 59 = .ok (.aload_n 0, 1) := by decide +kernel
theorem d_S_keepBlamed_60 : decode b_S_keepBlamed 60 = .ok (.iload_n 1, 1) := by decide +kernel
theorem d_S_keepBlamed_61 : decode b_S_keepBlamed 61 = .ok (.invokevirtual 67, 3) := by decide +kernel
theorem d_S_keepBlamed_64 : decode b_S_keepBlamed 64 = .ok (.iinc 1 1, 3) := by decide +kernel
theorem d_S_keepBlamed_67 : decode b_S_keepBlamed 67 = .ok (.goto (-51), 3) := by decide +kernel
theorem d_S_keepBlamed_70 : decode b_S_keepBlamed 70 = .ok (.aload_n 0, 1) := by decide +kernel
theorem d_S_keepBlamed_71 : decode b_S_keepBlamed 71 = .ok (.invokevirtual 71, 3) := by decide +kernel
theorem d_S_keepBlamed_74 : decode b_S_keepBlamed 74 = .ok (.aload_n 0, 1) := by decide +kernel
theorem d_S_keepBlamed_75 : decode b_S_keepBlamed 75 = .ok (.getfield 24, 3) := by decide +kernel
theorem d_S_keepBlamed_78 : decode b_S_keepBlamed 78 = .ok (.ireturn, 1) := by decide +kernel
abbrev rm_S_keepBlamed : Room := { frames := 10, cells := 0, slots := 0, locals := 256 }
def f_S_keepBlamed_16 : Nat → Int32 → Mem → Option (Int32 × Mem)
  | 0, _, _ => none
  | n + 1, x1, M => ob (f_F_countNodes M) fun r21 M21 => if r21 ≤ x1 then om (f_S_takeAllBack M21) fun M71 => some (M71 25 4, M71) else ob (f_F_kindOf x1 M21) fun r32 M32 => if r32 = 0 then gd (inb x1 120) (ob (f_S_findsWorld (ms M32 26 x1.toNatClampNeg (vp_nar .boolean (1 : Int32)))) fun r46 M46 => if r46 = 0 then (f_S_keepBlamed_16 n) (x1 + (1 : Int32)) M46 else gd (inb x1 120) (om (f_S_keep x1 (ms M46 26 x1.toNatClampNeg (vp_nar .boolean (0 : Int32)))) fun M61 => (f_S_keepBlamed_16 n) (x1 + (1 : Int32)) M61)) else (f_S_keepBlamed_16 n) (x1 + (1 : Int32)) M32
set_option maxRecDepth 100000 in
theorem g_S_keepBlamed_16 {r : Int32} {M' : Mem} (C : GC p s m args meth c b_S_keepBlamed 2 (some (FieldType.int)) "NoneWords$Search" TB D vwCl (tysW cI cZ cC) A Z) : ∀ (n : Nat) (x1 : Int32) (M : Mem), f_S_keepBlamed_16 n x1 M = some (r, M') → GW p l e rm_S_keepBlamed s m args below meth c (MQ below (QW D vwCl (tysW cI cZ cC) A (some (.int r)) (wc ad cI cZ cC M')) args s 0 0 A) D vwCl A 2 0 0 (wc ad cI cZ cC M) 16 [(0, .ref (ad 25)), (1, .int x1)] [] := by
  intro n
  induction n with
  | zero => intro _ _ hf; cases hf
  | succ n ih =>
    intro x1 M hf
    rw [f_S_keepBlamed_16] at hf
    refine gw_iload_n C 1 d_S_keepBlamed_16 rfl rfl ?_
    refine gw_aload_n C 0 d_S_keepBlamed_17 rfl rfl ?_
    refine gw_get C in_S 25 wcg_25 clg_1 0 (by decide) tw_209 rfl rfl d_S_keepBlamed_18 ?_
    obtain ⟨r21, M21, hc21, hf⟩ := ob_some hf
    refine gw_callVr (rest := [.int x1]) C 1 wcg_1 clg_0 (c_F_countNodes C.2.2.2.2.2.2.2.2.2.2 hc21) (cwV 0 C.2.2.2.2.1 (gTB_V tw_623 mv_F_countNodes) rfl rfl rfl pd_F_countNodes ⟨Nat.le_of_ble_eq_true rfl, Nat.le_of_ble_eq_true rfl⟩) rfl rfl (Nat.le_of_ble_eq_true rfl) d_S_keepBlamed_21 ⟨Nat.le_of_ble_eq_true rfl, Nat.le_of_ble_eq_true rfl⟩ ?_
    refine gw_icmp_ge (tgt := 70) C d_S_keepBlamed_24 (by decide) (fun c => ?_) (fun c => ?_)
    · have hf := (if_pos c).symm.trans hf
      refine gw_aload_n C 0 d_S_keepBlamed_70 rfl rfl ?_
      obtain ⟨M71, hc71, hf⟩ := om_some hf
      refine gw_callVv (rest := []) C 25 wcg_25 clg_1 (c_S_takeAllBack C.2.2.2.2.2.2.2.2.2.2 hc71) (cwV 0 C.2.2.2.2.1 (gTB_V tw_655 mv_S_takeAllBack) rfl rfl rfl pd_S_takeAllBack ⟨Nat.le_of_ble_eq_true rfl, Nat.le_of_ble_eq_true rfl⟩) rfl rfl (Nat.le_of_ble_eq_true rfl) d_S_keepBlamed_71 ⟨Nat.le_of_ble_eq_true rfl, Nat.le_of_ble_eq_true rfl⟩ ?_
      refine gw_aload_n C 0 d_S_keepBlamed_74 rfl rfl ?_
      refine gw_get C in_S 25 wcg_25 clg_1 4 (by decide) tw_213 rfl rfl d_S_keepBlamed_75 ?_
      exact gw_ireti C d_S_keepBlamed_78 (wc ad cI cZ cC) hf
    · have hf := (if_neg c).symm.trans hf
      refine gw_aload_n C 0 d_S_keepBlamed_27 rfl rfl ?_
      refine gw_get C in_S 25 wcg_25 clg_1 0 (by decide) tw_209 rfl rfl d_S_keepBlamed_28 ?_
      refine gw_iload_n C 1 d_S_keepBlamed_31 rfl rfl ?_
      obtain ⟨r32, M32, hc32, hf⟩ := ob_some hf
      refine gw_callVr (rest := []) C 1 wcg_1 clg_0 (c_F_kindOf C.2.2.2.2.2.2.2.2.2.2 hc32) (cwV 1 C.2.2.2.2.1 (gTB_V tw_650 mv_F_kindOf) rfl rfl rfl pd_F_kindOf ⟨Nat.le_of_ble_eq_true rfl, Nat.le_of_ble_eq_true rfl⟩) rfl rfl (Nat.le_of_ble_eq_true rfl) d_S_keepBlamed_32 ⟨Nat.le_of_ble_eq_true rfl, Nat.le_of_ble_eq_true rfl⟩ ?_
      refine gw_if_ne (tgt := 64) C d_S_keepBlamed_35 (by decide) (fun c => ?_) (fun c => ?_)
      · have hf := (if_neg c).symm.trans hf
        refine gw_iinc (v := x1 + (1 : Int32)) (lv' := [(1, .int (x1 + (1 : Int32))), (0, .ref (ad 25))]) C 1 d_S_keepBlamed_64 rfl rfl (by decide) rfl ?_
        refine gw_goto (tgt := 16) C d_S_keepBlamed_67 (by decide) ?_
        exact gw_sub [1, 0] rfl (ih _ _ hf)
      · have hf := (if_pos c).symm.trans hf
        refine gw_aload_n C 0 d_S_keepBlamed_38 rfl rfl ?_
        refine gw_get C in_S 25 wcg_25 clg_1 1 (by decide) tw_210 rfl rfl d_S_keepBlamed_39 ?_
        refine gw_iload_n C 1 d_S_keepBlamed_42 rfl rfl ?_
        refine gw_iconst (v := (1 : Int32)) C d_S_keepBlamed_43 (by decide) ?_
        obtain ⟨hb44, hf⟩ := gd_some hf
        refine gw_zast C 26 1 wcg_26 rfl hb44 d_S_keepBlamed_44 wca_26 ?_
        refine gw_aload_n C 0 d_S_keepBlamed_45 rfl rfl ?_
        obtain ⟨r46, M46, hc46, hf⟩ := ob_some hf
        refine gw_callVr (rest := []) C 25 wcg_25 clg_1 (c_S_findsWorld C.2.2.2.2.2.2.2.2.2.2 hc46) (cwV 0 C.2.2.2.2.1 (gTB_V tw_649 mv_S_findsWorld) rfl rfl rfl pd_S_findsWorld ⟨Nat.le_of_ble_eq_true rfl, Nat.le_of_ble_eq_true rfl⟩) rfl rfl (Nat.le_of_ble_eq_true rfl) d_S_keepBlamed_46 ⟨Nat.le_of_ble_eq_true rfl, Nat.le_of_ble_eq_true rfl⟩ ?_
        refine gw_if_eq (tgt := 64) C d_S_keepBlamed_49 (by decide) (fun c => ?_) (fun c => ?_)
        · have hf := (if_pos c).symm.trans hf
          refine gw_iinc (v := x1 + (1 : Int32)) (lv' := [(1, .int (x1 + (1 : Int32))), (0, .ref (ad 25))]) C 1 d_S_keepBlamed_64 rfl rfl (by decide) rfl ?_
          refine gw_goto (tgt := 16) C d_S_keepBlamed_67 (by decide) ?_
          exact gw_sub [1, 0] rfl (ih _ _ hf)
        · have hf := (if_neg c).symm.trans hf
          refine gw_aload_n C 0 d_S_keepBlamed_52 rfl rfl ?_
          refine gw_get C in_S 25 wcg_25 clg_1 1 (by decide) tw_210 rfl rfl d_S_keepBlamed_53 ?_
          refine gw_iload_n C 1 d_S_keepBlamed_56 rfl rfl ?_
          refine gw_iconst (v := (0 : Int32)) C d_S_keepBlamed_57 (by decide) ?_
          obtain ⟨hb58, hf⟩ := gd_some hf
          refine gw_zast C 26 1 wcg_26 rfl hb58 d_S_keepBlamed_58 wca_26 ?_
          refine gw_aload_n C 0 d_S_keepBlamed_59 rfl rfl ?_
          refine gw_iload_n C 1 d_S_keepBlamed_60 rfl rfl ?_
          obtain ⟨M61, hc61, hf⟩ := om_some hf
          refine gw_callVv (rest := []) C 25 wcg_25 clg_1 (c_S_keep C.2.2.2.2.2.2.2.2.2.2 hc61) (cwV 1 C.2.2.2.2.1 (gTB_V tw_651 mv_S_keep) rfl rfl rfl pd_S_keep ⟨Nat.le_of_ble_eq_true rfl, Nat.le_of_ble_eq_true rfl⟩) rfl rfl (Nat.le_of_ble_eq_true rfl) d_S_keepBlamed_61 ⟨Nat.le_of_ble_eq_true rfl, Nat.le_of_ble_eq_true rfl⟩ ?_
          refine gw_iinc (v := x1 + (1 : Int32)) (lv' := [(1, .int (x1 + (1 : Int32))), (0, .ref (ad 25))]) C 1 d_S_keepBlamed_64 rfl rfl (by decide) rfl ?_
          refine gw_goto (tgt := 16) C d_S_keepBlamed_67 (by decide) ?_
          exact gw_sub [1, 0] rfl (ih _ _ hf)
def f_S_keepBlamed (M : Mem) : Option (Int32 × Mem) :=
  ob (f_S_findsWorld (ms M 25 4 (0 : Int32))) fun r6 M6 => if r6 = 0 then f_S_keepBlamed_16 100000 (0 : Int32) M6 else some ((0 : Int32), M6)
set_option maxRecDepth 100000 in
theorem g_S_keepBlamed {r : Int32} {M' : Mem} (C : GC p s m args meth c b_S_keepBlamed 2 (some (FieldType.int)) "NoneWords$Search" TB D vwCl (tysW cI cZ cC) A Z) {M : Mem} (hf : f_S_keepBlamed M = some (r, M')) : GW p l e rm_S_keepBlamed s m args below meth c (MQ below (QW D vwCl (tysW cI cZ cC) A (some (.int r)) (wc ad cI cZ cC M')) args s 0 0 A) D vwCl A 2 0 0 (wc ad cI cZ cC M) 0 [(0, .ref (ad 25))] [] := by
  unfold f_S_keepBlamed at hf
  refine gw_aload_n C 0 d_S_keepBlamed_0 rfl rfl ?_
  refine gw_iconst (v := (0 : Int32)) C d_S_keepBlamed_1 (by decide) ?_
  refine gw_put C in_S ty_S tk_S nm_S 25 wcg_25 clg_1 4 (by decide) tw_213 rfl rfl rfl rfl (Nat.le_of_ble_eq_true rfl) d_S_keepBlamed_2 wcf_25_4 ?_
  refine gw_aload_n C 0 d_S_keepBlamed_5 rfl rfl ?_
  obtain ⟨r6, M6, hc6, hf⟩ := ob_some hf
  refine gw_callVr (rest := []) C 25 wcg_25 clg_1 (c_S_findsWorld C.2.2.2.2.2.2.2.2.2.2 hc6) (cwV 0 C.2.2.2.2.1 (gTB_V tw_649 mv_S_findsWorld) rfl rfl rfl pd_S_findsWorld ⟨Nat.le_of_ble_eq_true rfl, Nat.le_of_ble_eq_true rfl⟩) rfl rfl (Nat.le_of_ble_eq_true rfl) d_S_keepBlamed_6 ⟨Nat.le_of_ble_eq_true rfl, Nat.le_of_ble_eq_true rfl⟩ ?_
  refine gw_if_eq (tgt := 14) C d_S_keepBlamed_9 (by decide) (fun c => ?_) (fun c => ?_)
  · have hf := (if_pos c).symm.trans hf
    refine gw_iconst (v := (0 : Int32)) C d_S_keepBlamed_14 (by decide) ?_
    refine gw_istore_n (lv' := [(1, .int (0 : Int32)), (0, .ref (ad 25))]) C d_S_keepBlamed_15 rfl (by decide) rfl ?_
    exact gw_sub [1, 0] rfl (g_S_keepBlamed_16 C _ _ _ hf)
  · have hf := (if_neg c).symm.trans hf
    refine gw_iconst (v := (0 : Int32)) C d_S_keepBlamed_12 (by decide) ?_
    exact gw_ireti C d_S_keepBlamed_13 (wc ad cI cZ cC) hf
theorem c_S_keepBlamed (hZ : gw_ZOK Z) {M : Mem} {r : Int32} {M' : Mem} (hf : f_S_keepBlamed M = some (r, M')) : CW l y_S_keepBlamed ws_S_keepBlamed rm_S_keepBlamed D vwCl (tysW cI cZ cC) Z [.ref (ad 25)] (wc ad cI cZ cC M) (some (.int r)) (wc ad cI cZ cC M') 0 0 :=
  CW.ofG hZ (by decide) rfl (Nat.le_of_ble_eq_true rfl) (fun _ _ _ _ _ _ _ _ C _ => g_S_keepBlamed C hf)
end SEARCH
