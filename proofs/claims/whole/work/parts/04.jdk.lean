abbrev b_A_fill : ByteArray := prog_11_method_103_code
def y_A_fill : MethodName := ⟨"java/util/Arrays", "fill", "([II)V"⟩
abbrev ws_A_fill : List Cond := Cond.code y_A_fill b_A_fill 4 (none) :: TB
set_option maxRecDepth 100000 in
theorem tc_A_fill : Cond.code y_A_fill b_A_fill 4 (none) ∈ TB := inTB 92 rfl rfl
theorem mv_A_fill : Cond.static y_A_fill ∈ TB ∧ Cond.initialized "java/util/Arrays" ∈ TB ∧ Cond.code y_A_fill b_A_fill 4 (none) ∈ TB := ⟨inTB 91 (by decide +kernel) (by decide +kernel), inTB 67 (by decide +kernel) (by decide +kernel), tc_A_fill⟩
theorem pd_A_fill : y_A_fill.cls = "java/util/Arrays" ∧ y_A_fill.cls ≠ "java/lang/invoke/MethodHandle" ∧ y_A_fill.cls ≠ "java/lang/invoke/VarHandle" ∧ (parseMethodDescriptor y_A_fill.desc).map (fun d => d.parameters.length) = some 2 := by decide +kernel
theorem d_A_fill_0 : decode b_A_fill 0 = .ok (.iconst 0, 1) := by decide +kernel
theorem d_A_fill_1 : decode b_A_fill 1 = .ok (.istore_n 2, 1) := by decide +kernel
theorem d_A_fill_2 : decode b_A_fill 2 = .ok (.aload_n 0, 1) := by decide +kernel
theorem d_A_fill_3 : decode b_A_fill 3 = .ok (.arraylength, 1) := by decide +kernel
theorem d_A_fill_4 : decode b_A_fill 4 = .ok (.istore_n 3, 1) := by decide +kernel
theorem d_A_fill_5 : decode b_A_fill 5 = .ok (.iload_n 2, 1) := by decide +kernel
theorem d_A_fill_6 : decode b_A_fill 6 = .ok (.iload_n 3, 1) := by decide +kernel
theorem d_A_fill_7 : decode b_A_fill 7 = .ok (.if_icmp .ge 13, 3) := by decide +kernel
theorem d_A_fill_10 : decode b_A_fill 10 = .ok (.aload_n 0, 1) := by decide +kernel
theorem d_A_fill_11 : decode b_A_fill 11 = .ok (.iload_n 2, 1) := by decide +kernel
theorem d_A_fill_12 : decode b_A_fill 12 = .ok (.iload_n 1, 1) := by decide +kernel
theorem d_A_fill_13 : decode b_A_fill 13 = .ok (.iastore, 1) := by decide +kernel
theorem d_A_fill_14 : decode b_A_fill 14 = .ok (.iinc 2 1, 3) := by decide +kernel
theorem d_A_fill_17 : decode b_A_fill 17 = .ok (.goto (-12), 3) := by decide +kernel
theorem d_A_fill_20 : decode b_A_fill 20 = .ok (.return_, 1) := by decide +kernel
abbrev rm_A_fill : Room := { frames := 0, cells := 0, slots := 0, locals := 0 }
/-! Arrays.fill over any world -/
def mf (M : Mem) (q n : Nat) (x : Int32) : Mem := fun q2 => if q2 = q then (fun j => if j < n then x else M q j) else M q2
section FILL
variable {l : Launch} {D : va_G} {cl : List vw_C} {tys : List (ClassId × FieldType)} {Z : gw_Z}
set_option maxRecDepth 100000 in
theorem g_A_fill_5 {p : Program} {e : Env} {s : State} {m : MethodId} {args : Array Value} {below : List Frame} {meth : Method} {c : Code} {A : Nat → Prop} {a q n t0 : Nat} {cA : ClassId} {x : Int32}
    (C : GC p s m args meth c b_A_fill 4 none "java/util/Arrays" TB D cl tys A Z) (ht : tys[t0]? = some (cA, .int)) (hn : n < 2 ^ 31) (f0 : Nat → Int32) :
    ∀ (k i : Nat) (f : Nat → Int32) (w : va_W), i + k = n → (∀ j, f j = if j < i then x else f0 j) → w[q]? = some (a, .inl (cA, n, .inl f)) → GW p l e rm_A_fill s m args below meth c (MQ below (QW D cl tys A none (w.set q (a, .inl (cA, n, .inl (fun j => if j < n then x else f0 j))))) args s 0 0 A) D cl A 4 0 0 w 5 [(0, .ref a), (1, .int x), (2, .int (nI i)), (3, .int (nI n))] [] := by
  intro k
  induction k with
  | zero =>
    intro i f w hi hf hw
    have hin : i = n := by omega
    subst hin
    refine gw_iload_n C 2 d_A_fill_5 rfl rfl ?_
    refine gw_iload_n C 3 d_A_fill_6 rfl rfl ?_
    refine gw_icmp_ge (tgt := 20) C d_A_fill_7 (by decide) (fun _ => ?_) (fun c => absurd (nI_le (Nat.le_refl i) hn) c)
    have e1 : w.set q (a, .inl (cA, i, .inl (fun j => if j < i then x else f0 j))) = w := by
      have : f = fun j => if j < i then x else f0 j := funext hf
      rw [← this]
      apply List.ext_getElem?
      intro j
      by_cases hj : j = q
      · subst hj
        rw [List.getElem?_set_self (List.getElem?_eq_some_iff.mp hw).1, hw]
      · rw [List.getElem?_set_ne (Ne.symm hj)]
    rw [e1]
    exact gw_vret C d_A_fill_20
  | succ k ih =>
    intro i f w hi hf hw
    refine gw_iload_n C 2 d_A_fill_5 rfl rfl ?_
    refine gw_iload_n C 3 d_A_fill_6 rfl rfl ?_
    refine gw_icmp_ge (tgt := 20) C d_A_fill_7 (by decide) (fun c => absurd c (nI_ge (by omega) hn)) (fun _ => ?_)
    refine gw_aload_n C 0 d_A_fill_10 rfl rfl ?_
    refine gw_iload_n C 2 d_A_fill_11 rfl rfl ?_
    refine gw_iload_n C 1 d_A_fill_12 rfl rfl ?_
    refine gw_iast C q t0 hw ht (vp_in_nI (by omega) hn) d_A_fill_13 rfl ?_
    refine gw_iinc (v := nI (i + 1)) (lv' := [(2, .int (nI (i + 1))), (0, .ref a), (1, .int x), (3, .int (nI n))]) C 2 d_A_fill_14 rfl (nI_1 i) (by decide) rfl ?_
    refine gw_goto (tgt := 5) C d_A_fill_17 (by decide) ?_
    refine gw_sub [1, 2, 0, 3] rfl ?_
    have hl := (List.getElem?_eq_some_iff.mp hw).1
    have h := ih (i + 1) (upd f (nI i).toNatClampNeg x) (w.set q (a, .inl (cA, n, .inl (upd f (nI i).toNatClampNeg x)))) (by omega) (fun j => by
      rw [nI_clamp (by omega)]
      unfold upd
      by_cases hj : j = i
      · subst hj; simp
      · rw [if_neg hj, hf j]
        by_cases h2 : j < i
        · rw [if_pos h2, if_pos (by omega)]
        · rw [if_neg h2, if_neg (by omega)]) (by rw [List.getElem?_set_self hl])
    rw [List.set_set] at h
    exact h
theorem c_A_fill (hZ : gw_ZOK Z) {w w' : va_W} {a n : Nat} {cA : ClassId} {f : Nat → Int32} {x : Int32} (q t0 : Nat) (hw : w[q]? = some (a, .inl (cA, n, .inl f))) (ht : tys[t0]? = some (cA, .int)) (hn : n < 2 ^ 31) (hw' : w.set q (a, .inl (cA, n, .inl (fun j => if j < n then x else f j))) = w') :
    CW l y_A_fill ws_A_fill rm_A_fill D cl tys Z [.ref a, .int x] w none w' 0 0 := by
  subst hw'
  refine CW.ofG hZ (by decide) rfl (Nat.le_of_ble_eq_true rfl) (fun p e s m below meth c A C _ => ?_)
  refine gw_iconst (v := 0) C d_A_fill_0 (by decide) ?_
  refine gw_istore_n (lv' := [(2, .int 0), (0, .ref a), (1, .int x)]) C d_A_fill_1 rfl (by decide) rfl ?_
  refine gw_aload_n C 1 d_A_fill_2 rfl rfl ?_
  refine gw_alen C q t0 hw ht rfl d_A_fill_3 ?_
  refine gw_istore_n (lv' := [(3, .int (nI n)), (2, .int 0), (0, .ref a), (1, .int x)]) C d_A_fill_4 rfl (by decide) rfl ?_
  refine gw_sub (lv' := [(0, .ref a), (1, .int x), (2, .int (nI 0)), (3, .int (nI n))]) [2, 3, 1, 0] rfl ?_
  exact g_A_fill_5 C ht hn f n 0 f w (by omega) (fun j => by simp) hw
end FILL
theorem gTB_vS {own : String} {idx : Nat} {y : MethodName} {b : ByteArray} {n : Nat} {r : Option FieldType} {C : String} (hC : y.cls = C) (h1 : Cond.methodLink own idx y ∈ TB) (h : Cond.static y ∈ TB ∧ Cond.initialized C ∈ TB ∧ Cond.code y b n r ∈ TB) : GoodIn TB (va_wsS own idx y (Cond.code y b n r :: TB)) := by
  subst hC
  intro w hw
  rcases List.mem_append.mp hw with hw | hw
  · simp only [List.mem_cons, List.not_mem_nil, or_false] at hw
    rcases hw with rfl | rfl | rfl
    · exact TB_good _ h1
    · exact TB_good _ h.1
    · exact TB_good _ h.2.1
  · exact gTB_c h.2.2 w hw
