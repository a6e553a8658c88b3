/-! worlds side by side; constructors -/
theorem vaP_split {D : va_G} {cl : List vw_C} {a b : va_W} {H : Heap} (h : va_P D cl (a ++ b) H) : va_P D cl a H ∧ va_P D cl b H :=
  ⟨fun k q hk => h k q (by rw [List.getElem?_append_left (List.getElem?_eq_some_iff.mp hk).1]; exact hk), fun k q hk => h (a.length + k) q (by rw [List.getElem?_append_right (by omega)]; rw [show a.length + k - a.length = k by omega]; exact hk)⟩
theorem vaD_split {A : Nat → Prop} {a b : va_W} (h : va_D A (a ++ b)) : va_D A a ∧ va_D A b ∧ ∀ (i j : Nat) (p q : Nat × va_E), a[i]? = some p → b[j]? = some q → p.1 ≠ q.1 := by
  have hl : ∀ (k : Nat) (q : Nat × va_E), a[k]? = some q → (a ++ b)[k]? = some q := fun k q hk => by rw [List.getElem?_append_left (List.getElem?_eq_some_iff.mp hk).1]; exact hk
  have hr : ∀ (k : Nat) (q : Nat × va_E), b[k]? = some q → (a ++ b)[a.length + k]? = some q := fun k q hk => by rw [List.getElem?_append_right (by omega)]; rw [show a.length + k - a.length = k by omega]; exact hk
  refine ⟨⟨fun i j p q hi hj he => h.1 i j p q (hl i p hi) (hl j q hj) he, fun k q hk => h.2 k q (hl k q hk)⟩, ⟨fun i j p q hi hj he => ?_, fun k q hk => h.2 _ q (hr k q hk)⟩, fun i j p q hi hj he => ?_⟩
  · have := h.1 _ _ p q (hr i p hi) (hr j q hj) he
    omega
  · have := h.1 _ _ p q (hl i p hi) (hr j q hj) he
    have := (List.getElem?_eq_some_iff.mp hi).1
    omega
/-- behind a call: the parts that the callee had not -/
theorem va_3 {D : va_G} {cl : List vw_C} {A : Nat → Prop} {wl wc wr w' : va_W} {H H1 : Heap} (hP : va_P D cl (wl ++ wc ++ wr) H) (hD : va_D A (wl ++ wc ++ wr)) (hk : ∀ q : Nat, q < H.size → ¬ va_A wc H.size q → H1[q]? = H[q]?) (hF : ∀ q, va_A wc H.size q → A q) (hP1 : va_P D cl w' H1) (hD1 : va_D (va_A wc H.size) w') :
    va_P D cl (wl ++ w' ++ wr) H1 ∧ va_D A (wl ++ w' ++ wr) := by
  obtain ⟨hP2, hPr⟩ := vaP_split hP
  obtain ⟨hPl, hPc⟩ := vaP_split hP2
  obtain ⟨hD2, hDr, hx2⟩ := vaD_split hD
  obtain ⟨hDl, hDc, hx1⟩ := vaD_split hD2
  have hcr : ∀ (i j : Nat) (p q : Nat × va_E), wc[i]? = some p → wr[j]? = some q → p.1 ≠ q.1 := fun i j p q hi hj => hx2 (wl.length + i) j p q (by rw [List.getElem?_append_right (by omega)]; rw [show wl.length + i - wl.length = i by omega]; exact hi) hj
  have hlr : ∀ (i j : Nat) (p q : Nat × va_E), wl[i]? = some p → wr[j]? = some q → p.1 ≠ q.1 := fun i j p q hi hj => hx2 i j p q (by rw [List.getElem?_append_left (List.getElem?_eq_some_iff.mp hi).1]; exact hi) hj
  have out1 : ∀ (k : Nat) (q : Nat × va_E), wl[k]? = some q → ¬ va_A wc H.size q.1 := by
    intro k q hq h
    rcases h with ⟨j, e, h⟩ | h
    · exact hx1 k j q (q.1, e) hq h rfl
    · exact absurd (hPl k q hq).lt (by omega)
  have out2 : ∀ (k : Nat) (q : Nat × va_E), wr[k]? = some q → ¬ va_A wc H.size q.1 := by
    intro k q hq h
    rcases h with ⟨j, e, h⟩ | h
    · exact hcr j k (q.1, e) q h hq rfl
    · exact absurd (hPr k q hq).lt (by omega)
  have P1 : va_P D cl (wl ++ w') H1 := va_P.app (fun k q hq => (hPl k q hq).kept (hk q.1 (hPl k q hq).lt (out1 k q hq))) hP1
  have D1 : va_D A (wl ++ w') := va_D.app hDl (hD1.weaken (fun k q _ h => hF q.1 h)) (fun i j p q hp hq he => out1 i p hp (by rw [he]; exact hD1.2 j q hq))
  refine ⟨va_P.app P1 (fun k q hq => (hPr k q hq).kept (hk q.1 (hPr k q hq).lt (out2 k q hq))), va_D.app D1 hDr (fun i j p q hp hq he => ?_)⟩
  by_cases hi : i < wl.length
  · rw [List.getElem?_append_left hi] at hp
    exact hlr i j p q hp hq he
  · rw [List.getElem?_append_right (by omega)] at hp
    exact out2 j q hq (by rw [← he]; exact hD1.2 _ p hp)
def QX (D : va_G) (cl : List vw_C) (tys : List (ClassId × FieldType)) (A : Nat → Prop) (P : va_W → Prop) : Array Value → State → Outcome → State → Prop := fun _ st o t =>
  o = .returned none ∧ (∃ wf, P wf ∧ va_P D cl wf t.heap ∧ va_D A wf) ∧ va_K D cl tys t ∧ va_F A st t
def CX (l : Launch) (y : MethodName) (ws : List Cond) (rm : Room) (D : va_G) (cl : List vw_C) (tys : List (ClassId × FieldType)) (Z : gw_Z) (av : List Value) (w : va_W) (P : va_W → Prop) (mc ms : Nat) : Prop :=
  ∀ sz : Nat, Met l y ws rm (va_Pc av (fun U => U.heap.size = sz ∧ va_P D cl w U.heap ∧ va_K D cl tys U ∧ va_D (fun _ => True) w ∧ Z (va_A w sz) U U.heap)) (QX D cl tys (va_A w sz) P) mc ms (va_A w sz)
theorem CX.ofG {l : Launch} {y : MethodName} {ws ws' : List Cond} {rm : Room} {D : va_G} {cl : List vw_C} {tys : List (ClassId × FieldType)} {av : List Value} {w : va_W} {P : va_W → Prop} {mc ms : Nat} {cc : ByteArray} {nL : Nat} {ret : Option FieldType} {Z : gw_Z} (hZ : gw_ZOK Z)
    (hy : plainName y.cls = true) (hw : ws = Cond.code y cc nL ret :: ws') (hlen : (lg_sl av).length ≤ nL)
    (body : ∀ (p : Program) (e : Env) (s : State) (m : MethodId) (below : List Frame) (meth : Method) (c : Code) (A : Nat → Prop), GC p s m av.toArray meth c cc nL ret y.cls ws' D cl tys A Z → meth.name = y.name → GW p l e rm s m av.toArray below meth c (MQ below (QX D cl tys A P) av.toArray s mc ms A) D cl A nL 0 0 w 0 (lv_args 0 av) []) : CX l y ws rm D cl tys Z av w P mc ms := by
  intro sz
  refine Met.ofW (cc := cc) (maxL := nL) (ret := ret) hy hw ?_
  intro p e s m args below meth c s₁ B hml hv
  obtain ⟨rfl, hsz, hP, hK, hD0, hz⟩ := hv
  subst hsz
  have hts := atoms_spec (ws := ws) B.pre
  have hown : s.vm.findClass y.cls = some m.cls := findClass_of_methodNamed B.named
  have hl := lv_entry av (n := nL) hlen
  rw [lg_entry_eq]
  exact body p e s m below meth c (va_A w s.heap.size) ⟨B.exec, B.bytes, hml, hown, fun z h => hts z (by rw [hw]; exact List.mem_cons_of_mem _ h), hK, B.notSynchronized, B.returns, fun q h => Or.inr h, hz, hZ⟩ (name_of_methodNamed B.named B.method).1 s.heap [] _ hP hD0.self va_S.rf hl
section GWX
variable {p : Program} {l : Launch} {e : Env} {R : Room} {s : State} {m : MethodId} {args : Array Value} {below : List Frame} {meth : Method} {c : Code} {Q : State → Prop} {D : va_G} {cl : List vw_C} {tys : List (ClassId × FieldType)} {A : Nat → Prop} {nL cells slots : Nat} {w : va_W} {pc : Nat} {lv lv' : List (Nat × Value)} {st : List Value} {cc : ByteArray} {ret : Option FieldType} {own : String} {Ts : List Cond} {Z : gw_Z}
theorem gw_vretX (C : GC p s m args meth c cc nL none own Ts D cl tys A Z) {P : va_W → Prop} (hp : P w) (hd : decode cc pc = .ok (.return_, 1)) : GW p l e R s m args below meth c (MQ below (QX D cl tys A P) args s cells slots A) D cl A nL cells slots w pc lv [] :=
  fun _ _ _ hP hD hS _ => W.vret C.1 C.2.1 C.2.2.2.2.2.2.2.1 (fun t ht hW => ⟨rfl, ⟨w, hp, by rw [ht]; exact hP, hD⟩, va_K.moved hW.alike C.2.2.2.2.2.1, hS.F ht⟩) hS.2.2 hd C.2.2.2.2.2.2.1
theorem gw_objInit (C : GC p s m args meth c cc nL ret own Ts D cl tys A Z) {idx a : Nat} (hlink : Cond.methodLink own idx Lib.objectInit ∈ Ts) (hinst : Cond.instanceMethod Lib.objectInit ∈ Ts) (hcode : Cond.code Lib.objectInit ⟨#[0xb1]⟩ 1 none ∈ Ts) (hd : decode cc pc = .ok (.invokespecial idx, 3)) (hframes : 1 ≤ R.frames) (hlocals : (st.map fun v => v.category).sum + 12 ≤ R.locals)
    (k : GW p l e R s m args below meth c Q D cl A nL cells slots w (pc + 3) lv st) : GW p l e R s m args below meth c Q D cl A nL cells slots w pc lv (.ref a :: st) :=
  fun H locs ls hP hD hS hl => W.objInit (g := F0 m pc ls (.ref a :: st)) C.1 C.2.1 C.2.2.2.1 (C.2.2.2.2.1 _ hlink) (C.2.2.2.2.1 _ hinst) (C.2.2.2.2.1 _ hcode) rfl (by rw [C.2.2.1]; exact hl.1) rfl hd hframes (by show 2 * 0 + _ + 12 ≤ _; omega) (k H locs ls hP hD hS hl)
theorem gw_newa (C : GC p s m args meth c cc nL ret own Ts D cl tys A Z) {atype : ArrayType} {ty : FieldType} (hty : newarray.typeOf atype = ty) (harr : Cond.arrayClass ty ∈ Ts) (t0 : Nat) {cA : ClassId} (ht : tys[t0]? = some (cA, ty)) (hnm : ∀ (U : State) (x : ClassId), va_RA U x ty → U.vm.findClass ("[" ++ ty.toString) = some x)
    {n : Int32} {N : Nat} (hdef : defaultValue ty = .int 0) (hn : ¬ n < 0) (hN : n.toNatClampNeg = N) (hbytes : N * componentBytes ty ≤ 536870912) (hcells : cells + 1 ≤ R.cells) (hslots : slots + N ≤ R.slots) (hd : decode cc pc = .ok (.newarray atype, 2))
    (k : ∀ q : Nat, GW p l e R s m args below meth c Q D cl A nL (cells + 1) (slots + N) (w ++ [(q, .inl (cA, N, .inl (fun _ => 0)))]) (pc + 2) lv (.ref q :: st)) : GW p l e R s m args below meth c Q D cl A nL cells slots w pc lv (.int n :: st) := by
  intro H locs ls hP hD hS hl
  refine va_newa (a0 := (N, .inl (fun _ => 0))) C.1 C.2.1 (by rw [hty]; exact C.2.2.2.2.1 _ harr) hty C.2.2.2.2.2.1 hP hD hS C.2.2.2.2.2.2.2.2.1 (fun cA => by rw [vp_cell_i, hdef]) hn hN hbytes hcells hslots hd (fun q cA2 H1 hK1 hP1 hD1 hS1 => ?_)
  have e1 := hnm s cA (C.2.2.2.2.2.1.2 t0 _ ht).2
  have e2 := hnm s cA2 (hK1.2 tys.length (cA2, ty) (by rw [List.getElem?_append_right (Nat.le_refl _)]; simp)).2
  have e3 : cA2 = cA := Option.some.inj (e2.symm.trans e1)
  subst e3
  exact k q H1 locs ls hP1 hD1 hS1 hl
theorem gw_new (C : GC p s m args meth c cc nL ret own Ts D cl tys A Z) {C' : String} {T : u_T} {N ci index : Nat} (hin : ∀ z ∈ u_ws C' T N, z ∈ Ts) (ty : Nat → FieldType) (hty : ∀ k, k < N → parseFieldDescriptor (T k).2.2.1 = some (ty k)) (hcl : Cond.classLink own index C' ∈ Ts) (hinst : Cond.instantiable C' N ∈ Ts) (hini : Cond.initialized C' ∈ Ts) (hc : cl[ci]? = some (C', T, N)) {fs : List Value} (hfs : ∀ j, j < N → defaultValue (ty j) = vp_V fs j) (hcells : cells + 1 ≤ R.cells) (hslots : slots + N ≤ R.slots) (hd : decode cc pc = .ok (.new index, 3))
    (k : ∀ q : Nat, GW p l e R s m args below meth c Q D cl A nL (cells + 1) (slots + N) (w ++ [(q, .inr (ci, fs))]) (pc + 3) lv (.ref q :: st)) : GW p l e R s m args below meth c Q D cl A nL cells slots w pc lv st := by
  intro H locs ls hP hD hS hl
  exact va_new C.1 C.2.1 C.2.2.2.2.1 hin ty hty C.2.2.2.1 (C.2.2.2.2.1 _ hcl) (C.2.2.2.2.1 _ hinst) (C.2.2.2.2.1 _ hini) C.2.2.2.2.2.1 hP hD hS C.2.2.2.2.2.2.2.2.1 hc hfs hcells hslots hd (fun q H1 hP1 hD1 hS1 => k q H1 locs ls hP1 hD1 hS1 hl)
variable {y : MethodName} {bytes : ByteArray} {maxL mc ms2 n index : Nat} {retc : Option FieldType} {ws : List Cond} {rm : Room} {As rest : List Value} {C' : String}
theorem gw_subF {wl wc wr : va_W} (C : GC p s m args meth c cc nL ret own Ts D cl tys A Z) {H : Heap} {locs : List Loc} (hD : va_D A (wl ++ wc ++ wr)) (hS : va_S A s.heap H locs) : ∀ q, va_A wc H.size q → A q := gw_sub_A C.2.2.2.2.2.2.2.2.1 (vaD_split (vaD_split hD).1).2.1 hS
/-- a constructor's call: its world is the middle part -/
theorem gw_callIX {wl wc wr : va_W} (C : GC p s m args meth c cc nL ret own Ts D cl tys A Z) {b : Nat} {P : va_W → Prop} (hw : w = wl ++ wc ++ wr) (hM : CX l y ws rm D cl tys Z (.ref b :: As) wc P mc ms2) (cw : CallB R s args own index y bytes maxL none ws rm mc ms2 n ∧ y.name = "<init>" ∧ (Cond.instanceMethod y).before args s = true)
    (hn : As.length = n) (hst : st = As.reverse ++ .ref b :: rest) (hroom : (rest.map fun v => v.category).sum ≤ 8) (hd : decode cc pc = .ok (.invokespecial index, 3)) (hf : cells + mc ≤ R.cells ∧ slots + ms2 ≤ R.slots)
    (k : ∀ wf, P wf → GW p l e R s m args below meth c Q D cl A nL (cells + mc) (slots + ms2) (wl ++ wf ++ wr) (pc + 3) lv rest) : GW p l e R s m args below meth c Q D cl A nL cells slots w pc lv st := by
  subst hw
  intro H locs ls hP hD hS hl T hT X
  have hF := gw_subF C hD hS
  have hPc := (vaP_split (vaP_split hP).1).2
  have hDc := (vaD_split (vaD_split hD).1).2.1
  obtain ⟨v, st₀, t, T', L, h0, X', hL, e1, e2, ⟨ho, ⟨wf, hp, hP1, hD1⟩, hK1, hz, hkp⟩, st⟩ := va_runI (g := F0 m pc ls st) ⟨C.1, C.2.1, C.2.2.1, C.2.2.2.1, C.2.2.2.2.1⟩ (hM H.size) cw ⟨gw_pre C.2.2.2.2.2.2.2.2.2.2, gw_at C hPc hDc hS⟩ rfl hn hl.1 hst (lv_room hroom) hd hf T hT X
  cases ho
  rw [h0] at hz hkp
  have hS1 : va_S A s.heap T'.heap (locs ++ L) := ⟨Nat.le_trans hS.1 (by rw [e1]; exact hz), fun q h1 h2 => by rw [e1, hkp q (Nat.lt_of_lt_of_le h1 hS.1) (fun z => h2 (hF q z))]; exact hS.2.1 q h1 h2, fun q hq => by
    rcases List.mem_append.mp hq with h | h
    · exact hS.2.2 q h
    · exact hF _ (hL q h)⟩
  obtain ⟨hP2, hD2⟩ := va_3 (H1 := T'.heap) hP hD (fun q h1 h2 => by rw [e1]; exact hkp q h1 h2) hF (by rw [e1]; exact hP1) hD1
  obtain ⟨t2, a1, b1⟩ := k wf hp T'.heap (locs ++ L) ls hP2 hD2 hS1 hl T' rfl X'
  exact ⟨t2, st t2 a1, b1⟩
/-- a method's call: its world is the middle part -/
theorem gw_callVF {wl wc wr wc' : va_W} {oc : Option Value} (C : GC p s m args meth c cc nL ret own Ts D cl tys A Z) (q0 : Nat) {ci b : Nat} {fs : List Value} {T : u_T} {N : Nat} (he : wc[q0]? = some (b, .inr (ci, fs))) (hc : cl[ci]? = some (C', T, N)) (hM : CW l y ws rm D cl tys Z (.ref b :: As) wc oc wc' 0 0) (cw : CallW R s args own C' index y bytes maxL retc ws rm 0 0 n)
    (hn : As.length = n) (hst : st = As.reverse ++ .ref b :: rest) (hroom : (rest.map fun v => v.category).sum ≤ 8) (hd : decode cc pc = .ok (.invokevirtual index, 3)) (hf : cells ≤ R.cells ∧ slots ≤ R.slots)
    (k : GW p l e R s m args below meth c Q D cl A nL cells slots (wl ++ wc' ++ wr) (pc + 3) lv (oc.toList ++ rest)) : GW p l e R s m args below meth c Q D cl A nL cells slots (wl ++ wc ++ wr) pc lv st := by
  intro H locs ls hP hD hS hl T hT X
  have hF := gw_subF C hD hS
  have hPc := (vaP_split (vaP_split hP).1).2
  have hDc := (vaD_split (vaD_split hD).1).2.1
  obtain ⟨v, st₀, t, T', L, h0, X', hL, e1, e2, ⟨ho, hP1, hK1, hD1, hz, hkp⟩, st⟩ := va_runV (cells := cells) (slots := slots) (locs := locs) (g := F0 m pc ls st) ⟨C.1, C.2.1, C.2.2.1, C.2.2.2.1, C.2.2.2.2.1⟩ (hM H.size) cw ⟨gw_pre C.2.2.2.2.2.2.2.2.2.2, va_recv C.2.2.2.2.2.1 hPc hc he, gw_at C hPc hDc hS⟩ rfl hn hl.1 hst (lv_room hroom) hd hf T hT X
  cases ho
  rw [h0] at hz hkp
  have hS1 : va_S A s.heap T'.heap (locs ++ L) := ⟨Nat.le_trans hS.1 (by rw [e1]; exact hz), fun q h1 h2 => by rw [e1, hkp q (Nat.lt_of_lt_of_le h1 hS.1) (fun z => h2 (hF q z))]; exact hS.2.1 q h1 h2, fun q hq => by
    rcases List.mem_append.mp hq with h | h
    · exact hS.2.2 q h
    · exact hF _ (hL q h)⟩
  obtain ⟨hP2, hD2⟩ := va_3 (H1 := T'.heap) hP hD (fun q h1 h2 => by rw [e1]; exact hkp q h1 h2) hF (by rw [e1]; exact hP1) hD1
  obtain ⟨t2, a1, b1⟩ := k T'.heap (locs ++ L) ls hP2 hD2 hS1 hl T' rfl X'
  exact ⟨t2, st t2 a1, b1⟩
end GWX
theorem ra_i (U : State) (x : ClassId) (h : va_RA U x .int) : U.vm.findClass ("[" ++ FieldType.int.toString) = some x := h
theorem ra_z (U : State) (x : ClassId) (h : va_RA U x .boolean) : U.vm.findClass ("[" ++ FieldType.boolean.toString) = some x := h
theorem ra_c (U : State) (x : ClassId) (h : va_RA U x .char) : U.vm.findClass ("[" ++ FieldType.char.toString) = some x := h
