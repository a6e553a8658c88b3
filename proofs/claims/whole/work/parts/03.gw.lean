/-! GW: the machine at a frame, whatever the heap is that holds the world w and whatever the locals are that hold lv -/
abbrev Mem : Type := Nat → Nat → Int32
/-- a cell's number at a place is written -/
def ms (M : Mem) (q i : Nat) (x : Int32) : Mem := fun q2 => if q2 = q then upd (M q) i x else M q2
/-- what a method takes as given of cells outside its world (texts): it lasts -/
abbrev gw_Z : Type := (Nat → Prop) → State → Heap → Prop
def gw_ZOK (Z : gw_Z) : Prop := (∀ (A B : Nat → Prop) (u U : State) (H H1 : Heap), u.WarmedH U.vm → (∀ q, B q → A q) → (∀ a : Nat, a < H.size → ¬ A a → H1[a]? = H[a]?) → Z A u H → Z B U H1) ∧ ∀ (A : Nat → Prop) (u U : State) (H : Heap), U.vm = u.vm → Z A u H → Z A U H
def gw_Z0 : gw_Z := fun _ _ _ => True
theorem gw_Z0_ok : gw_ZOK gw_Z0 := ⟨fun _ _ _ _ _ _ _ _ _ _ => trivial, fun _ _ _ _ _ _ => trivial⟩
def GC (p : Program) (s : State) (m : MethodId) (args : Array Value) (meth : Method) (c : Code) (cc : ByteArray) (nL : Nat) (ret : Option FieldType) (own : String) (Ts : List Cond) (D : va_G) (cl : List vw_C) (tys : List (ClassId × FieldType)) (A : Nat → Prop) (Z : gw_Z) : Prop :=
  p.tables.exec = Jvm.exec ∧ c.code = cc ∧ c.maxLocals = nL ∧ s.vm.findClass own = some m.cls ∧ (∀ w ∈ Ts, w.before args s = true) ∧ va_K D cl tys s ∧ meth.locks = false ∧ meth.sig.returnType = ret ∧ (∀ q : Nat, s.heap.size ≤ q → A q) ∧ Z A s s.heap ∧ gw_ZOK Z
def GW (p : Program) (l : Launch) (e : Env) (R : Room) (s : State) (m : MethodId) (args : Array Value) (below : List Frame) (meth : Method) (c : Code) (Q : State → Prop) (D : va_G) (cl : List vw_C) (A : Nat → Prop) (nL cells slots : Nat) (w : va_W) (pc : Nat) (lv : List (Nat × Value)) (st : List Value) : Prop :=
  ∀ (H : Heap) (locs : List Loc) (ls : Array Slot), va_P D cl w H → va_D A w → va_S A s.heap H locs → lv_has ls nL lv → W p l e R s m args below meth c H locs cells slots Q (F0 m pc ls st)
/-- a method's end: its answer, the world behind it, and nothing else changed -/
def QW (D : va_G) (cl : List vw_C) (tys : List (ClassId × FieldType)) (A : Nat → Prop) (oc : Option Value) (wf : va_W) : Array Value → State → Outcome → State → Prop := fun _ st o t =>
  o = .returned oc ∧ va_P D cl wf t.heap ∧ va_K D cl tys t ∧ va_D A wf ∧ va_F A st t
/-- a contract over a world -/
def CW (l : Launch) (y : MethodName) (ws : List Cond) (rm : Room) (D : va_G) (cl : List vw_C) (tys : List (ClassId × FieldType)) (Z : gw_Z) (av : List Value) (w : va_W) (oc : Option Value) (wf : va_W) (mc ms : Nat) : Prop :=
  ∀ sz : Nat, Met l y ws rm (va_Pc av (fun U => U.heap.size = sz ∧ va_P D cl w U.heap ∧ va_K D cl tys U ∧ va_D (fun _ => True) w ∧ Z (va_A w sz) U U.heap)) (QW D cl tys (va_A w sz) oc wf) mc ms (va_A w sz)
section GWS
variable {p : Program} {l : Launch} {e : Env} {R : Room} {s : State} {m : MethodId} {args : Array Value} {below : List Frame} {meth : Method} {c : Code} {Q : State → Prop} {D : va_G} {cl : List vw_C} {tys : List (ClassId × FieldType)} {A : Nat → Prop} {nL cells slots : Nat} {w : va_W} {pc : Nat} {lv lv' : List (Nat × Value)} {st : List Value} {cc : ByteArray} {ret : Option FieldType} {own : String} {Ts : List Cond} {Z : gw_Z}
theorem gw_iconst (C : GC p s m args meth c cc nL ret own Ts D cl tys A Z) {n : Int} {v : Int32} (hd : decode cc pc = .ok (.iconst n, 1)) (hv : Int32.ofInt n = v) (k : GW p l e R s m args below meth c Q D cl A nL cells slots w (pc + 1) lv (.int v :: st)) : GW p l e R s m args below meth c Q D cl A nL cells slots w pc lv st :=
  fun H locs ls hP hD hS hl => lv_iconst C.1 C.2.1 hd hv (k H locs ls hP hD hS hl)
theorem gw_bipush (C : GC p s m args meth c cc nL ret own Ts D cl tys A Z) {n : Int} {v : Int32} (hd : decode cc pc = .ok (.bipush n, 2)) (hv : (Int8.ofInt n).toInt32 = v) (k : GW p l e R s m args below meth c Q D cl A nL cells slots w (pc + 2) lv (.int v :: st)) : GW p l e R s m args below meth c Q D cl A nL cells slots w pc lv st :=
  fun H locs ls hP hD hS hl => lv_bipush C.1 C.2.1 hd hv (k H locs ls hP hD hS hl)
theorem gw_sipush (C : GC p s m args meth c cc nL ret own Ts D cl tys A Z) {n : Int} {v : Int32} (hd : decode cc pc = .ok (.sipush n, 3)) (hv : (Int16.ofInt n).toInt32 = v) (k : GW p l e R s m args below meth c Q D cl A nL cells slots w (pc + 3) lv (.int v :: st)) : GW p l e R s m args below meth c Q D cl A nL cells slots w pc lv st :=
  fun H locs ls hP hD hS hl => lv_sipush C.1 C.2.1 hd hv (k H locs ls hP hD hS hl)
theorem gw_ldc (C : GC p s m args meth c cc nL ret own Ts D cl tys A Z) {index : Nat} {v : Int32} (hd : decode cc pc = .ok (.ldc index, 2)) (hc : Cond.constant own index v ∈ Ts) (k : GW p l e R s m args below meth c Q D cl A nL cells slots w (pc + 2) lv (.int v :: st)) : GW p l e R s m args below meth c Q D cl A nL cells slots w pc lv st :=
  fun H locs ls hP hD hS hl => lv_ldc C.1 C.2.1 C.2.2.2.1 (C.2.2.2.2.1 _ hc) hd (k H locs ls hP hD hS hl)
theorem gw_iload_n (C : GC p s m args meth c cc nL ret own Ts D cl tys A Z) {f : Fin 4} {i : Nat} {x : Int32} (j : Nat) (hd : decode cc pc = .ok (.iload_n f, 1)) (hi : (f : Nat) = i) (hj : lv[j]? = some (i, .int x)) (k : GW p l e R s m args below meth c Q D cl A nL cells slots w (pc + 1) lv (.int x :: st)) : GW p l e R s m args below meth c Q D cl A nL cells slots w pc lv st :=
  fun H locs ls hP hD hS hl => lv_iload_n C.1 C.2.1 hd hi (lv_at hl j hj) (k H locs ls hP hD hS hl)
theorem gw_iload (C : GC p s m args meth c cc nL ret own Ts D cl tys A Z) {i : Nat} {x : Int32} (j : Nat) (hd : decode cc pc = .ok (.iload i, 2)) (hj : lv[j]? = some (i, .int x)) (k : GW p l e R s m args below meth c Q D cl A nL cells slots w (pc + 2) lv (.int x :: st)) : GW p l e R s m args below meth c Q D cl A nL cells slots w pc lv st :=
  fun H locs ls hP hD hS hl => lv_iload C.1 C.2.1 hd (lv_at hl j hj) (k H locs ls hP hD hS hl)
theorem gw_aload_n (C : GC p s m args meth c cc nL ret own Ts D cl tys A Z) {f : Fin 4} {i x : Nat} (j : Nat) (hd : decode cc pc = .ok (.aload_n f, 1)) (hi : (f : Nat) = i) (hj : lv[j]? = some (i, .ref x)) (k : GW p l e R s m args below meth c Q D cl A nL cells slots w (pc + 1) lv (.ref x :: st)) : GW p l e R s m args below meth c Q D cl A nL cells slots w pc lv st :=
  fun H locs ls hP hD hS hl => lv_aload_n C.1 C.2.1 hd hi (lv_at hl j hj) (k H locs ls hP hD hS hl)
theorem gw_aload (C : GC p s m args meth c cc nL ret own Ts D cl tys A Z) {i x : Nat} (j : Nat) (hd : decode cc pc = .ok (.aload i, 2)) (hj : lv[j]? = some (i, .ref x)) (k : GW p l e R s m args below meth c Q D cl A nL cells slots w (pc + 2) lv (.ref x :: st)) : GW p l e R s m args below meth c Q D cl A nL cells slots w pc lv st :=
  fun H locs ls hP hD hS hl => lv_aload C.1 C.2.1 hd (lv_at hl j hj) (k H locs ls hP hD hS hl)
/-- the locals behind a store of one slot -/
def gw_sto (lv : List (Nat × Value)) (i : Nat) (v : Value) : List (Nat × Value) := (i, v) :: lv.filter (fun q => !(q.1 == i) && !(q.1 + 1 == i && q.2.category == 2))
theorem gw_istore_n (C : GC p s m args meth c cc nL ret own Ts D cl tys A Z) {f : Fin 4} {i : Nat} {x : Int32} (hd : decode cc pc = .ok (.istore_n f, 1)) (hi : (f : Nat) = i) (hn : i < nL) (hl' : gw_sto lv i (.int x) = lv') (k : GW p l e R s m args below meth c Q D cl A nL cells slots w (pc + 1) lv' st) : GW p l e R s m args below meth c Q D cl A nL cells slots w pc lv (.int x :: st) :=
  fun H locs _ hP hD hS hl => lv_istore_n C.1 C.2.1 hd hi hl hn hl' (fun ls hl => k H locs ls hP hD hS hl)
theorem gw_istore (C : GC p s m args meth c cc nL ret own Ts D cl tys A Z) {i : Nat} {x : Int32} (hd : decode cc pc = .ok (.istore i, 2)) (hn : i < nL) (hl' : gw_sto lv i (.int x) = lv') (k : GW p l e R s m args below meth c Q D cl A nL cells slots w (pc + 2) lv' st) : GW p l e R s m args below meth c Q D cl A nL cells slots w pc lv (.int x :: st) :=
  fun H locs _ hP hD hS hl => lv_istore C.1 C.2.1 hd hl hn hl' (fun ls hl => k H locs ls hP hD hS hl)
theorem gw_astore_n (C : GC p s m args meth c cc nL ret own Ts D cl tys A Z) {f : Fin 4} {i x : Nat} (hd : decode cc pc = .ok (.astore_n f, 1)) (hi : (f : Nat) = i) (hn : i < nL) (hl' : gw_sto lv i (.ref x) = lv') (k : GW p l e R s m args below meth c Q D cl A nL cells slots w (pc + 1) lv' st) : GW p l e R s m args below meth c Q D cl A nL cells slots w pc lv (.ref x :: st) :=
  fun H locs _ hP hD hS hl => lv_astore_n C.1 C.2.1 hd hi hl hn hl' (fun ls hl => k H locs ls hP hD hS hl)
theorem gw_astore (C : GC p s m args meth c cc nL ret own Ts D cl tys A Z) {i x : Nat} (hd : decode cc pc = .ok (.astore i, 2)) (hn : i < nL) (hl' : gw_sto lv i (.ref x) = lv') (k : GW p l e R s m args below meth c Q D cl A nL cells slots w (pc + 2) lv' st) : GW p l e R s m args below meth c Q D cl A nL cells slots w pc lv (.ref x :: st) :=
  fun H locs _ hP hD hS hl => lv_astore C.1 C.2.1 hd hl hn hl' (fun ls hl => k H locs ls hP hD hS hl)
theorem gw_iinc (C : GC p s m args meth c cc nL ret own Ts D cl tys A Z) {i : Nat} {n : Int} {x v : Int32} (j : Nat) (hd : decode cc pc = .ok (.iinc i n, 3)) (hj : lv[j]? = some (i, .int x)) (hv : x + Int32.ofInt n = v) (hn : i < nL) (hl' : gw_sto lv i (.int v) = lv') (k : GW p l e R s m args below meth c Q D cl A nL cells slots w (pc + 3) lv' st) : GW p l e R s m args below meth c Q D cl A nL cells slots w pc lv st :=
  fun H locs _ hP hD hS hl => lv_iinc C.1 C.2.1 hd hl hj hv hn hl' (fun ls hl => k H locs ls hP hD hS hl)
/-- fewer listed locals, in another order -/
theorem gw_sub (ks : List Nat) (hl' : lv_pick lv ks = lv') (k : GW p l e R s m args below meth c Q D cl A nL cells slots w pc lv' st) : GW p l e R s m args below meth c Q D cl A nL cells slots w pc lv st :=
  fun H locs ls hP hD hS hl => k H locs ls hP hD hS (lv_sub hl ks hl')
theorem gw_iadd (C : GC p s m args meth c cc nL ret own Ts D cl tys A Z) {x y : Int32} (hd : decode cc pc = .ok (.iadd, 1)) (k : GW p l e R s m args below meth c Q D cl A nL cells slots w (pc + 1) lv (.int (x + y) :: st)) : GW p l e R s m args below meth c Q D cl A nL cells slots w pc lv (.int y :: .int x :: st) :=
  fun H locs ls hP hD hS hl => lv_iadd C.1 C.2.1 hd (k H locs ls hP hD hS hl)
theorem gw_isub (C : GC p s m args meth c cc nL ret own Ts D cl tys A Z) {x y : Int32} (hd : decode cc pc = .ok (.isub, 1)) (k : GW p l e R s m args below meth c Q D cl A nL cells slots w (pc + 1) lv (.int (x - y) :: st)) : GW p l e R s m args below meth c Q D cl A nL cells slots w pc lv (.int y :: .int x :: st) :=
  fun H locs ls hP hD hS hl => lv_isub C.1 C.2.1 hd (k H locs ls hP hD hS hl)
theorem gw_imul (C : GC p s m args meth c cc nL ret own Ts D cl tys A Z) {x y : Int32} (hd : decode cc pc = .ok (.imul, 1)) (k : GW p l e R s m args below meth c Q D cl A nL cells slots w (pc + 1) lv (.int (x * y) :: st)) : GW p l e R s m args below meth c Q D cl A nL cells slots w pc lv (.int y :: .int x :: st) :=
  fun H locs ls hP hD hS hl => lv_imul C.1 C.2.1 hd (k H locs ls hP hD hS hl)
theorem gw_iand (C : GC p s m args meth c cc nL ret own Ts D cl tys A Z) {x y : Int32} (hd : decode cc pc = .ok (.iand, 1)) (k : GW p l e R s m args below meth c Q D cl A nL cells slots w (pc + 1) lv (.int (x &&& y) :: st)) : GW p l e R s m args below meth c Q D cl A nL cells slots w pc lv (.int y :: .int x :: st) :=
  fun H locs ls hP hD hS hl => lv_iand C.1 C.2.1 hd (k H locs ls hP hD hS hl)
theorem gw_ior (C : GC p s m args meth c cc nL ret own Ts D cl tys A Z) {x y : Int32} (hd : decode cc pc = .ok (.ior, 1)) (k : GW p l e R s m args below meth c Q D cl A nL cells slots w (pc + 1) lv (.int (x ||| y) :: st)) : GW p l e R s m args below meth c Q D cl A nL cells slots w pc lv (.int y :: .int x :: st) :=
  fun H locs ls hP hD hS hl => lv_ior C.1 C.2.1 hd (k H locs ls hP hD hS hl)
theorem gw_ixor (C : GC p s m args meth c cc nL ret own Ts D cl tys A Z) {x y : Int32} (hd : decode cc pc = .ok (.ixor, 1)) (k : GW p l e R s m args below meth c Q D cl A nL cells slots w (pc + 1) lv (.int (x ^^^ y) :: st)) : GW p l e R s m args below meth c Q D cl A nL cells slots w pc lv (.int y :: .int x :: st) :=
  fun H locs ls hP hD hS hl => lv_ixor C.1 C.2.1 hd (k H locs ls hP hD hS hl)
theorem gw_ishl (C : GC p s m args meth c cc nL ret own Ts D cl tys A Z) {x y : Int32} (hd : decode cc pc = .ok (.ishl, 1)) (k : GW p l e R s m args below meth c Q D cl A nL cells slots w (pc + 1) lv (.int (x <<< (y &&& 31)) :: st)) : GW p l e R s m args below meth c Q D cl A nL cells slots w pc lv (.int y :: .int x :: st) :=
  fun H locs ls hP hD hS hl => lv_ishl C.1 C.2.1 hd (k H locs ls hP hD hS hl)
theorem gw_ishr (C : GC p s m args meth c cc nL ret own Ts D cl tys A Z) {x y : Int32} (hd : decode cc pc = .ok (.ishr, 1)) (k : GW p l e R s m args below meth c Q D cl A nL cells slots w (pc + 1) lv (.int (x >>> (y &&& 31)) :: st)) : GW p l e R s m args below meth c Q D cl A nL cells slots w pc lv (.int y :: .int x :: st) :=
  fun H locs ls hP hD hS hl => lv_ishr C.1 C.2.1 hd (k H locs ls hP hD hS hl)
theorem gw_idiv (C : GC p s m args meth c cc nL ret own Ts D cl tys A Z) {x y : Int32} (hd : decode cc pc = .ok (.idiv, 1)) (hne : ¬ y = 0) (k : GW p l e R s m args below meth c Q D cl A nL cells slots w (pc + 1) lv (.int (x / y) :: st)) : GW p l e R s m args below meth c Q D cl A nL cells slots w pc lv (.int y :: .int x :: st) :=
  fun H locs ls hP hD hS hl => lv_idiv C.1 C.2.1 hd hne (k H locs ls hP hD hS hl)
theorem gw_irem (C : GC p s m args meth c cc nL ret own Ts D cl tys A Z) {x y : Int32} (hd : decode cc pc = .ok (.irem, 1)) (hne : ¬ y = 0) (k : GW p l e R s m args below meth c Q D cl A nL cells slots w (pc + 1) lv (.int (x - x / y * y) :: st)) : GW p l e R s m args below meth c Q D cl A nL cells slots w pc lv (.int y :: .int x :: st) :=
  fun H locs ls hP hD hS hl => lv_irem C.1 C.2.1 hd hne (k H locs ls hP hD hS hl)
theorem gw_ineg (C : GC p s m args meth c cc nL ret own Ts D cl tys A Z) {x : Int32} (hd : decode cc pc = .ok (.ineg, 1)) (k : GW p l e R s m args below meth c Q D cl A nL cells slots w (pc + 1) lv (.int (-x) :: st)) : GW p l e R s m args below meth c Q D cl A nL cells slots w pc lv (.int x :: st) :=
  fun H locs ls hP hD hS hl => lv_ineg C.1 C.2.1 hd (k H locs ls hP hD hS hl)
theorem gw_iushr (C : GC p s m args meth c cc nL ret own Ts D cl tys A Z) {x y : Int32} (hd : decode cc pc = .ok (.iushr, 1)) (k : GW p l e R s m args below meth c Q D cl A nL cells slots w (pc + 1) lv (.int (x.toUInt32 >>> (y.toUInt32 &&& Int32.toUInt32 31)).toInt32 :: st)) : GW p l e R s m args below meth c Q D cl A nL cells slots w pc lv (.int y :: .int x :: st) :=
  fun H locs ls hP hD hS hl => lv_iushr C.1 C.2.1 hd rfl (k H locs ls hP hD hS hl)
theorem gw_i2c (C : GC p s m args meth c cc nL ret own Ts D cl tys A Z) {x : Int32} (hd : decode cc pc = .ok (.i2c, 1)) (k : GW p l e R s m args below meth c Q D cl A nL cells slots w (pc + 1) lv (.int (x.toUInt32 % 65536).toInt32 :: st)) : GW p l e R s m args below meth c Q D cl A nL cells slots w pc lv (.int x :: st) :=
  fun H locs ls hP hD hS hl => lv_i2c C.1 C.2.1 hd rfl (k H locs ls hP hD hS hl)
theorem gw_i2b (C : GC p s m args meth c cc nL ret own Ts D cl tys A Z) {x : Int32} (hd : decode cc pc = .ok (.i2b, 1)) (k : GW p l e R s m args below meth c Q D cl A nL cells slots w (pc + 1) lv (.int x.toInt8.toInt32 :: st)) : GW p l e R s m args below meth c Q D cl A nL cells slots w pc lv (.int x :: st) :=
  fun H locs ls hP hD hS hl => lv_i2b C.1 C.2.1 hd rfl (k H locs ls hP hD hS hl)
theorem gw_dup (C : GC p s m args meth c cc nL ret own Ts D cl tys A Z) {va : Value} (hd : decode cc pc = .ok (.dup, 1)) (hva : va.category = 1) (k : GW p l e R s m args below meth c Q D cl A nL cells slots w (pc + 1) lv (va :: va :: st)) : GW p l e R s m args below meth c Q D cl A nL cells slots w pc lv (va :: st) :=
  fun H locs ls hP hD hS hl => lv_dup C.1 C.2.1 hd hva (k H locs ls hP hD hS hl)
theorem gw_pop (C : GC p s m args meth c cc nL ret own Ts D cl tys A Z) {va : Value} (hd : decode cc pc = .ok (.pop, 1)) (hva : va.category = 1) (k : GW p l e R s m args below meth c Q D cl A nL cells slots w (pc + 1) lv st) : GW p l e R s m args below meth c Q D cl A nL cells slots w pc lv (va :: st) :=
  fun H locs ls hP hD hS hl => lv_pop C.1 C.2.1 hd hva (k H locs ls hP hD hS hl)
theorem gw_dup_x1 (C : GC p s m args meth c cc nL ret own Ts D cl tys A Z) {va vb : Value} (hd : decode cc pc = .ok (.dup_x1, 1)) (hva : va.category = 1) (hvb : vb.category = 1) (k : GW p l e R s m args below meth c Q D cl A nL cells slots w (pc + 1) lv (va :: vb :: va :: st)) : GW p l e R s m args below meth c Q D cl A nL cells slots w pc lv (va :: vb :: st) :=
  fun H locs ls hP hD hS hl => lv_dup_x1 C.1 C.2.1 hd hva hvb (k H locs ls hP hD hS hl)
theorem gw_dup_x2 (C : GC p s m args meth c cc nL ret own Ts D cl tys A Z) {va vb vd : Value} (hd : decode cc pc = .ok (.dup_x2, 1)) (hva : va.category = 1) (hvb : vb.category = 1) (hvd : vd.category = 1) (k : GW p l e R s m args below meth c Q D cl A nL cells slots w (pc + 1) lv (va :: vb :: vd :: va :: st)) : GW p l e R s m args below meth c Q D cl A nL cells slots w pc lv (va :: vb :: vd :: st) :=
  fun H locs ls hP hD hS hl => lv_dup_x2 C.1 C.2.1 hd hva hvb hvd (k H locs ls hP hD hS hl)
theorem gw_dup2 (C : GC p s m args meth c cc nL ret own Ts D cl tys A Z) {va vb : Value} (hd : decode cc pc = .ok (.dup2, 1)) (hva : va.category = 1) (hvb : vb.category = 1) (k : GW p l e R s m args below meth c Q D cl A nL cells slots w (pc + 1) lv (va :: vb :: va :: vb :: st)) : GW p l e R s m args below meth c Q D cl A nL cells slots w pc lv (va :: vb :: st) :=
  fun H locs ls hP hD hS hl => lv_dup2_11 C.1 C.2.1 hd hva hvb (k H locs ls hP hD hS hl)
theorem gw_if_eq (C : GC p s m args meth c cc nL ret own Ts D cl tys A Z) {x : Int32} {off : Int} {tgt : Nat} (hd : decode cc pc = .ok (.ifCond .eq off, 3)) (ht : (pc : Int) + off = (tgt : Int)) (kt : x = 0 → GW p l e R s m args below meth c Q D cl A nL cells slots w tgt lv st) (kf : ¬ (x = 0) → GW p l e R s m args below meth c Q D cl A nL cells slots w (pc + 3) lv st) : GW p l e R s m args below meth c Q D cl A nL cells slots w pc lv (.int x :: st) :=
  fun H locs ls hP hD hS hl => lv_if_eq C.1 C.2.1 hd ht (fun h => kt h H locs ls hP hD hS hl) (fun h => kf h H locs ls hP hD hS hl)
theorem gw_icmp_eq (C : GC p s m args meth c cc nL ret own Ts D cl tys A Z) {x y : Int32} {off : Int} {tgt : Nat} (hd : decode cc pc = .ok (.if_icmp .eq off, 3)) (ht : (pc : Int) + off = (tgt : Int)) (kt : x = y → GW p l e R s m args below meth c Q D cl A nL cells slots w tgt lv st) (kf : ¬ (x = y) → GW p l e R s m args below meth c Q D cl A nL cells slots w (pc + 3) lv st) : GW p l e R s m args below meth c Q D cl A nL cells slots w pc lv (.int y :: .int x :: st) :=
  fun H locs ls hP hD hS hl => lv_icmp_eq C.1 C.2.1 hd ht (fun h => kt h H locs ls hP hD hS hl) (fun h => kf h H locs ls hP hD hS hl)
theorem gw_if_ne (C : GC p s m args meth c cc nL ret own Ts D cl tys A Z) {x : Int32} {off : Int} {tgt : Nat} (hd : decode cc pc = .ok (.ifCond .ne off, 3)) (ht : (pc : Int) + off = (tgt : Int)) (kt : ¬ x = 0 → GW p l e R s m args below meth c Q D cl A nL cells slots w tgt lv st) (kf : x = 0 → GW p l e R s m args below meth c Q D cl A nL cells slots w (pc + 3) lv st) : GW p l e R s m args below meth c Q D cl A nL cells slots w pc lv (.int x :: st) :=
  fun H locs ls hP hD hS hl => lv_if_ne C.1 C.2.1 hd ht (fun h => kt h H locs ls hP hD hS hl) (fun h => kf h H locs ls hP hD hS hl)
theorem gw_icmp_ne (C : GC p s m args meth c cc nL ret own Ts D cl tys A Z) {x y : Int32} {off : Int} {tgt : Nat} (hd : decode cc pc = .ok (.if_icmp .ne off, 3)) (ht : (pc : Int) + off = (tgt : Int)) (kt : ¬ x = y → GW p l e R s m args below meth c Q D cl A nL cells slots w tgt lv st) (kf : x = y → GW p l e R s m args below meth c Q D cl A nL cells slots w (pc + 3) lv st) : GW p l e R s m args below meth c Q D cl A nL cells slots w pc lv (.int y :: .int x :: st) :=
  fun H locs ls hP hD hS hl => lv_icmp_ne C.1 C.2.1 hd ht (fun h => kt h H locs ls hP hD hS hl) (fun h => kf h H locs ls hP hD hS hl)
theorem gw_if_lt (C : GC p s m args meth c cc nL ret own Ts D cl tys A Z) {x : Int32} {off : Int} {tgt : Nat} (hd : decode cc pc = .ok (.ifCond .lt off, 3)) (ht : (pc : Int) + off = (tgt : Int)) (kt : x < 0 → GW p l e R s m args below meth c Q D cl A nL cells slots w tgt lv st) (kf : ¬ (x < 0) → GW p l e R s m args below meth c Q D cl A nL cells slots w (pc + 3) lv st) : GW p l e R s m args below meth c Q D cl A nL cells slots w pc lv (.int x :: st) :=
  fun H locs ls hP hD hS hl => lv_if_lt C.1 C.2.1 hd ht (fun h => kt h H locs ls hP hD hS hl) (fun h => kf h H locs ls hP hD hS hl)
theorem gw_icmp_lt (C : GC p s m args meth c cc nL ret own Ts D cl tys A Z) {x y : Int32} {off : Int} {tgt : Nat} (hd : decode cc pc = .ok (.if_icmp .lt off, 3)) (ht : (pc : Int) + off = (tgt : Int)) (kt : x < y → GW p l e R s m args below meth c Q D cl A nL cells slots w tgt lv st) (kf : ¬ (x < y) → GW p l e R s m args below meth c Q D cl A nL cells slots w (pc + 3) lv st) : GW p l e R s m args below meth c Q D cl A nL cells slots w pc lv (.int y :: .int x :: st) :=
  fun H locs ls hP hD hS hl => lv_icmp_lt C.1 C.2.1 hd ht (fun h => kt h H locs ls hP hD hS hl) (fun h => kf h H locs ls hP hD hS hl)
theorem gw_if_ge (C : GC p s m args meth c cc nL ret own Ts D cl tys A Z) {x : Int32} {off : Int} {tgt : Nat} (hd : decode cc pc = .ok (.ifCond .ge off, 3)) (ht : (pc : Int) + off = (tgt : Int)) (kt : 0 ≤ x → GW p l e R s m args below meth c Q D cl A nL cells slots w tgt lv st) (kf : ¬ (0 ≤ x) → GW p l e R s m args below meth c Q D cl A nL cells slots w (pc + 3) lv st) : GW p l e R s m args below meth c Q D cl A nL cells slots w pc lv (.int x :: st) :=
  fun H locs ls hP hD hS hl => lv_if_ge C.1 C.2.1 hd ht (fun h => kt h H locs ls hP hD hS hl) (fun h => kf h H locs ls hP hD hS hl)
theorem gw_icmp_ge (C : GC p s m args meth c cc nL ret own Ts D cl tys A Z) {x y : Int32} {off : Int} {tgt : Nat} (hd : decode cc pc = .ok (.if_icmp .ge off, 3)) (ht : (pc : Int) + off = (tgt : Int)) (kt : y ≤ x → GW p l e R s m args below meth c Q D cl A nL cells slots w tgt lv st) (kf : ¬ (y ≤ x) → GW p l e R s m args below meth c Q D cl A nL cells slots w (pc + 3) lv st) : GW p l e R s m args below meth c Q D cl A nL cells slots w pc lv (.int y :: .int x :: st) :=
  fun H locs ls hP hD hS hl => lv_icmp_ge C.1 C.2.1 hd ht (fun h => kt h H locs ls hP hD hS hl) (fun h => kf h H locs ls hP hD hS hl)
theorem gw_if_gt (C : GC p s m args meth c cc nL ret own Ts D cl tys A Z) {x : Int32} {off : Int} {tgt : Nat} (hd : decode cc pc = .ok (.ifCond .gt off, 3)) (ht : (pc : Int) + off = (tgt : Int)) (kt : 0 < x → GW p l e R s m args below meth c Q D cl A nL cells slots w tgt lv st) (kf : ¬ (0 < x) → GW p l e R s m args below meth c Q D cl A nL cells slots w (pc + 3) lv st) : GW p l e R s m args below meth c Q D cl A nL cells slots w pc lv (.int x :: st) :=
  fun H locs ls hP hD hS hl => lv_if_gt C.1 C.2.1 hd ht (fun h => kt h H locs ls hP hD hS hl) (fun h => kf h H locs ls hP hD hS hl)
theorem gw_icmp_gt (C : GC p s m args meth c cc nL ret own Ts D cl tys A Z) {x y : Int32} {off : Int} {tgt : Nat} (hd : decode cc pc = .ok (.if_icmp .gt off, 3)) (ht : (pc : Int) + off = (tgt : Int)) (kt : y < x → GW p l e R s m args below meth c Q D cl A nL cells slots w tgt lv st) (kf : ¬ (y < x) → GW p l e R s m args below meth c Q D cl A nL cells slots w (pc + 3) lv st) : GW p l e R s m args below meth c Q D cl A nL cells slots w pc lv (.int y :: .int x :: st) :=
  fun H locs ls hP hD hS hl => lv_icmp_gt C.1 C.2.1 hd ht (fun h => kt h H locs ls hP hD hS hl) (fun h => kf h H locs ls hP hD hS hl)
theorem gw_if_le (C : GC p s m args meth c cc nL ret own Ts D cl tys A Z) {x : Int32} {off : Int} {tgt : Nat} (hd : decode cc pc = .ok (.ifCond .le off, 3)) (ht : (pc : Int) + off = (tgt : Int)) (kt : x ≤ 0 → GW p l e R s m args below meth c Q D cl A nL cells slots w tgt lv st) (kf : ¬ (x ≤ 0) → GW p l e R s m args below meth c Q D cl A nL cells slots w (pc + 3) lv st) : GW p l e R s m args below meth c Q D cl A nL cells slots w pc lv (.int x :: st) :=
  fun H locs ls hP hD hS hl => lv_if_le C.1 C.2.1 hd ht (fun h => kt h H locs ls hP hD hS hl) (fun h => kf h H locs ls hP hD hS hl)
theorem gw_icmp_le (C : GC p s m args meth c cc nL ret own Ts D cl tys A Z) {x y : Int32} {off : Int} {tgt : Nat} (hd : decode cc pc = .ok (.if_icmp .le off, 3)) (ht : (pc : Int) + off = (tgt : Int)) (kt : x ≤ y → GW p l e R s m args below meth c Q D cl A nL cells slots w tgt lv st) (kf : ¬ (x ≤ y) → GW p l e R s m args below meth c Q D cl A nL cells slots w (pc + 3) lv st) : GW p l e R s m args below meth c Q D cl A nL cells slots w pc lv (.int y :: .int x :: st) :=
  fun H locs ls hP hD hS hl => lv_icmp_le C.1 C.2.1 hd ht (fun h => kt h H locs ls hP hD hS hl) (fun h => kf h H locs ls hP hD hS hl)
theorem gw_goto (C : GC p s m args meth c cc nL ret own Ts D cl tys A Z) {off : Int} {tgt : Nat} (hd : decode cc pc = .ok (.goto off, 3)) (ht : (pc : Int) + off = (tgt : Int)) (k : GW p l e R s m args below meth c Q D cl A nL cells slots w tgt lv st) : GW p l e R s m args below meth c Q D cl A nL cells slots w pc lv st :=
  fun H locs ls hP hD hS hl => lv_goto C.1 C.2.1 hd ht (k H locs ls hP hD hS hl)
theorem gw_lookup (C : GC p s m args meth c cc nL ret own Ts D cl tys A Z) {dflt : Int} {ps : Array (Int × Int)} {len : Nat} {x : Int32} {off : Int} {tgt : Nat} (hd : decode cc pc = .ok (.lookupswitch dflt ps, len)) (hp : (ps.toList.zip (ps.toList.drop 1)).all (fun (a, next) => a.1 < next.1) = true) (ho : Op.lookupswitch.offset ps.toList dflt x.toInt = off) (ht : (pc : Int) + off = (tgt : Int)) (k : GW p l e R s m args below meth c Q D cl A nL cells slots w tgt lv st) : GW p l e R s m args below meth c Q D cl A nL cells slots w pc lv (.int x :: st) :=
  fun H locs ls hP hD hS hl => lv_lookup C.1 C.2.1 hd hp ho ht (k H locs ls hP hD hS hl)
theorem gw_tableOut (C : GC p s m args meth c cc nL ret own Ts D cl tys A Z) {dflt lo hi : Int} {offs : Array Int} {len : Nat} {x : Int32} {tgt : Nat} (hd : decode cc pc = .ok (.tableswitch dflt lo hi offs, len)) (h : x.toInt < lo ∨ hi < x.toInt) (ht : (pc : Int) + dflt = (tgt : Int)) (k : GW p l e R s m args below meth c Q D cl A nL cells slots w tgt lv st) : GW p l e R s m args below meth c Q D cl A nL cells slots w pc lv (.int x :: st) :=
  fun H locs ls hP hD hS hl => lv_tableOut C.1 C.2.1 hd h ht (k H locs ls hP hD hS hl)
theorem gw_tableIn (C : GC p s m args meth c cc nL ret own Ts D cl tys A Z) {dflt lo hi : Int} {offs : Array Int} {len : Nat} {x : Int32} {off : Int} {tgt : Nat} (v : Int32) (hv : x = v) (hd : decode cc pc = .ok (.tableswitch dflt lo hi offs, len)) (h1 : ¬ v.toInt < lo) (h2 : ¬ hi < v.toInt) (ho : offs[(v.toInt - lo).toNat]? = some off) (ht : (pc : Int) + off = (tgt : Int)) (k : GW p l e R s m args below meth c Q D cl A nL cells slots w tgt lv st) : GW p l e R s m args below meth c Q D cl A nL cells slots w pc lv (.int x :: st) := by
  subst hv
  exact fun H locs ls hP hD hS hl => lv_tableIn C.1 C.2.1 hd h1 h2 ho ht (k H locs ls hP hD hS hl)
theorem gw_get (C : GC p s m args meth c cc nL ret own Ts D cl tys A Z) {ref C' : String} {T : u_T} {N ci index a : Nat} (hin : ∀ z ∈ u_ws C' T N, z ∈ Ts) (q0 : Nat) {fs : List Value} (he : w[q0]? = some (a, .inr (ci, fs))) (hc : cl[ci]? = some (C', T, N)) (j : Nat) (hj : j < N) (hlink : Cond.fieldLink own index ref (T j).2.1 (T j).2.2.1 ∈ Ts) (hsame : (T j).1 = ref) {v : Value} (hv : fs[j]? = some v) (hd : decode cc pc = .ok (.getfield index, 3)) (k : GW p l e R s m args below meth c Q D cl A nL cells slots w (pc + 3) lv (v :: st)) : GW p l e R s m args below meth c Q D cl A nL cells slots w pc lv (.ref a :: st) :=
  fun H locs ls hP hD hS hl => va_get C.1 C.2.1 C.2.2.2.2.1 hin C.2.2.2.1 C.2.2.2.2.2.1 hP q0 he hc j hj (C.2.2.2.2.1 _ hlink) (fun x h => by rw [← hsame]; exact h) hv hd (k H locs ls hP hD hS hl)
theorem gw_put (C : GC p s m args meth c cc nL ret own Ts D cl tys A Z) {ref C' : String} {T : u_T} {N ci index a : Nat} (hin : ∀ z ∈ u_ws C' T N, z ∈ Ts) (ty0 : Nat → FieldType) (hty : ∀ k, k < N → parseFieldDescriptor (T k).2.2.1 = some (ty0 k)) (hnm : ∀ a, a < N → ∀ b, b < N → a ≠ b → (T a).2.1 ≠ (T b).2.1) (q0 : Nat) {fs : List Value} (he : w[q0]? = some (a, .inr (ci, fs))) (hc : cl[ci]? = some (C', T, N)) (j : Nat) (hj : j < N) (hlink : Cond.fieldLink own index ref (T j).2.1 (T j).2.2.1 ∈ Ts) (hsame : (T j).1 = ref) (hfin : (T j).2.2.2 = false) {v : Value} (hn : narrow (ty0 j) v = v) (hfit : fits (ty0 j) v = true) (hlen : j < fs.length) (hd : decode cc pc = .ok (.putfield index, 3)) {w' : va_W} (hw : w.set q0 (a, .inr (ci, fs.set j v)) = w') (k : GW p l e R s m args below meth c Q D cl A nL cells slots w' (pc + 3) lv st) : GW p l e R s m args below meth c Q D cl A nL cells slots w pc lv (v :: .ref a :: st) :=
  fun H locs ls hP hD hS hl => va_put C.1 C.2.1 C.2.2.2.2.1 hin ty0 hty hnm C.2.2.2.1 C.2.2.2.2.2.1 hP hD hS q0 he hc j hj (C.2.2.2.2.1 _ hlink) (fun x h => by rw [← hsame]; exact h) hfin (hty j hj) hn hfit hlen hd (fun H1 locs1 hP1 hD1 hS1 => k H1 locs1 ls (hw ▸ hP1) (hw ▸ hD1) hS1 hl)
theorem gw_putF (C : GC p s m args meth c cc nL ret own Ts D cl tys A Z) (hin2 : meth.name = "<init>") {C' : String} {T : u_T} {N ci index a : Nat} (hin : ∀ z ∈ u_ws C' T N, z ∈ Ts) (ty0 : Nat → FieldType) (hty : ∀ k, k < N → parseFieldDescriptor (T k).2.2.1 = some (ty0 k)) (hnm : ∀ a, a < N → ∀ b, b < N → a ≠ b → (T a).2.1 ≠ (T b).2.1) (q0 : Nat) {fs : List Value} (he : w[q0]? = some (a, .inr (ci, fs))) (hc : cl[ci]? = some (C', T, N)) (j : Nat) (hj : j < N) (hlink : Cond.fieldLink own index own (T j).2.1 (T j).2.2.1 ∈ Ts) (hsame : (T j).1 = own) (hfin : (T j).2.2.2 = true) {v : Value} (hn : narrow (ty0 j) v = v) (hfit : fits (ty0 j) v = true) (hlen : j < fs.length) (hd : decode cc pc = .ok (.putfield index, 3)) {w' : va_W} (hw : w.set q0 (a, .inr (ci, fs.set j v)) = w') (k : GW p l e R s m args below meth c Q D cl A nL cells slots w' (pc + 3) lv st) : GW p l e R s m args below meth c Q D cl A nL cells slots w pc lv (v :: .ref a :: st) :=
  fun H locs ls hP hD hS hl => va_putF C.1 C.2.1 C.2.2.2.2.1 hin ty0 hty hnm C.2.2.2.1 C.2.2.2.2.2.1 hP hD hS q0 he hc j hj (C.2.2.2.2.1 _ hlink) (fun x h => by rw [← hsame]; exact h) hfin hin2 hsame (hty j hj) hn hfit hlen hd (fun H1 locs1 hP1 hD1 hS1 => k H1 locs1 ls (hw ▸ hP1) (hw ▸ hD1) hS1 hl)
theorem gw_iald (C : GC p s m args meth c cc nL ret own Ts D cl tys A Z) (q0 t0 : Nat) {cA : ClassId} {n a : Nat} {f : Nat → Int32} (ha : w[q0]? = some (a, .inl (cA, n, .inl f))) (ht : tys[t0]? = some (cA, .int)) {i : Int32} (hin : vp_in i n) (hd : decode cc pc = .ok (.iaload, 1)) (k : GW p l e R s m args below meth c Q D cl A nL cells slots w (pc + 1) lv (.int (f i.toNatClampNeg) :: st)) : GW p l e R s m args below meth c Q D cl A nL cells slots w pc lv (.int i :: .ref a :: st) :=
  fun H locs ls hP hD hS hl => va_iald C.1 C.2.1 C.2.2.2.2.2.1 hP q0 t0 ha ht hin hd (k H locs ls hP hD hS hl)
theorem gw_zald (C : GC p s m args meth c cc nL ret own Ts D cl tys A Z) (q0 t0 : Nat) {cA : ClassId} {n a : Nat} {f : Nat → Int32} (ha : w[q0]? = some (a, .inl (cA, n, .inl f))) (ht : tys[t0]? = some (cA, .boolean)) {i : Int32} (hin : vp_in i n) (hd : decode cc pc = .ok (.baload, 1)) (k : GW p l e R s m args below meth c Q D cl A nL cells slots w (pc + 1) lv (.int (f i.toNatClampNeg) :: st)) : GW p l e R s m args below meth c Q D cl A nL cells slots w pc lv (.int i :: .ref a :: st) :=
  fun H locs ls hP hD hS hl => va_zald C.1 C.2.1 C.2.2.2.2.2.1 hP q0 t0 ha ht hin hd (k H locs ls hP hD hS hl)
theorem gw_bald (C : GC p s m args meth c cc nL ret own Ts D cl tys A Z) (q0 t0 : Nat) {cA : ClassId} {n a : Nat} {f : Nat → Int32} (ha : w[q0]? = some (a, .inl (cA, n, .inl f))) (ht : tys[t0]? = some (cA, .byte)) {i : Int32} (hin : vp_in i n) (hd : decode cc pc = .ok (.baload, 1)) (k : GW p l e R s m args below meth c Q D cl A nL cells slots w (pc + 1) lv (.int (f i.toNatClampNeg) :: st)) : GW p l e R s m args below meth c Q D cl A nL cells slots w pc lv (.int i :: .ref a :: st) :=
  fun H locs ls hP hD hS hl => va_bald C.1 C.2.1 C.2.2.2.2.2.1 hP q0 t0 ha ht hin hd (k H locs ls hP hD hS hl)
theorem gw_cald (C : GC p s m args meth c cc nL ret own Ts D cl tys A Z) (q0 t0 : Nat) {cA : ClassId} {n a : Nat} {f : Nat → Int32} (ha : w[q0]? = some (a, .inl (cA, n, .inl f))) (ht : tys[t0]? = some (cA, .char)) {i : Int32} (hin : vp_in i n) (hd : decode cc pc = .ok (.caload, 1)) (k : GW p l e R s m args below meth c Q D cl A nL cells slots w (pc + 1) lv (.int (f i.toNatClampNeg) :: st)) : GW p l e R s m args below meth c Q D cl A nL cells slots w pc lv (.int i :: .ref a :: st) :=
  fun H locs ls hP hD hS hl => va_cald C.1 C.2.1 C.2.2.2.2.2.1 hP q0 t0 ha ht hin hd (k H locs ls hP hD hS hl)
theorem gw_iast (C : GC p s m args meth c cc nL ret own Ts D cl tys A Z) (q0 t0 : Nat) {cA : ClassId} {n a : Nat} {f : Nat → Int32} (ha : w[q0]? = some (a, .inl (cA, n, .inl f))) (ht : tys[t0]? = some (cA, .int)) {i x : Int32} (hin : vp_in i n) (hd : decode cc pc = .ok (.iastore, 1)) {w' : va_W} (hw : w.set q0 (a, .inl (cA, n, .inl (upd f i.toNatClampNeg x))) = w') (k : GW p l e R s m args below meth c Q D cl A nL cells slots w' (pc + 1) lv st) : GW p l e R s m args below meth c Q D cl A nL cells slots w pc lv (.int x :: .int i :: .ref a :: st) :=
  fun H locs ls hP hD hS hl => va_iast C.1 C.2.1 C.2.2.2.2.2.1 hP hD hS q0 t0 ha ht hin hd (fun H1 locs1 hP1 hD1 hS1 => k H1 locs1 ls (hw ▸ hP1) (hw ▸ hD1) hS1 hl)
theorem gw_zast (C : GC p s m args meth c cc nL ret own Ts D cl tys A Z) (q0 t0 : Nat) {cA : ClassId} {n a : Nat} {f : Nat → Int32} (ha : w[q0]? = some (a, .inl (cA, n, .inl f))) (ht : tys[t0]? = some (cA, .boolean)) {i x : Int32} (hin : vp_in i n) (hd : decode cc pc = .ok (.bastore, 1)) {w' : va_W} (hw : w.set q0 (a, .inl (cA, n, .inl (upd f i.toNatClampNeg (vp_nar .boolean x)))) = w') (k : GW p l e R s m args below meth c Q D cl A nL cells slots w' (pc + 1) lv st) : GW p l e R s m args below meth c Q D cl A nL cells slots w pc lv (.int x :: .int i :: .ref a :: st) :=
  fun H locs ls hP hD hS hl => va_zast C.1 C.2.1 C.2.2.2.2.2.1 hP hD hS q0 t0 ha ht hin hd (fun H1 locs1 hP1 hD1 hS1 => k H1 locs1 ls (hw ▸ hP1) (hw ▸ hD1) hS1 hl)
theorem gw_bast (C : GC p s m args meth c cc nL ret own Ts D cl tys A Z) (q0 t0 : Nat) {cA : ClassId} {n a : Nat} {f : Nat → Int32} (ha : w[q0]? = some (a, .inl (cA, n, .inl f))) (ht : tys[t0]? = some (cA, .byte)) {i x : Int32} (hin : vp_in i n) (hd : decode cc pc = .ok (.bastore, 1)) {w' : va_W} (hw : w.set q0 (a, .inl (cA, n, .inl (upd f i.toNatClampNeg (vp_nar .byte x)))) = w') (k : GW p l e R s m args below meth c Q D cl A nL cells slots w' (pc + 1) lv st) : GW p l e R s m args below meth c Q D cl A nL cells slots w pc lv (.int x :: .int i :: .ref a :: st) :=
  fun H locs ls hP hD hS hl => va_bast C.1 C.2.1 C.2.2.2.2.2.1 hP hD hS q0 t0 ha ht hin hd (fun H1 locs1 hP1 hD1 hS1 => k H1 locs1 ls (hw ▸ hP1) (hw ▸ hD1) hS1 hl)
theorem gw_cast (C : GC p s m args meth c cc nL ret own Ts D cl tys A Z) (q0 t0 : Nat) {cA : ClassId} {n a : Nat} {f : Nat → Int32} (ha : w[q0]? = some (a, .inl (cA, n, .inl f))) (ht : tys[t0]? = some (cA, .char)) {i x : Int32} (hin : vp_in i n) (hd : decode cc pc = .ok (.castore, 1)) {w' : va_W} (hw : w.set q0 (a, .inl (cA, n, .inl (upd f i.toNatClampNeg (vp_nar .char x)))) = w') (k : GW p l e R s m args below meth c Q D cl A nL cells slots w' (pc + 1) lv st) : GW p l e R s m args below meth c Q D cl A nL cells slots w pc lv (.int x :: .int i :: .ref a :: st) :=
  fun H locs ls hP hD hS hl => va_cast C.1 C.2.1 C.2.2.2.2.2.1 hP hD hS q0 t0 ha ht hin hd (fun H1 locs1 hP1 hD1 hS1 => k H1 locs1 ls (hw ▸ hP1) (hw ▸ hD1) hS1 hl)
theorem gw_alen (C : GC p s m args meth c cc nL ret own Ts D cl tys A Z) (q0 t0 : Nat) {cA : ClassId} {a : Nat} {x : vp_A} (ha : w[q0]? = some (a, .inl (cA, x))) {ty : FieldType} (ht : tys[t0]? = some (cA, ty)) {v : Int32} (hv : Int32.ofNat x.1 = v) (hd : decode cc pc = .ok (.arraylength, 1)) (k : GW p l e R s m args below meth c Q D cl A nL cells slots w (pc + 1) lv (.int v :: st)) : GW p l e R s m args below meth c Q D cl A nL cells slots w pc lv (.ref a :: st) :=
  fun H locs ls hP hD hS hl => va_alen C.1 C.2.1 C.2.2.2.2.2.1 hP q0 t0 ha ht hv hd (k H locs ls hP hD hS hl)
theorem gw_iret (C : GC p s m args meth c cc nL (some .int) own Ts D cl tys A Z) {v : Int32} (hd : decode cc pc = .ok (.ireturn, 1)) : GW p l e R s m args below meth c (MQ below (QW D cl tys A (some (.int v)) w) args s cells slots A) D cl A nL cells slots w pc lv [.int v] :=
  fun _ _ _ hP hD hS _ => W.iret C.1 C.2.1 C.2.2.2.2.2.2.2.1 (fun t ht hW => ⟨rfl, by rw [ht]; exact hP, va_K.moved hW.alike C.2.2.2.2.2.1, hD, hS.F ht⟩) hS.2.2 hd C.2.2.2.2.2.2.1
theorem gw_zret {ty : FieldType} (C : GC p s m args meth c cc nL (some ty) own Ts D cl tys A Z) {v : Int32} (hn : narrow ty (.int v) = .int v) (hd : decode cc pc = .ok (.ireturn, 1)) : GW p l e R s m args below meth c (MQ below (QW D cl tys A (some (.int v)) w) args s cells slots A) D cl A nL cells slots w pc lv [.int v] :=
  fun _ _ _ hP hD hS _ => W.zret C.1 C.2.1 C.2.2.2.2.2.2.2.1 hn (fun t ht hW => ⟨rfl, by rw [ht]; exact hP, va_K.moved hW.alike C.2.2.2.2.2.1, hD, hS.F ht⟩) hS.2.2 hd C.2.2.2.2.2.2.1
theorem gw_vret (C : GC p s m args meth c cc nL none own Ts D cl tys A Z) (hd : decode cc pc = .ok (.return_, 1)) : GW p l e R s m args below meth c (MQ below (QW D cl tys A none w) args s cells slots A) D cl A nL cells slots w pc lv [] :=
  fun _ _ _ hP hD hS _ => W.vret C.1 C.2.1 C.2.2.2.2.2.2.2.1 (fun t ht hW => ⟨rfl, by rw [ht]; exact hP, va_K.moved hW.alike C.2.2.2.2.2.1, hD, hS.F ht⟩) hS.2.2 hd C.2.2.2.2.2.2.1
theorem gw_widen {k n : Nat} (h1 : cells ≤ k) (h2 : slots ≤ n) (kk : GW p l e R s m args below meth c Q D cl A nL k n w pc lv st) : GW p l e R s m args below meth c Q D cl A nL cells slots w pc lv st :=
  fun H locs ls hP hD hS hl => W.widen h1 h2 (kk H locs ls hP hD hS hl)
/-- a call's run, over the whole world -/
theorem gw_call {st0 rest : List Value} {a : Array Value} {oc : Option Value} {w' : va_W} {mc ms2 : Nat}
    (hA : ∀ q : Nat, s.heap.size ≤ q → A q)
    (hr : ∀ (H : Heap) (locs : List Loc) (ls : Array Slot), va_P D cl w H → va_D A w → va_S A s.heap H locs → lv_has ls nL lv → va_Run p l e R s m args below meth c H locs cells slots mc ms2 (F0 m pc ls st0) rest (QW D cl tys (va_A w H.size) oc w' a) (va_A w H.size))
    (k : GW p l e R s m args below meth c Q D cl A nL (cells + mc) (slots + ms2) w' (pc + 3) lv (oc.toList ++ rest)) : GW p l e R s m args below meth c Q D cl A nL cells slots w pc lv st0 := by
  intro H locs ls hP hD hS hl T hT X
  obtain ⟨v, st₀, t, T', L, h0, X', hL, e1, e2, ⟨ho, hP1, hK1, hD1, hz, hkp⟩, st⟩ := hr H locs ls hP hD hS hl T hT X
  cases ho
  rw [h0] at hz hkp
  have hF : ∀ q, va_A w H.size q → A q := by
    intro q h
    rcases h with ⟨j, x, h⟩ | h
    · exact hD.2 j (q, x) h
    · exact hA q (Nat.le_trans hS.1 h)
  have hS1 : va_S A s.heap T'.heap (locs ++ L) := ⟨Nat.le_trans hS.1 (by rw [e1]; exact hz), fun q h1 h2 => by rw [e1, hkp q (Nat.lt_of_lt_of_le h1 hS.1) (fun z => h2 (hF q z))]; exact hS.2.1 q h1 h2, fun q hq => by
    rcases List.mem_append.mp hq with h | h
    · exact hS.2.2 q h
    · exact hF _ (hL q h)⟩
  obtain ⟨t2, a1, b1⟩ := k T'.heap (locs ++ L) ls (by rw [e1]; exact hP1) (hD1.weaken (fun _ q _ h => hF q.1 h)) hS1 hl T' rfl X'
  exact ⟨t2, st t2 a1, b1⟩
theorem gw_pre (hZ : gw_ZOK Z) {av : List Value} {sz : Nat} : FrameBlind (va_Pc av (fun U => U.heap.size = sz ∧ va_P D cl w U.heap ∧ va_K D cl tys U ∧ va_D (fun _ => True) w ∧ Z (va_A w sz) U U.heap)) := fun a U g mk q => by
  obtain ⟨q0, q1, qP, qK, qD, qZ⟩ := q
  exact ⟨q0, q1, qP, va_K.moved (u := U) (U := U.calling g mk a) (Vm.Alike.refl U.vm) qK, qD, hZ.2 _ U (U.calling g mk a) _ rfl qZ⟩
theorem gw_sub_A (hA : ∀ q : Nat, s.heap.size ≤ q → A q) {H : Heap} {locs : List Loc} (hD : va_D A w) (hS : va_S A s.heap H locs) : ∀ q, va_A w H.size q → A q := by
  intro q h
  rcases h with ⟨j, x, h⟩ | h
  · exact hD.2 j (q, x) h
  · exact hA q (Nat.le_trans hS.1 h)
theorem gw_at {av : List Value} (C : GC p s m args meth c cc nL ret own Ts D cl tys A Z) {H : Heap} {locs : List Loc} (hP : va_P D cl w H) (hD : va_D A w) (hS : va_S A s.heap H locs) : ∀ U : State, U.heap = H → s.WarmedH U.vm → va_Pc av (fun U => U.heap.size = H.size ∧ va_P D cl w U.heap ∧ va_K D cl tys U ∧ va_D (fun _ => True) w ∧ Z (va_A w H.size) U U.heap) av.toArray U :=
  fun U hU hW => ⟨rfl, by rw [hU], by rw [hU]; exact hP, va_K.moved hW.alike C.2.2.2.2.2.1, hD.weaken (fun _ _ _ _ => trivial), C.2.2.2.2.2.2.2.2.2.2.1 A (va_A w H.size) s U s.heap U.heap hW (gw_sub_A C.2.2.2.2.2.2.2.2.1 hD hS) (by rw [hU]; exact hS.2.1) C.2.2.2.2.2.2.2.2.2.1⟩
variable {y : MethodName} {bytes : ByteArray} {maxL mc ms2 n index : Nat} {retc : Option FieldType} {ws : List Cond} {rm : Room} {As rest : List Value} {oc : Option Value} {w' : va_W} {C' : String}
theorem gw_callV (C : GC p s m args meth c cc nL ret own Ts D cl tys A Z) (q0 : Nat) {ci b : Nat} {fs : List Value} {T : u_T} {N : Nat} (he : w[q0]? = some (b, .inr (ci, fs))) (hc : cl[ci]? = some (C', T, N)) (hM : CW l y ws rm D cl tys Z (.ref b :: As) w oc w' mc ms2) (cw : CallW R s args own C' index y bytes maxL retc ws rm mc ms2 n)
    (hn : As.length = n) (hst : st = As.reverse ++ .ref b :: rest) (hroom : (rest.map fun v => v.category).sum ≤ 8) (hd : decode cc pc = .ok (.invokevirtual index, 3)) (hf : cells + mc ≤ R.cells ∧ slots + ms2 ≤ R.slots)
    (k : GW p l e R s m args below meth c Q D cl A nL (cells + mc) (slots + ms2) w' (pc + 3) lv (oc.toList ++ rest)) : GW p l e R s m args below meth c Q D cl A nL cells slots w pc lv st :=
  gw_call C.2.2.2.2.2.2.2.2.1 (fun H locs ls hP hD hS hl => va_runV ⟨C.1, C.2.1, C.2.2.1, C.2.2.2.1, C.2.2.2.2.1⟩ (hM H.size) cw ⟨gw_pre C.2.2.2.2.2.2.2.2.2.2, va_recv C.2.2.2.2.2.1 hP hc he, gw_at C hP hD hS⟩ rfl hn hl.1 hst (lv_room hroom) hd hf) k
theorem gw_callS (C : GC p s m args meth c cc nL ret own Ts D cl tys A Z) (hM : CW l y ws rm D cl tys Z As w oc w' mc ms2) (cw : CallB R s args own index y bytes maxL retc ws rm mc ms2 n ∧ (Cond.static y).before args s = true)
    (hn : As.length = n) (hst : st = As.reverse ++ rest) (hroom : (rest.map fun v => v.category).sum ≤ 8) (hd : decode cc pc = .ok (.invokestatic index, 3)) (hf : cells + mc ≤ R.cells ∧ slots + ms2 ≤ R.slots)
    (k : GW p l e R s m args below meth c Q D cl A nL (cells + mc) (slots + ms2) w' (pc + 3) lv (oc.toList ++ rest)) : GW p l e R s m args below meth c Q D cl A nL cells slots w pc lv st :=
  gw_call C.2.2.2.2.2.2.2.2.1 (fun H locs ls hP hD hS hl => va_runS ⟨C.1, C.2.1, C.2.2.1, C.2.2.2.1, C.2.2.2.2.1⟩ (hM H.size) cw ⟨gw_pre C.2.2.2.2.2.2.2.2.2.2, gw_at C hP hD hS⟩ rfl hn hl.1 hst (lv_room hroom) hd hf) k
theorem gw_callI (C : GC p s m args meth c cc nL ret own Ts D cl tys A Z) {b : Nat} (hM : CW l y ws rm D cl tys Z (.ref b :: As) w oc w' mc ms2) (cw : CallB R s args own index y bytes maxL none ws rm mc ms2 n ∧ y.name = "<init>" ∧ (Cond.instanceMethod y).before args s = true)
    (hn : As.length = n) (hst : st = As.reverse ++ .ref b :: rest) (hroom : (rest.map fun v => v.category).sum ≤ 8) (hd : decode cc pc = .ok (.invokespecial index, 3)) (hf : cells + mc ≤ R.cells ∧ slots + ms2 ≤ R.slots)
    (k : GW p l e R s m args below meth c Q D cl A nL (cells + mc) (slots + ms2) w' (pc + 3) lv (oc.toList ++ rest)) : GW p l e R s m args below meth c Q D cl A nL cells slots w pc lv st :=
  gw_call C.2.2.2.2.2.2.2.2.1 (fun H locs ls hP hD hS hl => va_runI ⟨C.1, C.2.1, C.2.2.1, C.2.2.2.1, C.2.2.2.2.1⟩ (hM H.size) cw ⟨gw_pre C.2.2.2.2.2.2.2.2.2.2, gw_at C hP hD hS⟩ rfl hn hl.1 hst (lv_room hroom) hd hf) k
end GWS
/-- a contract out of a walk from the entry -/
theorem CW.ofG {l : Launch} {y : MethodName} {ws ws' : List Cond} {rm : Room} {D : va_G} {cl : List vw_C} {tys : List (ClassId × FieldType)} {av : List Value} {w wf : va_W} {oc : Option Value} {mc ms : Nat} {cc : ByteArray} {nL : Nat} {ret : Option FieldType} {Z : gw_Z} (hZ : gw_ZOK Z)
    (hy : plainName y.cls = true) (hw : ws = Cond.code y cc nL ret :: ws') (hlen : (lg_sl av).length ≤ nL)
    (body : ∀ (p : Program) (e : Env) (s : State) (m : MethodId) (below : List Frame) (meth : Method) (c : Code) (A : Nat → Prop), GC p s m av.toArray meth c cc nL ret y.cls ws' D cl tys A Z → meth.name = y.name → GW p l e rm s m av.toArray below meth c (MQ below (QW D cl tys A oc wf) av.toArray s mc ms A) D cl A nL 0 0 w 0 (lv_args 0 av) []) : CW l y ws rm D cl tys Z av w oc wf mc ms := by
  intro sz
  refine Met.ofW (cc := cc) (maxL := nL) (ret := ret) hy hw ?_
  intro p e s m args below meth c s₁ B hml hv
  obtain ⟨rfl, hsz, hP, hK, hD0, hz⟩ := hv
  subst hsz
  have hts := atoms_spec (ws := ws) B.pre
  have hown : s.vm.findClass y.cls = some m.cls := findClass_of_methodNamed B.named
  have hl := lv_entry av (n := nL) hlen
  rw [lg_entry_eq]
  exact body p e s m below meth c (va_A w s.heap.size) ⟨B.exec, B.bytes, hml, hown, fun z h => hts z (by rw [hw]; exact List.mem_cons_of_mem _ h), hK, B.notSynchronized, B.returns, fun q h => Or.inr h, hz, hZ⟩ (name_of_methodNamed B.named B.method).1 s.heap [] _ hP hD0.self va_S.rf hl
/-! what a walk's function is made of -/
def inb (i : Int32) (n : Nat) : Bool := decide (¬ (i < 0 ∨ n ≤ i.toNatClampNeg))
def gd {α : Type} (b : Bool) (o : Option α) : Option α := if b = true then o else none
def ob {α β : Type} (o : Option (α × Mem)) (k : α → Mem → Option β) : Option β := match o with
  | some (r, M) => k r M
  | none => none
def om {β : Type} (o : Option Mem) (k : Mem → Option β) : Option β := match o with
  | some M => k M
  | none => none
theorem gd_some {α : Type} {i : Int32} {n : Nat} {o : Option α} {b : α} (h : gd (inb i n) o = some b) : vp_in i n ∧ o = some b := by
  unfold gd at h
  split at h
  · next hc =>
    have h0 : ¬ (i < 0 ∨ n ≤ i.toNatClampNeg) := of_decide_eq_true hc
    exact ⟨h0, h⟩
  · cases h
theorem gd_ne {α : Type} {i : Int32} {o : Option α} {b : α} (h : gd (decide (¬ i = 0)) o = some b) : (¬ i = 0) ∧ o = some b := by
  unfold gd at h
  split at h
  · next hc => exact ⟨of_decide_eq_true hc, h⟩
  · cases h
theorem ob_some {α β : Type} {o : Option (α × Mem)} {k : α → Mem → Option β} {b : β} (h : ob o k = some b) : ∃ (r : α) (M : Mem), o = some (r, M) ∧ k r M = some b := by
  cases o with
  | none => cases h
  | some q => exact ⟨q.1, q.2, rfl, h⟩
theorem om_some {β : Type} {o : Option Mem} {k : Mem → Option β} {b : β} (h : om o k = some b) : ∃ (M : Mem), o = some M ∧ k M = some b := by
  cases o with
  | none => cases h
  | some q => exact ⟨q, rfl, h⟩
section GWR
variable {p : Program} {l : Launch} {e : Env} {R : Room} {s : State} {m : MethodId} {args : Array Value} {below : List Frame} {meth : Method} {c : Code} {Q : State → Prop} {D : va_G} {cl : List vw_C} {tys : List (ClassId × FieldType)} {A : Nat → Prop} {nL cells slots : Nat} {w : va_W} {pc : Nat} {lv lv' : List (Nat × Value)} {st : List Value} {cc : ByteArray} {ret : Option FieldType} {own : String} {Ts : List Cond} {Z : gw_Z}
theorem gw_ireti (C : GC p s m args meth c cc nL (some .int) own Ts D cl tys A Z) {v r : Int32} {M M' : Mem} (hd : decode cc pc = .ok (.ireturn, 1)) (wd : Mem → va_W) (hf : some (v, M) = some (r, M')) : GW p l e R s m args below meth c (MQ below (QW D cl tys A (some (.int r)) (wd M')) args s cells slots A) D cl A nL cells slots (wd M) pc lv [.int v] := by
  cases hf
  exact gw_iret C hd
theorem gw_zreti {ty : FieldType} (C : GC p s m args meth c cc nL (some ty) own Ts D cl tys A Z) {v r : Int32} {M M' : Mem} (hd : decode cc pc = .ok (.ireturn, 1)) (wd : Mem → va_W) (hn : narrow ty (.int v) = .int v) (hf : some (v, M) = some (r, M')) : GW p l e R s m args below meth c (MQ below (QW D cl tys A (some (.int r)) (wd M')) args s cells slots A) D cl A nL cells slots (wd M) pc lv [.int v] := by
  cases hf
  exact gw_zret C hn hd
theorem gw_vreti (C : GC p s m args meth c cc nL none own Ts D cl tys A Z) {M M' : Mem} (hd : decode cc pc = .ok (.return_, 1)) (wd : Mem → va_W) (hf : some M = some M') : GW p l e R s m args below meth c (MQ below (QW D cl tys A none (wd M')) args s cells slots A) D cl A nL cells slots (wd M) pc lv [] := by
  cases hf
  exact gw_vret C hd
variable {y : MethodName} {bytes : ByteArray} {maxL n index : Nat} {retc : Option FieldType} {ws : List Cond} {rm : Room} {As rest : List Value} {v : Value} {w' : va_W} {C' : String}
theorem gw_callVr (C : GC p s m args meth c cc nL ret own Ts D cl tys A Z) (q0 : Nat) {ci b : Nat} {fs : List Value} {T : u_T} {N : Nat} (he : w[q0]? = some (b, .inr (ci, fs))) (hc : cl[ci]? = some (C', T, N)) (hM : CW l y ws rm D cl tys Z (.ref b :: As) w (some v) w' 0 0) (cw : CallW R s args own C' index y bytes maxL retc ws rm 0 0 n)
    (hn : As.length = n) (hst : st = As.reverse ++ .ref b :: rest) (hroom : (rest.map fun v => v.category).sum ≤ 8) (hd : decode cc pc = .ok (.invokevirtual index, 3)) (hf : cells ≤ R.cells ∧ slots ≤ R.slots)
    (k : GW p l e R s m args below meth c Q D cl A nL cells slots w' (pc + 3) lv (v :: rest)) : GW p l e R s m args below meth c Q D cl A nL cells slots w pc lv st := gw_callV C q0 he hc hM cw hn hst hroom hd hf k
theorem gw_callVv (C : GC p s m args meth c cc nL ret own Ts D cl tys A Z) (q0 : Nat) {ci b : Nat} {fs : List Value} {T : u_T} {N : Nat} (he : w[q0]? = some (b, .inr (ci, fs))) (hc : cl[ci]? = some (C', T, N)) (hM : CW l y ws rm D cl tys Z (.ref b :: As) w none w' 0 0) (cw : CallW R s args own C' index y bytes maxL retc ws rm 0 0 n)
    (hn : As.length = n) (hst : st = As.reverse ++ .ref b :: rest) (hroom : (rest.map fun v => v.category).sum ≤ 8) (hd : decode cc pc = .ok (.invokevirtual index, 3)) (hf : cells ≤ R.cells ∧ slots ≤ R.slots)
    (k : GW p l e R s m args below meth c Q D cl A nL cells slots w' (pc + 3) lv rest) : GW p l e R s m args below meth c Q D cl A nL cells slots w pc lv st := gw_callV C q0 he hc hM cw hn hst hroom hd hf k
theorem gw_callSr (C : GC p s m args meth c cc nL ret own Ts D cl tys A Z) (hM : CW l y ws rm D cl tys Z As w (some v) w' 0 0) (cw : CallB R s args own index y bytes maxL retc ws rm 0 0 n ∧ (Cond.static y).before args s = true)
    (hn : As.length = n) (hst : st = As.reverse ++ rest) (hroom : (rest.map fun v => v.category).sum ≤ 8) (hd : decode cc pc = .ok (.invokestatic index, 3)) (hf : cells ≤ R.cells ∧ slots ≤ R.slots)
    (k : GW p l e R s m args below meth c Q D cl A nL cells slots w' (pc + 3) lv (v :: rest)) : GW p l e R s m args below meth c Q D cl A nL cells slots w pc lv st := gw_callS C hM cw hn hst hroom hd hf k
theorem gw_callSv (C : GC p s m args meth c cc nL ret own Ts D cl tys A Z) (hM : CW l y ws rm D cl tys Z As w none w' 0 0) (cw : CallB R s args own index y bytes maxL retc ws rm 0 0 n ∧ (Cond.static y).before args s = true)
    (hn : As.length = n) (hst : st = As.reverse ++ rest) (hroom : (rest.map fun v => v.category).sum ≤ 8) (hd : decode cc pc = .ok (.invokestatic index, 3)) (hf : cells ≤ R.cells ∧ slots ≤ R.slots)
    (k : GW p l e R s m args below meth c Q D cl A nL cells slots w' (pc + 3) lv rest) : GW p l e R s m args below meth c Q D cl A nL cells slots w pc lv st := gw_callS C hM cw hn hst hroom hd hf k
end GWR
section GWN
variable {p : Program} {l : Launch} {e : Env} {R : Room} {s : State} {m : MethodId} {args : Array Value} {below : List Frame} {meth : Method} {c : Code} {H : Heap} {locs : List Loc} {Q : State → Prop} {D : va_G} {cl : List vw_C} {tys : List (ClassId × FieldType)} {A : Nat → Prop} {nL cells slots : Nat} {w : va_W} {pc : Nat} {lv lv' : List (Nat × Value)} {st : List Value} {cc : ByteArray} {ret : Option FieldType} {own : String} {Ts : List Cond} {Z : gw_Z}
/-- an answer that is narrowed on its way out -/
theorem gw_Wzret {Qc : Array Value → State → Outcome → State → Prop} {free : Addr → Prop} {v v' : Int32} {ty : FieldType} (hexec : p.tables.exec = Jvm.exec) (hb : c.code = cc) (hr : meth.sig.returnType = some ty) (hn : narrow ty (.int v) = .int v')
    (hq : ∀ t : State, t.heap = H → s.WarmedH t.vm → Qc args s (.returned (some (.int v'))) t) (hf : ∀ q ∈ locs, free q.base)
    {ls : Array Slot} (hdg : decode cc pc = .ok (.ireturn, 1)) (hlocks : meth.locks = false) : W p l e R s m args below meth c H locs cells slots (MQ below Qc args s cells slots free) (F0 m pc ls [.int v]) := by
  intro T hT X
  have hlocks : meth.locks = false := hlocks
  obtain ⟨fs, hret, hrun, hended, hW, hframe⟩ := X.leave (v := some (.int v')) (fun h => by rw [hr] at h; cases h)
  have hmeth' : T.vm.method? m = some meth := X.method'
  refine ⟨T.setFrames fs, ?_, .returned (some (.int v')), hrun, hended, hq _ hT hW, locs, ⟨⟨_, rfl⟩, hW, hframe⟩, hf⟩
  jvm_step X.here [X.here.top, hexec, hb, hdg, hmeth', hr, hn]
  (try refine ⟨rfl, ?_⟩); (try refine ⟨rfl, ?_⟩)
  first | (intro acts; rw [hret _ acts rfl rfl rfl]) | rw [hret _ _ rfl rfl rfl]
  exact Steps.refl _
theorem gw_zretn {ty : FieldType} (C : GC p s m args meth c cc nL (some ty) own Ts D cl tys A Z) {v r : Int32} {M M' : Mem} (hd : decode cc pc = .ok (.ireturn, 1)) (wd : Mem → va_W) (hn : narrow ty (.int v) = .int (vp_nar ty v)) (hf : some (vp_nar ty v, M) = some (r, M')) : GW p l e R s m args below meth c (MQ below (QW D cl tys A (some (.int r)) (wd M')) args s cells slots A) D cl A nL cells slots (wd M) pc lv [.int v] := by
  cases hf
  exact fun _ _ _ hP hD hS _ => gw_Wzret C.1 C.2.1 C.2.2.2.2.2.2.2.1 hn (fun t ht hW => ⟨rfl, by rw [ht]; exact hP, va_K.moved hW.alike C.2.2.2.2.2.1, hD, hS.F ht⟩) hS.2.2 hd C.2.2.2.2.2.2.1
end GWN
theorem nar_b (v : Int32) : narrow .boolean (.int v) = .int (vp_nar .boolean v) := rfl
theorem nar_c (v : Int32) : narrow .char (.int v) = .int (vp_nar .char v) := rfl
theorem nar_y (v : Int32) : narrow .byte (.int v) = .int (vp_nar .byte v) := rfl
section GWL
variable {p : Program} {l : Launch} {e : Env} {R : Room} {s : State} {m : MethodId} {args : Array Value} {below : List Frame} {meth : Method} {c : Code} {Q : State → Prop} {D : va_G} {cl : List vw_C} {tys : List (ClassId × FieldType)} {A : Nat → Prop} {nL cells slots : Nat} {w : va_W} {pc : Nat} {lv lv' : List (Nat × Value)} {st : List Value} {cc : ByteArray} {ret : Option FieldType} {own : String} {Ts : List Cond} {Z : gw_Z}
theorem gw_lload_n (C : GC p s m args meth c cc nL ret own Ts D cl tys A Z) {f : Fin 4} {i : Nat} {x : Int64} (j : Nat) (hd : decode cc pc = .ok (.lload_n f, 1)) (hi : (f : Nat) = i) (hj : lv[j]? = some (i, .long x)) (k : GW p l e R s m args below meth c Q D cl A nL cells slots w (pc + 1) lv (.long x :: st)) : GW p l e R s m args below meth c Q D cl A nL cells slots w pc lv st :=
  fun H locs ls hP hD hS hl => lv_lload_n C.1 C.2.1 hd hi (lv_at hl j hj) (k H locs ls hP hD hS hl)
theorem gw_ldc2 (C : GC p s m args meth c cc nL ret own Ts D cl tys A Z) {index : Nat} {v : Int64} (hd : decode cc pc = .ok (.ldc2_w index, 3)) (hc : Cond.constantLong own index v ∈ Ts) (k : GW p l e R s m args below meth c Q D cl A nL cells slots w (pc + 3) lv (.long v :: st)) : GW p l e R s m args below meth c Q D cl A nL cells slots w pc lv st :=
  fun H locs ls hP hD hS hl => lv_ldc2 C.1 C.2.1 C.2.2.2.1 (C.2.2.2.2.1 _ hc) hd (k H locs ls hP hD hS hl)
theorem gw_lconst (C : GC p s m args meth c cc nL ret own Ts D cl tys A Z) {n : Fin 2} {v : Int64} (hd : decode cc pc = .ok (.lconst n, 1)) (hv : Int64.ofNat (n : Nat) = v) (k : GW p l e R s m args below meth c Q D cl A nL cells slots w (pc + 1) lv (.long v :: st)) : GW p l e R s m args below meth c Q D cl A nL cells slots w pc lv st :=
  fun H locs ls hP hD hS hl => lv_lconst C.1 C.2.1 hd hv (k H locs ls hP hD hS hl)
theorem gw_lushr (C : GC p s m args meth c cc nL ret own Ts D cl tys A Z) {x : Int64} {y : Int32} (hd : decode cc pc = .ok (.lushr, 1)) (k : GW p l e R s m args below meth c Q D cl A nL cells slots w (pc + 1) lv (.long (x.toUInt64 >>> (y.toInt64.toUInt64 &&& Int64.toUInt64 63)).toInt64 :: st)) : GW p l e R s m args below meth c Q D cl A nL cells slots w pc lv (.int y :: .long x :: st) :=
  fun H locs ls hP hD hS hl => lv_lushr C.1 C.2.1 hd rfl (k H locs ls hP hD hS hl)
theorem gw_land (C : GC p s m args meth c cc nL ret own Ts D cl tys A Z) {x y : Int64} (hd : decode cc pc = .ok (.land, 1)) (k : GW p l e R s m args below meth c Q D cl A nL cells slots w (pc + 1) lv (.long (x &&& y) :: st)) : GW p l e R s m args below meth c Q D cl A nL cells slots w pc lv (.long y :: .long x :: st) :=
  fun H locs ls hP hD hS hl => lv_land C.1 C.2.1 hd (k H locs ls hP hD hS hl)
theorem gw_lcmp (C : GC p s m args meth c cc nL ret own Ts D cl tys A Z) {x y : Int64} (hd : decode cc pc = .ok (.lcmp, 1)) (k : GW p l e R s m args below meth c Q D cl A nL cells slots w (pc + 1) lv (.int (lg_cmp x y) :: st)) : GW p l e R s m args below meth c Q D cl A nL cells slots w pc lv (.long y :: .long x :: st) :=
  fun H locs ls hP hD hS hl => W.lcmp C.1 C.2.1 hd (k H locs ls hP hD hS hl)
theorem gw_l2i (C : GC p s m args meth c cc nL ret own Ts D cl tys A Z) {x : Int64} (hd : decode cc pc = .ok (.l2i, 1)) (k : GW p l e R s m args below meth c Q D cl A nL cells slots w (pc + 1) lv (.int x.toInt32 :: st)) : GW p l e R s m args below meth c Q D cl A nL cells slots w pc lv (.long x :: st) :=
  fun H locs ls hP hD hS hl => lv_l2i C.1 C.2.1 hd rfl (k H locs ls hP hD hS hl)
end GWL
