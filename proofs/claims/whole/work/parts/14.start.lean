theorem ts_85 : Cond.instantiable "NoneWords$Facts" 11 ∈ TB := inTB 85 (by decide +kernel) (by decide +kernel)
theorem ts_204 : Cond.instantiable "NoneWords$Search" 5 ∈ TB := inTB 204 (by decide +kernel) (by decide +kernel)
theorem ts_181 : Cond.instantiable "NoneWords$Speech" 5 ∈ TB := inTB 181 (by decide +kernel) (by decide +kernel)
theorem ts_129 : Cond.instantiable "NoneWords$Writer" 15 ∈ TB := inTB 129 (by decide +kernel) (by decide +kernel)
theorem ts_77 : Cond.instantiable "NoneWords" 4 ∈ TB := inTB 77 (by decide +kernel) (by decide +kernel)
theorem ts_680 : Cond.instantiable "NoneWordsModel" 28 ∈ TB := inTB 680 (by decide +kernel) (by decide +kernel)
theorem ts_65 : Cond.initialized "NoneWords" ∈ TB := inTB 65 (by decide +kernel) (by decide +kernel)
theorem ts_71 : Cond.initialized "NoneWordsModel" ∈ TB := inTB 71 (by decide +kernel) (by decide +kernel)
theorem ts_76 : Cond.classLink "NoneWordsLaw" 7 "NoneWords" ∈ TB := inTB 76 (by decide +kernel) (by decide +kernel)
theorem ts_679 : Cond.classLink "NoneWordsLaw" 10 "NoneWordsModel" ∈ TB := inTB 679 (by decide +kernel) (by decide +kernel)
theorem ts_127 : Cond.arrayClass FieldType.int ∈ TB := inTB 127 (by decide +kernel) (by decide +kernel)
theorem ts_225 : Cond.arrayClass FieldType.boolean ∈ TB := inTB 225 (by decide +kernel) (by decide +kernel)
theorem ts_202 : Cond.arrayClass FieldType.char ∈ TB := inTB 202 (by decide +kernel) (by decide +kernel)
theorem ts_78 : Cond.methodLink "NoneWordsLaw" 9 ⟨"NoneWords", "<init>", "()V"⟩ ∈ TB := inTB 78 (by decide +kernel) (by decide +kernel)
theorem ts_681 : Cond.methodLink "NoneWordsLaw" 12 ⟨"NoneWordsModel", "<init>", "()V"⟩ ∈ TB := inTB 681 (by decide +kernel) (by decide +kernel)
theorem ts_79 : Cond.instanceMethod y_N_init ∈ TB := inTB 79 (by decide +kernel) (by decide +kernel)
theorem ts_682 : Cond.instanceMethod y_K_init ∈ TB := inTB 682 (by decide +kernel) (by decide +kernel)
def idxS (i : Nat) : Nat := (stxS.getD i (0, 0, "")).2.1
def basS : List Nat := [9, 21, 38, 50, 57, 80, 94, 107, 127, 153, 179, 197, 220, 243, 266, 297, 323, 356, 387, 411]
def FL : List Cond := flatC (Jvm.Cond.and given_1 narrow_1)
theorem m_ex_p : ∀ i, i < 20 → FL[basS.getD i 0 + 0]? = some (Cond.exactly (Term.string "NoneWords$Speech" (idxS i)) "java/lang/String") := by decide +kernel
theorem m_ex (i : Nat) (hi : i < 20) : Cond.exactly (Term.string "NoneWords$Speech" (idxS i)) "java/lang/String" ∈ flatC (Jvm.Cond.and given_1 narrow_1) := List.mem_of_getElem? (m_ex_p i hi)
theorem m_co_p : ∀ i, i < 20 → FL[basS.getD i 0 + 1]? = some (Cond.eq (.field (Term.string "NoneWords$Speech" (idxS i)) "java/lang/String" "coder" "B") (.int 0)) := by decide +kernel
theorem m_co (i : Nat) (hi : i < 20) : Cond.eq (.field (Term.string "NoneWords$Speech" (idxS i)) "java/lang/String" "coder" "B") (.int 0) ∈ flatC (Jvm.Cond.and given_1 narrow_1) := List.mem_of_getElem? (m_co_p i hi)
theorem m_ar_p : ∀ i, i < 20 → FL[basS.getD i 0 + 2]? = some (Cond.arrayOf (.field (Term.string "NoneWords$Speech" (idxS i)) "java/lang/String" "value" "[B") .byte) := by decide +kernel
theorem m_ar (i : Nat) (hi : i < 20) : Cond.arrayOf (.field (Term.string "NoneWords$Speech" (idxS i)) "java/lang/String" "value" "[B") .byte ∈ flatC (Jvm.Cond.and given_1 narrow_1) := List.mem_of_getElem? (m_ar_p i hi)
theorem m_le_p : ∀ i, i < 20 → FL[basS.getD i 0 + 3]? = some (Cond.eq (.length (.field (Term.string "NoneWords$Speech" (idxS i)) "java/lang/String" "value" "[B")) (.int (Int32.ofNat (lenS.getD i 0)))) := by decide +kernel
theorem m_le (i : Nat) (hi : i < 20) : Cond.eq (.length (.field (Term.string "NoneWords$Speech" (idxS i)) "java/lang/String" "value" "[B")) (.int (Int32.ofNat (lenS.getD i 0))) ∈ flatC (Jvm.Cond.and given_1 narrow_1) := List.mem_of_getElem? (m_le_p i hi)
theorem m_el_p : ∀ i, i < 20 → ∀ j, j < lenS.getD i 0 → FL[basS.getD i 0 + 4 + j]? = some (Cond.eq (.elem (.field (Term.string "NoneWords$Speech" (idxS i)) "java/lang/String" "value" "[B") (.int (Int32.ofNat j))) (.int ((bytS.getD i []).getD j 0))) := by decide +kernel
theorem m_el (i : Nat) (hi : i < 20) (j : Nat) (hj : j < lenS.getD i 0) : Cond.eq (.elem (.field (Term.string "NoneWords$Speech" (idxS i)) "java/lang/String" "value" "[B") (.int (Int32.ofNat j))) (.int ((bytS.getD i []).getD j 0)) ∈ flatC (Jvm.Cond.and given_1 narrow_1) := List.mem_of_getElem? (m_el_p i hi j hj)
theorem m_ne_p : ∀ i, i < 20 → ∀ j, j < i → FL[basS.getD i 0 + 4 + lenS.getD i 0 + j]? = some (Cond.not (Cond.eq (Term.string "NoneWords$Speech" (idxS j)) (Term.string "NoneWords$Speech" (idxS i)))) := by decide +kernel
theorem m_ne (i : Nat) (hi : i < 20) (j : Nat) (hj : j < 20) (hij : i ≠ j) : Cond.not (Cond.eq (Term.string "NoneWords$Speech" (idxS i)) (Term.string "NoneWords$Speech" (idxS j))) ∈ flatC (Jvm.Cond.and given_1 narrow_1) ∨ Cond.not (Cond.eq (Term.string "NoneWords$Speech" (idxS j)) (Term.string "NoneWords$Speech" (idxS i))) ∈ flatC (Jvm.Cond.and given_1 narrow_1) := by
  rcases Nat.lt_or_ge j i with h | h
  · exact Or.inr (List.mem_of_getElem? (m_ne_p i hi j h))
  · exact Or.inl (List.mem_of_getElem? (m_ne_p j hj i (by omega)))
theorem m_sx : ∀ i, i < 20 → (stxS.getD i (0, 0, "")).1 = i ∧ Cond.stringRef "NoneWords$Speech" (idxS i) (stxS.getD i (0, 0, "")).2.2 ∈ lw_tbl := by decide +kernel
theorem m_ls : Cond.laysStatic "java/lang/String" "COMPACT_STRINGS" "Z" ∈ lw_tbl ∧ Cond.laysStatic "jdk/internal/util/Preconditions" "SIOOBE_FORMATTER" "Ljava/util/function/BiFunction;" ∈ lw_tbl ∧ Cond.initialized "java/lang/String" ∈ lw_tbl ∧ Cond.initialized "jdk/internal/util/Preconditions" ∈ lw_tbl := by decide +kernel
theorem m_st : Cond.eq (.static "java/lang/String" "COMPACT_STRINGS" "Z") (.int 1) ∈ flatC (Jvm.Cond.and given_1 narrow_1) ∧ Cond.isRef (.static "jdk/internal/util/Preconditions" "SIOOBE_FORMATTER" "Ljava/util/function/BiFunction;") ∈ flatC (Jvm.Cond.and given_1 narrow_1) := by decide +kernel
set_option maxRecDepth 100000 in
theorem start_of {p : Program} {e : Env} {s : State} {m : MethodId} {below : List Frame} {meth : Method} {c : Code} (l : Launch) {b L : Nat} {xs : Nat → Int32} (hL : L ≤ 3072) (C0 : lw_At p s m meth c b L xs) {Inv : Mem → Mem → Prop} (hI0 : Inv M0 K0) (hs_name : ∀ (x1 : Int32) (M1 M2 : Mem), Inv M1 M2 → ∃ (r : Int32) (M1' M2' : Mem), f_N_name x1 M1 = some (r, M1') ∧ f_K_name x1 M2 = some (r, M2') ∧ Inv M1' M2') (hs_leaf : ∀ (x1 x2 x3 x4 x5 : Int32) (M1 M2 : Mem), Inv M1 M2 → ∃ (r : Int32) (M1' M2' : Mem), f_N_leaf x1 x2 x3 x4 x5 M1 = some (r, M1') ∧ f_K_leaf x1 x2 x3 x4 x5 M2 = some (r, M2') ∧ Inv M1' M2') (hs_join : ∀ (x1 x2 x3 : Int32) (M1 M2 : Mem), Inv M1 M2 → ∃ (r : Int32) (M1' M2' : Mem), f_N_join x1 x2 x3 M1 = some (r, M1') ∧ f_K_join x1 x2 x3 M2 = some (r, M2') ∧ Inv M1' M2') (hs_terms : ∀ (x1 : Int32) (M1 M2 : Mem), Inv M1 M2 → ∃ (r : Int32) (M1' M2' : Mem), f_N_terms x1 M1 = some (r, M1') ∧ f_K_terms x1 M2 = some (r, M2') ∧ Inv M1' M2') (hs_term : ∀ (x1 x2 x3 : Int32) (M1 M2 : Mem), Inv M1 M2 → ∃ (r : Int32) (M1' M2' : Mem), f_N_term x1 x2 x3 M1 = some (r, M1') ∧ f_K_term x1 x2 x3 M2 = some (r, M2') ∧ Inv M1' M2') (hs_write : ∀ (x1 : Int32) (M1 M2 : Mem), Inv M1 M2 → ∃ (r : Int32) (M1' M2' : Mem), f_N_write x1 M1 = some (r, M1') ∧ f_K_write x1 M2 = some (r, M2') ∧ Inv M1' M2') (hs_sentence : ∀ (x1 : Int32) (M1 M2 : Mem), Inv M1 M2 → ∃ (r : Int32) (M1' M2' : Mem), f_N_sentence x1 M1 = some (r, M1') ∧ f_K_sentence x1 M2 = some (r, M2') ∧ Inv M1' M2') (hs_letter : ∀ (x1 x2 : Int32) (M1 M2 : Mem), Inv M1 M2 → ∃ (r : Int32) (M1' M2' : Mem), f_N_letter x1 x2 M1 = some (r, M1') ∧ f_K_letter x1 x2 M2 = some (r, M2') ∧ Inv M1' M2') (hs_line : ∀ (x1 : Int32) (M1 M2 : Mem), Inv M1 M2 → ∃ (r : Int32) (M1' M2' : Mem), f_N_line x1 M1 = some (r, M1') ∧ f_K_line x1 M2 = some (r, M2') ∧ Inv M1' M2') (hs_numbered : ∀ (x1 : Int32) (M1 M2 : Mem), Inv M1 M2 → ∃ (r : Int32) (M1' M2' : Mem), f_N_numbered x1 M1 = some (r, M1') ∧ f_K_numbered x1 M2 = some (r, M2') ∧ Inv M1' M2') (hs_solvable : ∀ (M1 M2 : Mem), Inv M1 M2 → ∃ (r : Int32) (M1' M2' : Mem), f_N_solvable M1 = some (r, M1') ∧ f_K_solvable M2 = some (r, M2') ∧ Inv M1' M2') (hs_least : ∀ (M1 M2 : Mem), Inv M1 M2 → ∃ (r : Int32) (M1' M2' : Mem), f_N_least M1 = some (r, M1') ∧ f_K_least M2 = some (r, M2') ∧ Inv M1' M2') (hs_demand : ∀ (x1 : Int32) (M1 M2 : Mem), Inv M1 M2 → ∃ (r : Int32) (M1' M2' : Mem), f_N_demand x1 M1 = some (r, M1') ∧ f_K_demand x1 M2 = some (r, M2') ∧ Inv M1' M2') (hs_hint : ∀ (x1 : Int32) (M1 M2 : Mem), Inv M1 M2 → ∃ (r : Int32) (M1' M2' : Mem), f_N_hint x1 M1 = some (r, M1') ∧ f_K_hint x1 M2 = some (r, M2') ∧ Inv M1' M2') : W p l e room_1 s m #[Value.ref b] below meth c s.heap [] 0 0 (lw_Z below #[Value.ref b] s) (entryFrame m ([Value.ref b] : List Value).toArray 4) := by
  obtain ⟨hx, hb, hr, hml, hown, hts, hX, hbl, hlocks, hgv⟩ := id C0
  have htb := TB_of hts
  have hs := flat_of_before _ hgv
  obtain ⟨c0, i0, hK0⟩ := u_known (C := "NoneWords$Facts") (T := T_F) (N := 11) (n := 11) htb in_F (htb _ ts_85)
  obtain ⟨c1, i1, hK1⟩ := u_known (C := "NoneWords$Search") (T := T_S) (N := 5) (n := 5) htb in_S (htb _ ts_204)
  obtain ⟨c2, i2, hK2⟩ := u_known (C := "NoneWords$Speech") (T := T_P) (N := 5) (n := 5) htb in_P (htb _ ts_181)
  obtain ⟨c3, i3, hK3⟩ := u_known (C := "NoneWords$Writer") (T := T_W) (N := 15) (n := 15) htb in_W (htb _ ts_129)
  obtain ⟨c4, i4, hK4⟩ := u_known (C := "NoneWords") (T := T_N) (N := 4) (n := 4) htb in_N (htb _ ts_77)
  obtain ⟨c5, i5, hK5⟩ := u_known (C := "NoneWordsModel") (T := T_K) (N := 28) (n := 28) htb in_K (htb _ ts_680)
  obtain ⟨dC, dI, hKc⟩ : ∃ (dC : Nat → ClassId) (dI : Nat → Nat → Nat), ∀ (k : Nat) (q : vw_C), vwCl[k]? = some q → u_Kn s q.1 q.2.1 q.2.2 (dC k) (dI k) := by
    refine ⟨fun k => if k = 0 then c0 else if k = 1 then c1 else if k = 2 then c2 else if k = 3 then c3 else if k = 4 then c4 else c5, fun k => if k = 0 then i0 else if k = 1 then i1 else if k = 2 then i2 else if k = 3 then i3 else if k = 4 then i4 else i5, ?_⟩
    intro k q hq
    match k, hq with
    | 0, hq => cases hq; exact hK0
    | 1, hq => cases hq; exact hK1
    | 2, hq => cases hq; exact hK2
    | 3, hq => cases hq; exact hK3
    | 4, hq => cases hq; exact hK4
    | 5, hq => cases hq; exact hK5
    | k + 6, hq => simp [vwCl] at hq
  obtain ⟨cI, kI, pI, a1, a2, a3⟩ := Cond.arrayClass_spec (htb _ ts_127)
  obtain ⟨cZ, kZ, pZ, b1, b2, b3⟩ := Cond.arrayClass_spec (htb _ ts_225)
  obtain ⟨cC, kC, pC, d1, d2, d3⟩ := Cond.arrayClass_spec (htb _ ts_202)
  have hK : va_K (dC, dI) vwCl (tysW cI cZ cC) s := ⟨hKc, fun k q h => by
    match k, h with
    | 0, h => cases h; exact ⟨fun n z => ⟨fun k h => (by cases h), kI, a2, pI, a3⟩, a1⟩
    | 1, h => cases h; exact ⟨fun n z => ⟨fun k h => (by cases h), kZ, b2, pZ, b3⟩, b1⟩
    | 2, h => cases h; exact ⟨fun n z => ⟨fun k h => (by cases h), kC, d2, pC, d3⟩, d1⟩
    | k + 3, h => simp [tysW] at h⟩
  have hA0 : ∀ a : Nat, a < s.heap.size → ¬ (fun q : Nat => s.heap.size ≤ q) a := fun a h h2 => Nat.not_le.mpr h h2
  obtain ⟨sk, sv, hvS, htm⟩ := vk_Sof (args := #[Value.ref b]) (s := s) (N := 20) (tm := fun i => Term.string "NoneWords$Speech" (idxS i)) (len := lenS) (byt := bytS) (A := fun q : Nat => s.heap.size ≤ q) slen_lt (fun i hi => hs _ (m_ex i hi)) (fun i hi => hs _ (m_co i hi)) (fun i hi => hs _ (m_ar i hi)) (fun i hi => hs _ (m_le i hi)) (fun i hi j hj => hs _ (m_el i hi j hj)) (fun i j hi hj hij => (m_ne i hi j hj hij).elim (fun h => Or.inl (hs _ h)) (fun h => Or.inr (hs _ h))) hA0
  have hZ : ZS sk sv (fun q : Nat => s.heap.size ≤ q) s s.heap := by
    refine ⟨hvS, fun q hq => ?_, va_Zof (hts _ m_ls.1) (hts _ m_ls.2.2.1) (va_eqi (hs _ m_st.1)) hA0, va_Zqof (hts _ m_ls.2.1) (hts _ m_ls.2.2.2) (hs _ m_st.2) hA0⟩
    obtain ⟨i, hi⟩ := List.getElem?_of_mem hq
    have hl : i < 20 := (List.getElem?_eq_some_iff.mp hi).1
    have hg : stxS.getD i (0, 0, "") = q := by rw [List.getD_eq_getElem?_getD, hi]; rfl
    have h1 := m_sx i hl
    have h2 := htm i hl
    unfold idxS at h1 h2
    rw [hg] at h1 h2
    rw [h1.1]
    exact vk_R.of (hts _ h1.2) h2
  have C : GC p s m #[Value.ref b] meth c code 4 ret "NoneWordsLaw" TB (dC, dI) vwCl (tysW cI cZ cC) (fun q : Nat => s.heap.size ≤ q) (ZS sk sv) := ⟨hx, hb, hml, hown, htb, hK, hlocks, hr, fun q h => h, hZ, ZS_ok sk sv⟩
  have hbA : ¬ (fun q : Nat => s.heap.size ≤ q) b := Nat.not_le.mpr hbl
  have hl := lv_entry ([.ref b]) (n := 4) (Nat.le_of_ble_eq_true rfl)
  rw [lg_entry_eq]
  have G : GW p l e room_1 s m #[Value.ref b] below meth c (lw_Z below #[Value.ref b] s) (dC, dI) vwCl (fun q : Nat => s.heap.size ≤ q) 4 0 0 [] 0 [(0, .ref b)] [] := by
    refine gw_new C in_N ty_N tk_N ts_76 ts_77 ts_65 clg_4 df_N (Nat.le_of_ble_eq_true rfl) (Nat.le_of_ble_eq_true rfl) d_L_0 (fun q0 => ?_)
    refine gw_widen (k := 1) (n := 4) (Nat.le_of_ble_eq_true rfl) (Nat.le_of_ble_eq_true rfl) ?_
    refine gw_dup C d_L_3 rfl ?_
    refine gw_callIX (wl := []) (wc := [(q0, .inr (4, [.null, .null, .null, .null]))]) (wr := []) (rest := [.ref q0]) C rfl (c_N_init (ZS_ok sk sv)) (cwI 0 C.2.2.2.2.1 (gTB_c tc_N_init) rfl rfl rfl (C.2.2.2.2.1 _ ts_65) (C.2.2.2.2.1 _ ts_78) (C.2.2.2.2.1 _ ts_79) rfl pd_N_init ⟨Nat.le_of_ble_eq_true rfl, Nat.le_of_ble_eq_true rfl⟩) rfl rfl (Nat.le_of_ble_eq_true rfl) d_L_4 ⟨Nat.le_of_ble_eq_true rfl, Nat.le_of_ble_eq_true rfl⟩ (fun wf hwf => ?_)
    obtain ⟨ad1, hq0, rfl⟩ := hwf
    subst hq0
    refine gw_w (w' := wc ad1 cI cZ cC M0) (List.append_nil _) ?_
    refine gw_widen (k := 29) (n := 2850) (Nat.le_of_ble_eq_true rfl) (Nat.le_of_ble_eq_true rfl) ?_
    refine gw_astore_n (lv' := [(1, .ref (ad1 0)), (0, .ref b)]) C d_L_7 rfl (by decide) rfl ?_
    refine gw_new C in_K ty_K tk_K ts_679 ts_680 ts_71 clg_5 df_K (Nat.le_of_ble_eq_true rfl) (Nat.le_of_ble_eq_true rfl) d_L_8 (fun q8 => ?_)
    refine gw_widen (k := 30) (n := 2878) (Nat.le_of_ble_eq_true rfl) (Nat.le_of_ble_eq_true rfl) ?_
    refine gw_dup C d_L_11 rfl ?_
    refine gw_callIX (wl := wc ad1 cI cZ cC M0) (wc := [(q8, .inr (5, [.int 0, .null, .int 0, .int 0, .null, .null, .null, .null, .null, .null, .null, .null, .null, .null, .null, .null, .int 0, .int 0, .int 0, .null, .null, .null, .null, .int 0, .null, .null, .null, .int 0]))]) (wr := []) (rest := [.ref q8]) C (List.append_nil _).symm (c_K_init (ZS_ok sk sv)) (cwI 0 C.2.2.2.2.1 (gTB_c tc_K_init) rfl rfl rfl (C.2.2.2.2.1 _ ts_71) (C.2.2.2.2.1 _ ts_681) (C.2.2.2.2.1 _ ts_682) rfl pd_K_init ⟨Nat.le_of_ble_eq_true rfl, Nat.le_of_ble_eq_true rfl⟩) rfl rfl (Nat.le_of_ble_eq_true rfl) d_L_12 ⟨Nat.le_of_ble_eq_true rfl, Nat.le_of_ble_eq_true rfl⟩ (fun wf hwf => ?_)
    obtain ⟨g, rfl⟩ := hwf
    obtain ⟨ad2, hq8, hw⟩ := w0_K_wk (a := q8) (g := g) (cI := cI) (cZ := cZ) (cC := cC)
    subst hq8
    refine gw_w (w' := wc ad1 cI cZ cC M0 ++ wk ad2 cI cZ cC K0) (by rw [hw, List.append_nil]) ?_
    refine gw_widen (k := 50) (n := 68878) (Nat.le_of_ble_eq_true rfl) (Nat.le_of_ble_eq_true rfl) ?_
    refine gw_astore_n (lv' := [(2, .ref (ad2 0)), (1, .ref (ad1 0)), (0, .ref b)]) C d_L_15 rfl (by decide) rfl ?_
    refine gw_iconst (v := 0) C d_L_16 (by decide) ?_
    refine gw_istore_n (lv' := [(3, .int 0), (2, .ref (ad2 0)), (1, .ref (ad1 0)), (0, .ref b)]) C d_L_17 rfl (by decide) rfl ?_
    refine gw_sub (lv' := [(0, .ref b), (1, .ref (ad1 0)), (2, .ref (ad2 0)), (3, .int (nI 0))]) [3, 2, 1, 0] rfl ?_
    exact law_loop C hX hbl hbA rfl hL hs_name hs_leaf hs_join hs_terms hs_term hs_write hs_sentence hs_letter hs_line hs_numbered hs_solvable hs_least hs_demand hs_hint (L + 1) 0 M0 K0 (by omega) (by omega) hI0
  exact G s.heap [] _ (fun k q h => by simp at h) ⟨fun i j p q h => by simp at h, fun k q h => by simp at h⟩ va_S.rf hl
