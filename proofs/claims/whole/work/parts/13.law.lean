theorem tl_239 : Cond.methodLink "NoneWordsLaw" 13 ⟨"NoneWords", "name", "(I)I"⟩ ∈ TB := inTB 239 (by decide +kernel) (by decide +kernel)
theorem tl_771 : Cond.methodLink "NoneWordsLaw" 17 ⟨"NoneWordsModel", "name", "(I)I"⟩ ∈ TB := inTB 771 (by decide +kernel) (by decide +kernel)
theorem tl_247 : Cond.methodLink "NoneWordsLaw" 18 ⟨"NoneWords", "leaf", "(IIIII)I"⟩ ∈ TB := inTB 247 (by decide +kernel) (by decide +kernel)
theorem tl_775 : Cond.methodLink "NoneWordsLaw" 22 ⟨"NoneWordsModel", "leaf", "(IIIII)I"⟩ ∈ TB := inTB 775 (by decide +kernel) (by decide +kernel)
theorem tl_278 : Cond.methodLink "NoneWordsLaw" 23 ⟨"NoneWords", "join", "(III)I"⟩ ∈ TB := inTB 278 (by decide +kernel) (by decide +kernel)
theorem tl_810 : Cond.methodLink "NoneWordsLaw" 27 ⟨"NoneWordsModel", "join", "(III)I"⟩ ∈ TB := inTB 810 (by decide +kernel) (by decide +kernel)
theorem tl_294 : Cond.methodLink "NoneWordsLaw" 28 ⟨"NoneWords", "terms", "(I)I"⟩ ∈ TB := inTB 294 (by decide +kernel) (by decide +kernel)
theorem tl_818 : Cond.methodLink "NoneWordsLaw" 31 ⟨"NoneWordsModel", "terms", "(I)I"⟩ ∈ TB := inTB 818 (by decide +kernel) (by decide +kernel)
theorem tl_307 : Cond.methodLink "NoneWordsLaw" 32 ⟨"NoneWords", "term", "(III)I"⟩ ∈ TB := inTB 307 (by decide +kernel) (by decide +kernel)
theorem tl_826 : Cond.methodLink "NoneWordsLaw" 35 ⟨"NoneWordsModel", "term", "(III)I"⟩ ∈ TB := inTB 826 (by decide +kernel) (by decide +kernel)
theorem tl_320 : Cond.methodLink "NoneWordsLaw" 36 ⟨"NoneWords", "write", "(I)I"⟩ ∈ TB := inTB 320 (by decide +kernel) (by decide +kernel)
theorem tl_838 : Cond.methodLink "NoneWordsLaw" 39 ⟨"NoneWordsModel", "write", "(I)I"⟩ ∈ TB := inTB 838 (by decide +kernel) (by decide +kernel)
theorem tl_417 : Cond.methodLink "NoneWordsLaw" 40 ⟨"NoneWords", "sentence", "(I)I"⟩ ∈ TB := inTB 417 (by decide +kernel) (by decide +kernel)
theorem tl_953 : Cond.methodLink "NoneWordsLaw" 43 ⟨"NoneWordsModel", "sentence", "(I)I"⟩ ∈ TB := inTB 953 (by decide +kernel) (by decide +kernel)
theorem tl_587 : Cond.methodLink "NoneWordsLaw" 44 ⟨"NoneWords", "letter", "(II)I"⟩ ∈ TB := inTB 587 (by decide +kernel) (by decide +kernel)
theorem tl_961 : Cond.methodLink "NoneWordsLaw" 48 ⟨"NoneWordsModel", "letter", "(II)I"⟩ ∈ TB := inTB 961 (by decide +kernel) (by decide +kernel)
theorem tl_595 : Cond.methodLink "NoneWordsLaw" 49 ⟨"NoneWords", "line", "(I)I"⟩ ∈ TB := inTB 595 (by decide +kernel) (by decide +kernel)
theorem tl_965 : Cond.methodLink "NoneWordsLaw" 52 ⟨"NoneWordsModel", "line", "(I)I"⟩ ∈ TB := inTB 965 (by decide +kernel) (by decide +kernel)
theorem tl_603 : Cond.methodLink "NoneWordsLaw" 53 ⟨"NoneWords", "numbered", "(I)I"⟩ ∈ TB := inTB 603 (by decide +kernel) (by decide +kernel)
theorem tl_969 : Cond.methodLink "NoneWordsLaw" 56 ⟨"NoneWordsModel", "numbered", "(I)I"⟩ ∈ TB := inTB 969 (by decide +kernel) (by decide +kernel)
theorem tl_608 : Cond.methodLink "NoneWordsLaw" 57 ⟨"NoneWords", "solvable", "()Z"⟩ ∈ TB := inTB 608 (by decide +kernel) (by decide +kernel)
theorem tl_973 : Cond.methodLink "NoneWordsLaw" 61 ⟨"NoneWordsModel", "solvable", "()Z"⟩ ∈ TB := inTB 973 (by decide +kernel) (by decide +kernel)
theorem tl_641 : Cond.methodLink "NoneWordsLaw" 62 ⟨"NoneWords", "least", "()I"⟩ ∈ TB := inTB 641 (by decide +kernel) (by decide +kernel)
theorem tl_993 : Cond.methodLink "NoneWordsLaw" 66 ⟨"NoneWordsModel", "least", "()I"⟩ ∈ TB := inTB 993 (by decide +kernel) (by decide +kernel)
theorem tl_659 : Cond.methodLink "NoneWordsLaw" 67 ⟨"NoneWords", "demand", "(I)I"⟩ ∈ TB := inTB 659 (by decide +kernel) (by decide +kernel)
theorem tl_997 : Cond.methodLink "NoneWordsLaw" 70 ⟨"NoneWordsModel", "demand", "(I)I"⟩ ∈ TB := inTB 997 (by decide +kernel) (by decide +kernel)
theorem tl_667 : Cond.methodLink "NoneWordsLaw" 71 ⟨"NoneWords", "hint", "(I)I"⟩ ∈ TB := inTB 667 (by decide +kernel) (by decide +kernel)
theorem tl_1001 : Cond.methodLink "NoneWordsLaw" 74 ⟨"NoneWordsModel", "hint", "(I)I"⟩ ∈ TB := inTB 1001 (by decide +kernel) (by decide +kernel)
section LAWROWS
variable {p : Program} {l : Launch} {e : Env} {R : Room} {s : State} {m : MethodId} {args : Array Value} {below : List Frame} {meth : Method} {c : Code} {Q : State → Prop} {D : va_G} {cl : List vw_C} {tys : List (ClassId × FieldType)} {A : Nat → Prop} {nL cells slots : Nat} {w : va_W} {pc : Nat} {lv lv' : List (Nat × Value)} {st : List Value} {cc : ByteArray} {ret : Option FieldType} {own : String} {Ts : List Cond} {Z : gw_Z}
theorem gw_sld (C : GC p s m args meth c cc nL ret own Ts D cl tys A Z) {b L : Nat} {xs : Nat → Int32} (hX : va_X b L xs s s.heap) (hbl : b < s.heap.size) (hbA : ¬ A b) {x : Int32} {j : Nat} (hx : x = nI j) (hj : j < L) (hL : L < 2 ^ 31) (hd : decode cc pc = .ok (.iaload, 1)) (k : GW p l e R s m args below meth c Q D cl A nL cells slots w (pc + 1) lv (.int (xs j) :: st)) : GW p l e R s m args below meth c Q D cl A nL cells slots w pc lv (.int x :: .ref b :: st) := by
  subst hx
  intro H locs ls hP hD hS hl
  refine va_sld C.1 C.2.1 hX hbl hbA hS (vp_in_nI hj hL) hd ?_
  rw [nI_clamp (by omega)]
  exact k H locs ls hP hD hS hl
theorem gw_slen (C : GC p s m args meth c cc nL ret own Ts D cl tys A Z) {b L : Nat} {xs : Nat → Int32} (hX : va_X b L xs s s.heap) (hbl : b < s.heap.size) (hbA : ¬ A b) (hd : decode cc pc = .ok (.arraylength, 1)) (k : GW p l e R s m args below meth c Q D cl A nL cells slots w (pc + 1) lv (.int (nI L) :: st)) : GW p l e R s m args below meth c Q D cl A nL cells slots w pc lv (.ref b :: st) :=
  fun H locs ls hP hD hS hl => va_slen C.1 C.2.1 hX hbl hbA hS hd (k H locs ls hP hD hS hl)
end LAWROWS
theorem nIp_1 (i : Nat) : nI i + (1 : Int32) = nI (i + 1) := nI_add i 1
theorem nIp_2 (i : Nat) : nI i + (2 : Int32) = nI (i + 2) := nI_add i 2
theorem nIp_3 (i : Nat) : nI i + (3 : Int32) = nI (i + 3) := nI_add i 3
theorem nIp_4 (i : Nat) : nI i + (4 : Int32) = nI (i + 4) := nI_add i 4
theorem nIp_5 (i : Nat) : nI i + (5 : Int32) = nI (i + 5) := nI_add i 5
theorem nIp_6 (i : Nat) : nI i + (6 : Int32) = nI (i + 6) := nI_add i 6
set_option maxRecDepth 100000 in
theorem law_name {p : Program} {l : Launch} {e : Env} {s : State} {m : MethodId} {below : List Frame} {meth : Method} {c : Code} {D : va_G} {A : Nat → Prop} {ad1 ad2 : Nat → Nat} {cI cZ cC : ClassId} {sk sv : Nat → Nat} {b L : Nat} {xs : Nat → Int32} (C : GC p s m #[Value.ref b] meth c code 4 ret "NoneWordsLaw" TB D vwCl (tysW cI cZ cC) A (ZS sk sv)) (hX : va_X b L xs s s.heap) (hbl : b < s.heap.size) (hbA : ¬ A b) (hL : L < 2 ^ 31) {Inv : Mem → Mem → Prop} (hs_name : ∀ (x1 : Int32) (M1 M2 : Mem), Inv M1 M2 → ∃ (r : Int32) (M1' M2' : Mem), f_N_name x1 M1 = some (r, M1') ∧ f_K_name x1 M2 = some (r, M2') ∧ Inv M1' M2') {i : Nat} (hi : i + 6 ≤ L) (hend : ∀ M1 M2 : Mem, Inv M1 M2 → GW p l e room_1 s m #[Value.ref b] below meth c (lw_Z below #[Value.ref b] s) D vwCl A 4 50 68878 (wc ad1 cI cZ cC M1 ++ wk ad2 cI cZ cC M2) 496 [(0, .ref b), (1, .ref (ad1 0)), (2, .ref (ad2 0)), (3, .int (nI i))] []) {M1 M2 : Mem} (hI : Inv M1 M2) : GW p l e room_1 s m #[Value.ref b] below meth c (lw_Z below #[Value.ref b] s) D vwCl A 4 50 68878 (wc ad1 cI cZ cC M1 ++ wk ad2 cI cZ cC M2) 104 [(0, .ref b), (1, .ref (ad1 0)), (2, .ref (ad2 0)), (3, .int (nI i))] [] := by
  obtain ⟨r, M1', M2', h1, h2, h3⟩ := hs_name (xs (i + 1)) M1 M2 hI
  refine gw_aload_n C 1 d_L_104 rfl rfl ?_
  refine gw_aload_n C 0 d_L_105 rfl rfl ?_
  refine gw_iload_n C 3 d_L_106 rfl rfl ?_
  refine gw_iconst (v := 1) C d_L_107 (by decide) ?_
  refine gw_iadd C d_L_108 ?_
  refine gw_sld C hX hbl hbA (nIp_1 i) (by omega) hL d_L_109 ?_
  refine gw_w (w' := [] ++ wc ad1 cI cZ cC M1 ++ wk ad2 cI cZ cC M2) rfl ?_
  refine gw_callVF (rest := []) C 0 wcg_0 clg_4 (c_N_name C.2.2.2.2.2.2.2.2.2.2 h1) (cwV 1 C.2.2.2.2.1 (gTB_V tl_239 mv_N_name) rfl rfl rfl pd_N_name ⟨Nat.le_of_ble_eq_true rfl, Nat.le_of_ble_eq_true rfl⟩) rfl rfl (Nat.le_of_ble_eq_true rfl) d_L_110 ⟨Nat.le_of_ble_eq_true rfl, Nat.le_of_ble_eq_true rfl⟩ ?_
  refine gw_w (w' := wc ad1 cI cZ cC M1' ++ wk ad2 cI cZ cC M2 ++ []) (List.append_nil _).symm ?_
  refine gw_aload_n C 2 d_L_113 rfl rfl ?_
  refine gw_aload_n C 0 d_L_114 rfl rfl ?_
  refine gw_iload_n C 3 d_L_115 rfl rfl ?_
  refine gw_iconst (v := 1) C d_L_116 (by decide) ?_
  refine gw_iadd C d_L_117 ?_
  refine gw_sld C hX hbl hbA (nIp_1 i) (by omega) hL d_L_118 ?_
  refine gw_callVF (wl := wc ad1 cI cZ cC M1') (wr := []) (rest := [.int r]) C 0 wkg_0 clg_5 (c_K_name C.2.2.2.2.2.2.2.2.2.2 h2) (cwV 1 C.2.2.2.2.1 (gTB_V tl_771 mv_K_name) rfl rfl rfl pd_K_name ⟨Nat.le_of_ble_eq_true rfl, Nat.le_of_ble_eq_true rfl⟩) rfl rfl (Nat.le_of_ble_eq_true rfl) d_L_119 ⟨Nat.le_of_ble_eq_true rfl, Nat.le_of_ble_eq_true rfl⟩ ?_
  refine gw_w (w' := wc ad1 cI cZ cC M1' ++ wk ad2 cI cZ cC M2') (List.append_nil _) ?_
  exact gw_icmp_eq (tgt := 496) C d_L_122 (by decide) (fun _ => hend M1' M2' h3) (fun c => absurd rfl c)
set_option maxRecDepth 100000 in
theorem law_leaf {p : Program} {l : Launch} {e : Env} {s : State} {m : MethodId} {below : List Frame} {meth : Method} {c : Code} {D : va_G} {A : Nat → Prop} {ad1 ad2 : Nat → Nat} {cI cZ cC : ClassId} {sk sv : Nat → Nat} {b L : Nat} {xs : Nat → Int32} (C : GC p s m #[Value.ref b] meth c code 4 ret "NoneWordsLaw" TB D vwCl (tysW cI cZ cC) A (ZS sk sv)) (hX : va_X b L xs s s.heap) (hbl : b < s.heap.size) (hbA : ¬ A b) (hL : L < 2 ^ 31) {Inv : Mem → Mem → Prop} (hs_leaf : ∀ (x1 x2 x3 x4 x5 : Int32) (M1 M2 : Mem), Inv M1 M2 → ∃ (r : Int32) (M1' M2' : Mem), f_N_leaf x1 x2 x3 x4 x5 M1 = some (r, M1') ∧ f_K_leaf x1 x2 x3 x4 x5 M2 = some (r, M2') ∧ Inv M1' M2') {i : Nat} (hi : i + 6 ≤ L) (hend : ∀ M1 M2 : Mem, Inv M1 M2 → GW p l e room_1 s m #[Value.ref b] below meth c (lw_Z below #[Value.ref b] s) D vwCl A 4 50 68878 (wc ad1 cI cZ cC M1 ++ wk ad2 cI cZ cC M2) 496 [(0, .ref b), (1, .ref (ad1 0)), (2, .ref (ad2 0)), (3, .int (nI i))] []) {M1 M2 : Mem} (hI : Inv M1 M2) : GW p l e room_1 s m #[Value.ref b] below meth c (lw_Z below #[Value.ref b] s) D vwCl A 4 50 68878 (wc ad1 cI cZ cC M1 ++ wk ad2 cI cZ cC M2) 127 [(0, .ref b), (1, .ref (ad1 0)), (2, .ref (ad2 0)), (3, .int (nI i))] [] := by
  obtain ⟨r, M1', M2', h1, h2, h3⟩ := hs_leaf (xs (i + 1)) (xs (i + 2)) (xs (i + 3)) (xs (i + 4)) (xs (i + 5)) M1 M2 hI
  refine gw_aload_n C 1 d_L_127 rfl rfl ?_
  refine gw_aload_n C 0 d_L_128 rfl rfl ?_
  refine gw_iload_n C 3 d_L_129 rfl rfl ?_
  refine gw_iconst (v := 1) C d_L_130 (by decide) ?_
  refine gw_iadd C d_L_131 ?_
  refine gw_sld C hX hbl hbA (nIp_1 i) (by omega) hL d_L_132 ?_
  refine gw_aload_n C 0 d_L_133 rfl rfl ?_
  refine gw_iload_n C 3 d_L_134 rfl rfl ?_
  refine gw_iconst (v := 2) C d_L_135 (by decide) ?_
  refine gw_iadd C d_L_136 ?_
  refine gw_sld C hX hbl hbA (nIp_2 i) (by omega) hL d_L_137 ?_
  refine gw_aload_n C 0 d_L_138 rfl rfl ?_
  refine gw_iload_n C 3 d_L_139 rfl rfl ?_
  refine gw_iconst (v := 3) C d_L_140 (by decide) ?_
  refine gw_iadd C d_L_141 ?_
  refine gw_sld C hX hbl hbA (nIp_3 i) (by omega) hL d_L_142 ?_
  refine gw_aload_n C 0 d_L_143 rfl rfl ?_
  refine gw_iload_n C 3 d_L_144 rfl rfl ?_
  refine gw_iconst (v := 4) C d_L_145 (by decide) ?_
  refine gw_iadd C d_L_146 ?_
  refine gw_sld C hX hbl hbA (nIp_4 i) (by omega) hL d_L_147 ?_
  refine gw_aload_n C 0 d_L_148 rfl rfl ?_
  refine gw_iload_n C 3 d_L_149 rfl rfl ?_
  refine gw_iconst (v := 5) C d_L_150 (by decide) ?_
  refine gw_iadd C d_L_151 ?_
  refine gw_sld C hX hbl hbA (nIp_5 i) (by omega) hL d_L_152 ?_
  refine gw_w (w' := [] ++ wc ad1 cI cZ cC M1 ++ wk ad2 cI cZ cC M2) rfl ?_
  refine gw_callVF (rest := []) C 0 wcg_0 clg_4 (c_N_leaf C.2.2.2.2.2.2.2.2.2.2 h1) (cwV 5 C.2.2.2.2.1 (gTB_V tl_247 mv_N_leaf) rfl rfl rfl pd_N_leaf ⟨Nat.le_of_ble_eq_true rfl, Nat.le_of_ble_eq_true rfl⟩) rfl rfl (Nat.le_of_ble_eq_true rfl) d_L_153 ⟨Nat.le_of_ble_eq_true rfl, Nat.le_of_ble_eq_true rfl⟩ ?_
  refine gw_w (w' := wc ad1 cI cZ cC M1' ++ wk ad2 cI cZ cC M2 ++ []) (List.append_nil _).symm ?_
  refine gw_aload_n C 2 d_L_156 rfl rfl ?_
  refine gw_aload_n C 0 d_L_157 rfl rfl ?_
  refine gw_iload_n C 3 d_L_158 rfl rfl ?_
  refine gw_iconst (v := 1) C d_L_159 (by decide) ?_
  refine gw_iadd C d_L_160 ?_
  refine gw_sld C hX hbl hbA (nIp_1 i) (by omega) hL d_L_161 ?_
  refine gw_aload_n C 0 d_L_162 rfl rfl ?_
  refine gw_iload_n C 3 d_L_163 rfl rfl ?_
  refine gw_iconst (v := 2) C d_L_164 (by decide) ?_
  refine gw_iadd C d_L_165 ?_
  refine gw_sld C hX hbl hbA (nIp_2 i) (by omega) hL d_L_166 ?_
  refine gw_aload_n C 0 d_L_167 rfl rfl ?_
  refine gw_iload_n C 3 d_L_168 rfl rfl ?_
  refine gw_iconst (v := 3) C d_L_169 (by decide) ?_
  refine gw_iadd C d_L_170 ?_
  refine gw_sld C hX hbl hbA (nIp_3 i) (by omega) hL d_L_171 ?_
  refine gw_aload_n C 0 d_L_172 rfl rfl ?_
  refine gw_iload_n C 3 d_L_173 rfl rfl ?_
  refine gw_iconst (v := 4) C d_L_174 (by decide) ?_
  refine gw_iadd C d_L_175 ?_
  refine gw_sld C hX hbl hbA (nIp_4 i) (by omega) hL d_L_176 ?_
  refine gw_aload_n C 0 d_L_177 rfl rfl ?_
  refine gw_iload_n C 3 d_L_178 rfl rfl ?_
  refine gw_iconst (v := 5) C d_L_179 (by decide) ?_
  refine gw_iadd C d_L_180 ?_
  refine gw_sld C hX hbl hbA (nIp_5 i) (by omega) hL d_L_181 ?_
  refine gw_callVF (wl := wc ad1 cI cZ cC M1') (wr := []) (rest := [.int r]) C 0 wkg_0 clg_5 (c_K_leaf C.2.2.2.2.2.2.2.2.2.2 h2) (cwV 5 C.2.2.2.2.1 (gTB_V tl_775 mv_K_leaf) rfl rfl rfl pd_K_leaf ⟨Nat.le_of_ble_eq_true rfl, Nat.le_of_ble_eq_true rfl⟩) rfl rfl (Nat.le_of_ble_eq_true rfl) d_L_182 ⟨Nat.le_of_ble_eq_true rfl, Nat.le_of_ble_eq_true rfl⟩ ?_
  refine gw_w (w' := wc ad1 cI cZ cC M1' ++ wk ad2 cI cZ cC M2') (List.append_nil _) ?_
  exact gw_icmp_eq (tgt := 496) C d_L_185 (by decide) (fun _ => hend M1' M2' h3) (fun c => absurd rfl c)
set_option maxRecDepth 100000 in
theorem law_join {p : Program} {l : Launch} {e : Env} {s : State} {m : MethodId} {below : List Frame} {meth : Method} {c : Code} {D : va_G} {A : Nat → Prop} {ad1 ad2 : Nat → Nat} {cI cZ cC : ClassId} {sk sv : Nat → Nat} {b L : Nat} {xs : Nat → Int32} (C : GC p s m #[Value.ref b] meth c code 4 ret "NoneWordsLaw" TB D vwCl (tysW cI cZ cC) A (ZS sk sv)) (hX : va_X b L xs s s.heap) (hbl : b < s.heap.size) (hbA : ¬ A b) (hL : L < 2 ^ 31) {Inv : Mem → Mem → Prop} (hs_join : ∀ (x1 x2 x3 : Int32) (M1 M2 : Mem), Inv M1 M2 → ∃ (r : Int32) (M1' M2' : Mem), f_N_join x1 x2 x3 M1 = some (r, M1') ∧ f_K_join x1 x2 x3 M2 = some (r, M2') ∧ Inv M1' M2') {i : Nat} (hi : i + 6 ≤ L) (hend : ∀ M1 M2 : Mem, Inv M1 M2 → GW p l e room_1 s m #[Value.ref b] below meth c (lw_Z below #[Value.ref b] s) D vwCl A 4 50 68878 (wc ad1 cI cZ cC M1 ++ wk ad2 cI cZ cC M2) 496 [(0, .ref b), (1, .ref (ad1 0)), (2, .ref (ad2 0)), (3, .int (nI i))] []) {M1 M2 : Mem} (hI : Inv M1 M2) : GW p l e room_1 s m #[Value.ref b] below meth c (lw_Z below #[Value.ref b] s) D vwCl A 4 50 68878 (wc ad1 cI cZ cC M1 ++ wk ad2 cI cZ cC M2) 190 [(0, .ref b), (1, .ref (ad1 0)), (2, .ref (ad2 0)), (3, .int (nI i))] [] := by
  obtain ⟨r, M1', M2', h1, h2, h3⟩ := hs_join (xs (i + 1)) (xs (i + 2)) (xs (i + 3)) M1 M2 hI
  refine gw_aload_n C 1 d_L_190 rfl rfl ?_
  refine gw_aload_n C 0 d_L_191 rfl rfl ?_
  refine gw_iload_n C 3 d_L_192 rfl rfl ?_
  refine gw_iconst (v := 1) C d_L_193 (by decide) ?_
  refine gw_iadd C d_L_194 ?_
  refine gw_sld C hX hbl hbA (nIp_1 i) (by omega) hL d_L_195 ?_
  refine gw_aload_n C 0 d_L_196 rfl rfl ?_
  refine gw_iload_n C 3 d_L_197 rfl rfl ?_
  refine gw_iconst (v := 2) C d_L_198 (by decide) ?_
  refine gw_iadd C d_L_199 ?_
  refine gw_sld C hX hbl hbA (nIp_2 i) (by omega) hL d_L_200 ?_
  refine gw_aload_n C 0 d_L_201 rfl rfl ?_
  refine gw_iload_n C 3 d_L_202 rfl rfl ?_
  refine gw_iconst (v := 3) C d_L_203 (by decide) ?_
  refine gw_iadd C d_L_204 ?_
  refine gw_sld C hX hbl hbA (nIp_3 i) (by omega) hL d_L_205 ?_
  refine gw_w (w' := [] ++ wc ad1 cI cZ cC M1 ++ wk ad2 cI cZ cC M2) rfl ?_
  refine gw_callVF (rest := []) C 0 wcg_0 clg_4 (c_N_join C.2.2.2.2.2.2.2.2.2.2 h1) (cwV 3 C.2.2.2.2.1 (gTB_V tl_278 mv_N_join) rfl rfl rfl pd_N_join ⟨Nat.le_of_ble_eq_true rfl, Nat.le_of_ble_eq_true rfl⟩) rfl rfl (Nat.le_of_ble_eq_true rfl) d_L_206 ⟨Nat.le_of_ble_eq_true rfl, Nat.le_of_ble_eq_true rfl⟩ ?_
  refine gw_w (w' := wc ad1 cI cZ cC M1' ++ wk ad2 cI cZ cC M2 ++ []) (List.append_nil _).symm ?_
  refine gw_aload_n C 2 d_L_209 rfl rfl ?_
  refine gw_aload_n C 0 d_L_210 rfl rfl ?_
  refine gw_iload_n C 3 d_L_211 rfl rfl ?_
  refine gw_iconst (v := 1) C d_L_212 (by decide) ?_
  refine gw_iadd C d_L_213 ?_
  refine gw_sld C hX hbl hbA (nIp_1 i) (by omega) hL d_L_214 ?_
  refine gw_aload_n C 0 d_L_215 rfl rfl ?_
  refine gw_iload_n C 3 d_L_216 rfl rfl ?_
  refine gw_iconst (v := 2) C d_L_217 (by decide) ?_
  refine gw_iadd C d_L_218 ?_
  refine gw_sld C hX hbl hbA (nIp_2 i) (by omega) hL d_L_219 ?_
  refine gw_aload_n C 0 d_L_220 rfl rfl ?_
  refine gw_iload_n C 3 d_L_221 rfl rfl ?_
  refine gw_iconst (v := 3) C d_L_222 (by decide) ?_
  refine gw_iadd C d_L_223 ?_
  refine gw_sld C hX hbl hbA (nIp_3 i) (by omega) hL d_L_224 ?_
  refine gw_callVF (wl := wc ad1 cI cZ cC M1') (wr := []) (rest := [.int r]) C 0 wkg_0 clg_5 (c_K_join C.2.2.2.2.2.2.2.2.2.2 h2) (cwV 3 C.2.2.2.2.1 (gTB_V tl_810 mv_K_join) rfl rfl rfl pd_K_join ⟨Nat.le_of_ble_eq_true rfl, Nat.le_of_ble_eq_true rfl⟩) rfl rfl (Nat.le_of_ble_eq_true rfl) d_L_225 ⟨Nat.le_of_ble_eq_true rfl, Nat.le_of_ble_eq_true rfl⟩ ?_
  refine gw_w (w' := wc ad1 cI cZ cC M1' ++ wk ad2 cI cZ cC M2') (List.append_nil _) ?_
  exact gw_icmp_eq (tgt := 496) C d_L_228 (by decide) (fun _ => hend M1' M2' h3) (fun c => absurd rfl c)
set_option maxRecDepth 100000 in
theorem law_terms {p : Program} {l : Launch} {e : Env} {s : State} {m : MethodId} {below : List Frame} {meth : Method} {c : Code} {D : va_G} {A : Nat → Prop} {ad1 ad2 : Nat → Nat} {cI cZ cC : ClassId} {sk sv : Nat → Nat} {b L : Nat} {xs : Nat → Int32} (C : GC p s m #[Value.ref b] meth c code 4 ret "NoneWordsLaw" TB D vwCl (tysW cI cZ cC) A (ZS sk sv)) (hX : va_X b L xs s s.heap) (hbl : b < s.heap.size) (hbA : ¬ A b) (hL : L < 2 ^ 31) {Inv : Mem → Mem → Prop} (hs_terms : ∀ (x1 : Int32) (M1 M2 : Mem), Inv M1 M2 → ∃ (r : Int32) (M1' M2' : Mem), f_N_terms x1 M1 = some (r, M1') ∧ f_K_terms x1 M2 = some (r, M2') ∧ Inv M1' M2') {i : Nat} (hi : i + 6 ≤ L) (hend : ∀ M1 M2 : Mem, Inv M1 M2 → GW p l e room_1 s m #[Value.ref b] below meth c (lw_Z below #[Value.ref b] s) D vwCl A 4 50 68878 (wc ad1 cI cZ cC M1 ++ wk ad2 cI cZ cC M2) 496 [(0, .ref b), (1, .ref (ad1 0)), (2, .ref (ad2 0)), (3, .int (nI i))] []) {M1 M2 : Mem} (hI : Inv M1 M2) : GW p l e room_1 s m #[Value.ref b] below meth c (lw_Z below #[Value.ref b] s) D vwCl A 4 50 68878 (wc ad1 cI cZ cC M1 ++ wk ad2 cI cZ cC M2) 233 [(0, .ref b), (1, .ref (ad1 0)), (2, .ref (ad2 0)), (3, .int (nI i))] [] := by
  obtain ⟨r, M1', M2', h1, h2, h3⟩ := hs_terms (xs (i + 1)) M1 M2 hI
  refine gw_aload_n C 1 d_L_233 rfl rfl ?_
  refine gw_aload_n C 0 d_L_234 rfl rfl ?_
  refine gw_iload_n C 3 d_L_235 rfl rfl ?_
  refine gw_iconst (v := 1) C d_L_236 (by decide) ?_
  refine gw_iadd C d_L_237 ?_
  refine gw_sld C hX hbl hbA (nIp_1 i) (by omega) hL d_L_238 ?_
  refine gw_w (w' := [] ++ wc ad1 cI cZ cC M1 ++ wk ad2 cI cZ cC M2) rfl ?_
  refine gw_callVF (rest := []) C 0 wcg_0 clg_4 (c_N_terms C.2.2.2.2.2.2.2.2.2.2 h1) (cwV 1 C.2.2.2.2.1 (gTB_V tl_294 mv_N_terms) rfl rfl rfl pd_N_terms ⟨Nat.le_of_ble_eq_true rfl, Nat.le_of_ble_eq_true rfl⟩) rfl rfl (Nat.le_of_ble_eq_true rfl) d_L_239 ⟨Nat.le_of_ble_eq_true rfl, Nat.le_of_ble_eq_true rfl⟩ ?_
  refine gw_w (w' := wc ad1 cI cZ cC M1' ++ wk ad2 cI cZ cC M2 ++ []) (List.append_nil _).symm ?_
  refine gw_aload_n C 2 d_L_242 rfl rfl ?_
  refine gw_aload_n C 0 d_L_243 rfl rfl ?_
  refine gw_iload_n C 3 d_L_244 rfl rfl ?_
  refine gw_iconst (v := 1) C d_L_245 (by decide) ?_
  refine gw_iadd C d_L_246 ?_
  refine gw_sld C hX hbl hbA (nIp_1 i) (by omega) hL d_L_247 ?_
  refine gw_callVF (wl := wc ad1 cI cZ cC M1') (wr := []) (rest := [.int r]) C 0 wkg_0 clg_5 (c_K_terms C.2.2.2.2.2.2.2.2.2.2 h2) (cwV 1 C.2.2.2.2.1 (gTB_V tl_818 mv_K_terms) rfl rfl rfl pd_K_terms ⟨Nat.le_of_ble_eq_true rfl, Nat.le_of_ble_eq_true rfl⟩) rfl rfl (Nat.le_of_ble_eq_true rfl) d_L_248 ⟨Nat.le_of_ble_eq_true rfl, Nat.le_of_ble_eq_true rfl⟩ ?_
  refine gw_w (w' := wc ad1 cI cZ cC M1' ++ wk ad2 cI cZ cC M2') (List.append_nil _) ?_
  exact gw_icmp_eq (tgt := 496) C d_L_251 (by decide) (fun _ => hend M1' M2' h3) (fun c => absurd rfl c)
set_option maxRecDepth 100000 in
theorem law_term {p : Program} {l : Launch} {e : Env} {s : State} {m : MethodId} {below : List Frame} {meth : Method} {c : Code} {D : va_G} {A : Nat → Prop} {ad1 ad2 : Nat → Nat} {cI cZ cC : ClassId} {sk sv : Nat → Nat} {b L : Nat} {xs : Nat → Int32} (C : GC p s m #[Value.ref b] meth c code 4 ret "NoneWordsLaw" TB D vwCl (tysW cI cZ cC) A (ZS sk sv)) (hX : va_X b L xs s s.heap) (hbl : b < s.heap.size) (hbA : ¬ A b) (hL : L < 2 ^ 31) {Inv : Mem → Mem → Prop} (hs_term : ∀ (x1 x2 x3 : Int32) (M1 M2 : Mem), Inv M1 M2 → ∃ (r : Int32) (M1' M2' : Mem), f_N_term x1 x2 x3 M1 = some (r, M1') ∧ f_K_term x1 x2 x3 M2 = some (r, M2') ∧ Inv M1' M2') {i : Nat} (hi : i + 6 ≤ L) (hend : ∀ M1 M2 : Mem, Inv M1 M2 → GW p l e room_1 s m #[Value.ref b] below meth c (lw_Z below #[Value.ref b] s) D vwCl A 4 50 68878 (wc ad1 cI cZ cC M1 ++ wk ad2 cI cZ cC M2) 496 [(0, .ref b), (1, .ref (ad1 0)), (2, .ref (ad2 0)), (3, .int (nI i))] []) {M1 M2 : Mem} (hI : Inv M1 M2) : GW p l e room_1 s m #[Value.ref b] below meth c (lw_Z below #[Value.ref b] s) D vwCl A 4 50 68878 (wc ad1 cI cZ cC M1 ++ wk ad2 cI cZ cC M2) 256 [(0, .ref b), (1, .ref (ad1 0)), (2, .ref (ad2 0)), (3, .int (nI i))] [] := by
  obtain ⟨r, M1', M2', h1, h2, h3⟩ := hs_term (xs (i + 1)) (xs (i + 2)) (xs (i + 3)) M1 M2 hI
  refine gw_aload_n C 1 d_L_256 rfl rfl ?_
  refine gw_aload_n C 0 d_L_257 rfl rfl ?_
  refine gw_iload_n C 3 d_L_258 rfl rfl ?_
  refine gw_iconst (v := 1) C d_L_259 (by decide) ?_
  refine gw_iadd C d_L_260 ?_
  refine gw_sld C hX hbl hbA (nIp_1 i) (by omega) hL d_L_261 ?_
  refine gw_aload_n C 0 d_L_262 rfl rfl ?_
  refine gw_iload_n C 3 d_L_263 rfl rfl ?_
  refine gw_iconst (v := 2) C d_L_264 (by decide) ?_
  refine gw_iadd C d_L_265 ?_
  refine gw_sld C hX hbl hbA (nIp_2 i) (by omega) hL d_L_266 ?_
  refine gw_aload_n C 0 d_L_267 rfl rfl ?_
  refine gw_iload_n C 3 d_L_268 rfl rfl ?_
  refine gw_iconst (v := 3) C d_L_269 (by decide) ?_
  refine gw_iadd C d_L_270 ?_
  refine gw_sld C hX hbl hbA (nIp_3 i) (by omega) hL d_L_271 ?_
  refine gw_w (w' := [] ++ wc ad1 cI cZ cC M1 ++ wk ad2 cI cZ cC M2) rfl ?_
  refine gw_callVF (rest := []) C 0 wcg_0 clg_4 (c_N_term C.2.2.2.2.2.2.2.2.2.2 h1) (cwV 3 C.2.2.2.2.1 (gTB_V tl_307 mv_N_term) rfl rfl rfl pd_N_term ⟨Nat.le_of_ble_eq_true rfl, Nat.le_of_ble_eq_true rfl⟩) rfl rfl (Nat.le_of_ble_eq_true rfl) d_L_272 ⟨Nat.le_of_ble_eq_true rfl, Nat.le_of_ble_eq_true rfl⟩ ?_
  refine gw_w (w' := wc ad1 cI cZ cC M1' ++ wk ad2 cI cZ cC M2 ++ []) (List.append_nil _).symm ?_
  refine gw_aload_n C 2 d_L_275 rfl rfl ?_
  refine gw_aload_n C 0 d_L_276 rfl rfl ?_
  refine gw_iload_n C 3 d_L_277 rfl rfl ?_
  refine gw_iconst (v := 1) C d_L_278 (by decide) ?_
  refine gw_iadd C d_L_279 ?_
  refine gw_sld C hX hbl hbA (nIp_1 i) (by omega) hL d_L_280 ?_
  refine gw_aload_n C 0 d_L_281 rfl rfl ?_
  refine gw_iload_n C 3 d_L_282 rfl rfl ?_
  refine gw_iconst (v := 2) C d_L_283 (by decide) ?_
  refine gw_iadd C d_L_284 ?_
  refine gw_sld C hX hbl hbA (nIp_2 i) (by omega) hL d_L_285 ?_
  refine gw_aload_n C 0 d_L_286 rfl rfl ?_
  refine gw_iload_n C 3 d_L_287 rfl rfl ?_
  refine gw_iconst (v := 3) C d_L_288 (by decide) ?_
  refine gw_iadd C d_L_289 ?_
  refine gw_sld C hX hbl hbA (nIp_3 i) (by omega) hL d_L_290 ?_
  refine gw_callVF (wl := wc ad1 cI cZ cC M1') (wr := []) (rest := [.int r]) C 0 wkg_0 clg_5 (c_K_term C.2.2.2.2.2.2.2.2.2.2 h2) (cwV 3 C.2.2.2.2.1 (gTB_V tl_826 mv_K_term) rfl rfl rfl pd_K_term ⟨Nat.le_of_ble_eq_true rfl, Nat.le_of_ble_eq_true rfl⟩) rfl rfl (Nat.le_of_ble_eq_true rfl) d_L_291 ⟨Nat.le_of_ble_eq_true rfl, Nat.le_of_ble_eq_true rfl⟩ ?_
  refine gw_w (w' := wc ad1 cI cZ cC M1' ++ wk ad2 cI cZ cC M2') (List.append_nil _) ?_
  exact gw_icmp_eq (tgt := 496) C d_L_294 (by decide) (fun _ => hend M1' M2' h3) (fun c => absurd rfl c)
set_option maxRecDepth 100000 in
theorem law_write {p : Program} {l : Launch} {e : Env} {s : State} {m : MethodId} {below : List Frame} {meth : Method} {c : Code} {D : va_G} {A : Nat → Prop} {ad1 ad2 : Nat → Nat} {cI cZ cC : ClassId} {sk sv : Nat → Nat} {b L : Nat} {xs : Nat → Int32} (C : GC p s m #[Value.ref b] meth c code 4 ret "NoneWordsLaw" TB D vwCl (tysW cI cZ cC) A (ZS sk sv)) (hX : va_X b L xs s s.heap) (hbl : b < s.heap.size) (hbA : ¬ A b) (hL : L < 2 ^ 31) {Inv : Mem → Mem → Prop} (hs_write : ∀ (x1 : Int32) (M1 M2 : Mem), Inv M1 M2 → ∃ (r : Int32) (M1' M2' : Mem), f_N_write x1 M1 = some (r, M1') ∧ f_K_write x1 M2 = some (r, M2') ∧ Inv M1' M2') {i : Nat} (hi : i + 6 ≤ L) (hend : ∀ M1 M2 : Mem, Inv M1 M2 → GW p l e room_1 s m #[Value.ref b] below meth c (lw_Z below #[Value.ref b] s) D vwCl A 4 50 68878 (wc ad1 cI cZ cC M1 ++ wk ad2 cI cZ cC M2) 496 [(0, .ref b), (1, .ref (ad1 0)), (2, .ref (ad2 0)), (3, .int (nI i))] []) {M1 M2 : Mem} (hI : Inv M1 M2) : GW p l e room_1 s m #[Value.ref b] below meth c (lw_Z below #[Value.ref b] s) D vwCl A 4 50 68878 (wc ad1 cI cZ cC M1 ++ wk ad2 cI cZ cC M2) 299 [(0, .ref b), (1, .ref (ad1 0)), (2, .ref (ad2 0)), (3, .int (nI i))] [] := by
  obtain ⟨r, M1', M2', h1, h2, h3⟩ := hs_write (xs (i + 1)) M1 M2 hI
  refine gw_aload_n C 1 d_L_299 rfl rfl ?_
  refine gw_aload_n C 0 d_L_300 rfl rfl ?_
  refine gw_iload_n C 3 d_L_301 rfl rfl ?_
  refine gw_iconst (v := 1) C d_L_302 (by decide) ?_
  refine gw_iadd C d_L_303 ?_
  refine gw_sld C hX hbl hbA (nIp_1 i) (by omega) hL d_L_304 ?_
  refine gw_w (w' := [] ++ wc ad1 cI cZ cC M1 ++ wk ad2 cI cZ cC M2) rfl ?_
  refine gw_callVF (rest := []) C 0 wcg_0 clg_4 (c_N_write C.2.2.2.2.2.2.2.2.2.2 h1) (cwV 1 C.2.2.2.2.1 (gTB_V tl_320 mv_N_write) rfl rfl rfl pd_N_write ⟨Nat.le_of_ble_eq_true rfl, Nat.le_of_ble_eq_true rfl⟩) rfl rfl (Nat.le_of_ble_eq_true rfl) d_L_305 ⟨Nat.le_of_ble_eq_true rfl, Nat.le_of_ble_eq_true rfl⟩ ?_
  refine gw_w (w' := wc ad1 cI cZ cC M1' ++ wk ad2 cI cZ cC M2 ++ []) (List.append_nil _).symm ?_
  refine gw_aload_n C 2 d_L_308 rfl rfl ?_
  refine gw_aload_n C 0 d_L_309 rfl rfl ?_
  refine gw_iload_n C 3 d_L_310 rfl rfl ?_
  refine gw_iconst (v := 1) C d_L_311 (by decide) ?_
  refine gw_iadd C d_L_312 ?_
  refine gw_sld C hX hbl hbA (nIp_1 i) (by omega) hL d_L_313 ?_
  refine gw_callVF (wl := wc ad1 cI cZ cC M1') (wr := []) (rest := [.int r]) C 0 wkg_0 clg_5 (c_K_write C.2.2.2.2.2.2.2.2.2.2 h2) (cwV 1 C.2.2.2.2.1 (gTB_V tl_838 mv_K_write) rfl rfl rfl pd_K_write ⟨Nat.le_of_ble_eq_true rfl, Nat.le_of_ble_eq_true rfl⟩) rfl rfl (Nat.le_of_ble_eq_true rfl) d_L_314 ⟨Nat.le_of_ble_eq_true rfl, Nat.le_of_ble_eq_true rfl⟩ ?_
  refine gw_w (w' := wc ad1 cI cZ cC M1' ++ wk ad2 cI cZ cC M2') (List.append_nil _) ?_
  exact gw_icmp_eq (tgt := 496) C d_L_317 (by decide) (fun _ => hend M1' M2' h3) (fun c => absurd rfl c)
set_option maxRecDepth 100000 in
theorem law_sentence {p : Program} {l : Launch} {e : Env} {s : State} {m : MethodId} {below : List Frame} {meth : Method} {c : Code} {D : va_G} {A : Nat → Prop} {ad1 ad2 : Nat → Nat} {cI cZ cC : ClassId} {sk sv : Nat → Nat} {b L : Nat} {xs : Nat → Int32} (C : GC p s m #[Value.ref b] meth c code 4 ret "NoneWordsLaw" TB D vwCl (tysW cI cZ cC) A (ZS sk sv)) (hX : va_X b L xs s s.heap) (hbl : b < s.heap.size) (hbA : ¬ A b) (hL : L < 2 ^ 31) {Inv : Mem → Mem → Prop} (hs_sentence : ∀ (x1 : Int32) (M1 M2 : Mem), Inv M1 M2 → ∃ (r : Int32) (M1' M2' : Mem), f_N_sentence x1 M1 = some (r, M1') ∧ f_K_sentence x1 M2 = some (r, M2') ∧ Inv M1' M2') {i : Nat} (hi : i + 6 ≤ L) (hend : ∀ M1 M2 : Mem, Inv M1 M2 → GW p l e room_1 s m #[Value.ref b] below meth c (lw_Z below #[Value.ref b] s) D vwCl A 4 50 68878 (wc ad1 cI cZ cC M1 ++ wk ad2 cI cZ cC M2) 496 [(0, .ref b), (1, .ref (ad1 0)), (2, .ref (ad2 0)), (3, .int (nI i))] []) {M1 M2 : Mem} (hI : Inv M1 M2) : GW p l e room_1 s m #[Value.ref b] below meth c (lw_Z below #[Value.ref b] s) D vwCl A 4 50 68878 (wc ad1 cI cZ cC M1 ++ wk ad2 cI cZ cC M2) 322 [(0, .ref b), (1, .ref (ad1 0)), (2, .ref (ad2 0)), (3, .int (nI i))] [] := by
  obtain ⟨r, M1', M2', h1, h2, h3⟩ := hs_sentence (xs (i + 1)) M1 M2 hI
  refine gw_aload_n C 1 d_L_322 rfl rfl ?_
  refine gw_aload_n C 0 d_L_323 rfl rfl ?_
  refine gw_iload_n C 3 d_L_324 rfl rfl ?_
  refine gw_iconst (v := 1) C d_L_325 (by decide) ?_
  refine gw_iadd C d_L_326 ?_
  refine gw_sld C hX hbl hbA (nIp_1 i) (by omega) hL d_L_327 ?_
  refine gw_w (w' := [] ++ wc ad1 cI cZ cC M1 ++ wk ad2 cI cZ cC M2) rfl ?_
  refine gw_callVF (rest := []) C 0 wcg_0 clg_4 (c_N_sentence C.2.2.2.2.2.2.2.2.2.2 h1) (cwV 1 C.2.2.2.2.1 (gTB_V tl_417 mv_N_sentence) rfl rfl rfl pd_N_sentence ⟨Nat.le_of_ble_eq_true rfl, Nat.le_of_ble_eq_true rfl⟩) rfl rfl (Nat.le_of_ble_eq_true rfl) d_L_328 ⟨Nat.le_of_ble_eq_true rfl, Nat.le_of_ble_eq_true rfl⟩ ?_
  refine gw_w (w' := wc ad1 cI cZ cC M1' ++ wk ad2 cI cZ cC M2 ++ []) (List.append_nil _).symm ?_
  refine gw_aload_n C 2 d_L_331 rfl rfl ?_
  refine gw_aload_n C 0 d_L_332 rfl rfl ?_
  refine gw_iload_n C 3 d_L_333 rfl rfl ?_
  refine gw_iconst (v := 1) C d_L_334 (by decide) ?_
  refine gw_iadd C d_L_335 ?_
  refine gw_sld C hX hbl hbA (nIp_1 i) (by omega) hL d_L_336 ?_
  refine gw_callVF (wl := wc ad1 cI cZ cC M1') (wr := []) (rest := [.int r]) C 0 wkg_0 clg_5 (c_K_sentence C.2.2.2.2.2.2.2.2.2.2 h2) (cwV 1 C.2.2.2.2.1 (gTB_V tl_953 mv_K_sentence) rfl rfl rfl pd_K_sentence ⟨Nat.le_of_ble_eq_true rfl, Nat.le_of_ble_eq_true rfl⟩) rfl rfl (Nat.le_of_ble_eq_true rfl) d_L_337 ⟨Nat.le_of_ble_eq_true rfl, Nat.le_of_ble_eq_true rfl⟩ ?_
  refine gw_w (w' := wc ad1 cI cZ cC M1' ++ wk ad2 cI cZ cC M2') (List.append_nil _) ?_
  exact gw_icmp_eq (tgt := 496) C d_L_340 (by decide) (fun _ => hend M1' M2' h3) (fun c => absurd rfl c)
set_option maxRecDepth 100000 in
theorem law_letter {p : Program} {l : Launch} {e : Env} {s : State} {m : MethodId} {below : List Frame} {meth : Method} {c : Code} {D : va_G} {A : Nat → Prop} {ad1 ad2 : Nat → Nat} {cI cZ cC : ClassId} {sk sv : Nat → Nat} {b L : Nat} {xs : Nat → Int32} (C : GC p s m #[Value.ref b] meth c code 4 ret "NoneWordsLaw" TB D vwCl (tysW cI cZ cC) A (ZS sk sv)) (hX : va_X b L xs s s.heap) (hbl : b < s.heap.size) (hbA : ¬ A b) (hL : L < 2 ^ 31) {Inv : Mem → Mem → Prop} (hs_letter : ∀ (x1 x2 : Int32) (M1 M2 : Mem), Inv M1 M2 → ∃ (r : Int32) (M1' M2' : Mem), f_N_letter x1 x2 M1 = some (r, M1') ∧ f_K_letter x1 x2 M2 = some (r, M2') ∧ Inv M1' M2') {i : Nat} (hi : i + 6 ≤ L) (hend : ∀ M1 M2 : Mem, Inv M1 M2 → GW p l e room_1 s m #[Value.ref b] below meth c (lw_Z below #[Value.ref b] s) D vwCl A 4 50 68878 (wc ad1 cI cZ cC M1 ++ wk ad2 cI cZ cC M2) 496 [(0, .ref b), (1, .ref (ad1 0)), (2, .ref (ad2 0)), (3, .int (nI i))] []) {M1 M2 : Mem} (hI : Inv M1 M2) : GW p l e room_1 s m #[Value.ref b] below meth c (lw_Z below #[Value.ref b] s) D vwCl A 4 50 68878 (wc ad1 cI cZ cC M1 ++ wk ad2 cI cZ cC M2) 345 [(0, .ref b), (1, .ref (ad1 0)), (2, .ref (ad2 0)), (3, .int (nI i))] [] := by
  obtain ⟨r, M1', M2', h1, h2, h3⟩ := hs_letter (xs (i + 1)) (xs (i + 2)) M1 M2 hI
  refine gw_aload_n C 1 d_L_345 rfl rfl ?_
  refine gw_aload_n C 0 d_L_346 rfl rfl ?_
  refine gw_iload_n C 3 d_L_347 rfl rfl ?_
  refine gw_iconst (v := 1) C d_L_348 (by decide) ?_
  refine gw_iadd C d_L_349 ?_
  refine gw_sld C hX hbl hbA (nIp_1 i) (by omega) hL d_L_350 ?_
  refine gw_aload_n C 0 d_L_351 rfl rfl ?_
  refine gw_iload_n C 3 d_L_352 rfl rfl ?_
  refine gw_iconst (v := 2) C d_L_353 (by decide) ?_
  refine gw_iadd C d_L_354 ?_
  refine gw_sld C hX hbl hbA (nIp_2 i) (by omega) hL d_L_355 ?_
  refine gw_w (w' := [] ++ wc ad1 cI cZ cC M1 ++ wk ad2 cI cZ cC M2) rfl ?_
  refine gw_callVF (rest := []) C 0 wcg_0 clg_4 (c_N_letter C.2.2.2.2.2.2.2.2.2.2 h1) (cwV 2 C.2.2.2.2.1 (gTB_V tl_587 mv_N_letter) rfl rfl rfl pd_N_letter ⟨Nat.le_of_ble_eq_true rfl, Nat.le_of_ble_eq_true rfl⟩) rfl rfl (Nat.le_of_ble_eq_true rfl) d_L_356 ⟨Nat.le_of_ble_eq_true rfl, Nat.le_of_ble_eq_true rfl⟩ ?_
  refine gw_w (w' := wc ad1 cI cZ cC M1' ++ wk ad2 cI cZ cC M2 ++ []) (List.append_nil _).symm ?_
  refine gw_aload_n C 2 d_L_359 rfl rfl ?_
  refine gw_aload_n C 0 d_L_360 rfl rfl ?_
  refine gw_iload_n C 3 d_L_361 rfl rfl ?_
  refine gw_iconst (v := 1) C d_L_362 (by decide) ?_
  refine gw_iadd C d_L_363 ?_
  refine gw_sld C hX hbl hbA (nIp_1 i) (by omega) hL d_L_364 ?_
  refine gw_aload_n C 0 d_L_365 rfl rfl ?_
  refine gw_iload_n C 3 d_L_366 rfl rfl ?_
  refine gw_iconst (v := 2) C d_L_367 (by decide) ?_
  refine gw_iadd C d_L_368 ?_
  refine gw_sld C hX hbl hbA (nIp_2 i) (by omega) hL d_L_369 ?_
  refine gw_callVF (wl := wc ad1 cI cZ cC M1') (wr := []) (rest := [.int r]) C 0 wkg_0 clg_5 (c_K_letter C.2.2.2.2.2.2.2.2.2.2 h2) (cwV 2 C.2.2.2.2.1 (gTB_V tl_961 mv_K_letter) rfl rfl rfl pd_K_letter ⟨Nat.le_of_ble_eq_true rfl, Nat.le_of_ble_eq_true rfl⟩) rfl rfl (Nat.le_of_ble_eq_true rfl) d_L_370 ⟨Nat.le_of_ble_eq_true rfl, Nat.le_of_ble_eq_true rfl⟩ ?_
  refine gw_w (w' := wc ad1 cI cZ cC M1' ++ wk ad2 cI cZ cC M2') (List.append_nil _) ?_
  exact gw_icmp_eq (tgt := 496) C d_L_373 (by decide) (fun _ => hend M1' M2' h3) (fun c => absurd rfl c)
set_option maxRecDepth 100000 in
theorem law_line {p : Program} {l : Launch} {e : Env} {s : State} {m : MethodId} {below : List Frame} {meth : Method} {c : Code} {D : va_G} {A : Nat → Prop} {ad1 ad2 : Nat → Nat} {cI cZ cC : ClassId} {sk sv : Nat → Nat} {b L : Nat} {xs : Nat → Int32} (C : GC p s m #[Value.ref b] meth c code 4 ret "NoneWordsLaw" TB D vwCl (tysW cI cZ cC) A (ZS sk sv)) (hX : va_X b L xs s s.heap) (hbl : b < s.heap.size) (hbA : ¬ A b) (hL : L < 2 ^ 31) {Inv : Mem → Mem → Prop} (hs_line : ∀ (x1 : Int32) (M1 M2 : Mem), Inv M1 M2 → ∃ (r : Int32) (M1' M2' : Mem), f_N_line x1 M1 = some (r, M1') ∧ f_K_line x1 M2 = some (r, M2') ∧ Inv M1' M2') {i : Nat} (hi : i + 6 ≤ L) (hend : ∀ M1 M2 : Mem, Inv M1 M2 → GW p l e room_1 s m #[Value.ref b] below meth c (lw_Z below #[Value.ref b] s) D vwCl A 4 50 68878 (wc ad1 cI cZ cC M1 ++ wk ad2 cI cZ cC M2) 496 [(0, .ref b), (1, .ref (ad1 0)), (2, .ref (ad2 0)), (3, .int (nI i))] []) {M1 M2 : Mem} (hI : Inv M1 M2) : GW p l e room_1 s m #[Value.ref b] below meth c (lw_Z below #[Value.ref b] s) D vwCl A 4 50 68878 (wc ad1 cI cZ cC M1 ++ wk ad2 cI cZ cC M2) 378 [(0, .ref b), (1, .ref (ad1 0)), (2, .ref (ad2 0)), (3, .int (nI i))] [] := by
  obtain ⟨r, M1', M2', h1, h2, h3⟩ := hs_line (xs (i + 1)) M1 M2 hI
  refine gw_aload_n C 1 d_L_378 rfl rfl ?_
  refine gw_aload_n C 0 d_L_379 rfl rfl ?_
  refine gw_iload_n C 3 d_L_380 rfl rfl ?_
  refine gw_iconst (v := 1) C d_L_381 (by decide) ?_
  refine gw_iadd C d_L_382 ?_
  refine gw_sld C hX hbl hbA (nIp_1 i) (by omega) hL d_L_383 ?_
  refine gw_w (w' := [] ++ wc ad1 cI cZ cC M1 ++ wk ad2 cI cZ cC M2) rfl ?_
  refine gw_callVF (rest := []) C 0 wcg_0 clg_4 (c_N_line C.2.2.2.2.2.2.2.2.2.2 h1) (cwV 1 C.2.2.2.2.1 (gTB_V tl_595 mv_N_line) rfl rfl rfl pd_N_line ⟨Nat.le_of_ble_eq_true rfl, Nat.le_of_ble_eq_true rfl⟩) rfl rfl (Nat.le_of_ble_eq_true rfl) d_L_384 ⟨Nat.le_of_ble_eq_true rfl, Nat.le_of_ble_eq_true rfl⟩ ?_
  refine gw_w (w' := wc ad1 cI cZ cC M1' ++ wk ad2 cI cZ cC M2 ++ []) (List.append_nil _).symm ?_
  refine gw_aload_n C 2 d_L_387 rfl rfl ?_
  refine gw_aload_n C 0 d_L_388 rfl rfl ?_
  refine gw_iload_n C 3 d_L_389 rfl rfl ?_
  refine gw_iconst (v := 1) C d_L_390 (by decide) ?_
  refine gw_iadd C d_L_391 ?_
  refine gw_sld C hX hbl hbA (nIp_1 i) (by omega) hL d_L_392 ?_
  refine gw_callVF (wl := wc ad1 cI cZ cC M1') (wr := []) (rest := [.int r]) C 0 wkg_0 clg_5 (c_K_line C.2.2.2.2.2.2.2.2.2.2 h2) (cwV 1 C.2.2.2.2.1 (gTB_V tl_965 mv_K_line) rfl rfl rfl pd_K_line ⟨Nat.le_of_ble_eq_true rfl, Nat.le_of_ble_eq_true rfl⟩) rfl rfl (Nat.le_of_ble_eq_true rfl) d_L_393 ⟨Nat.le_of_ble_eq_true rfl, Nat.le_of_ble_eq_true rfl⟩ ?_
  refine gw_w (w' := wc ad1 cI cZ cC M1' ++ wk ad2 cI cZ cC M2') (List.append_nil _) ?_
  exact gw_icmp_eq (tgt := 496) C d_L_396 (by decide) (fun _ => hend M1' M2' h3) (fun c => absurd rfl c)
set_option maxRecDepth 100000 in
theorem law_numbered {p : Program} {l : Launch} {e : Env} {s : State} {m : MethodId} {below : List Frame} {meth : Method} {c : Code} {D : va_G} {A : Nat → Prop} {ad1 ad2 : Nat → Nat} {cI cZ cC : ClassId} {sk sv : Nat → Nat} {b L : Nat} {xs : Nat → Int32} (C : GC p s m #[Value.ref b] meth c code 4 ret "NoneWordsLaw" TB D vwCl (tysW cI cZ cC) A (ZS sk sv)) (hX : va_X b L xs s s.heap) (hbl : b < s.heap.size) (hbA : ¬ A b) (hL : L < 2 ^ 31) {Inv : Mem → Mem → Prop} (hs_numbered : ∀ (x1 : Int32) (M1 M2 : Mem), Inv M1 M2 → ∃ (r : Int32) (M1' M2' : Mem), f_N_numbered x1 M1 = some (r, M1') ∧ f_K_numbered x1 M2 = some (r, M2') ∧ Inv M1' M2') {i : Nat} (hi : i + 6 ≤ L) (hend : ∀ M1 M2 : Mem, Inv M1 M2 → GW p l e room_1 s m #[Value.ref b] below meth c (lw_Z below #[Value.ref b] s) D vwCl A 4 50 68878 (wc ad1 cI cZ cC M1 ++ wk ad2 cI cZ cC M2) 496 [(0, .ref b), (1, .ref (ad1 0)), (2, .ref (ad2 0)), (3, .int (nI i))] []) {M1 M2 : Mem} (hI : Inv M1 M2) : GW p l e room_1 s m #[Value.ref b] below meth c (lw_Z below #[Value.ref b] s) D vwCl A 4 50 68878 (wc ad1 cI cZ cC M1 ++ wk ad2 cI cZ cC M2) 401 [(0, .ref b), (1, .ref (ad1 0)), (2, .ref (ad2 0)), (3, .int (nI i))] [] := by
  obtain ⟨r, M1', M2', h1, h2, h3⟩ := hs_numbered (xs (i + 1)) M1 M2 hI
  refine gw_aload_n C 1 d_L_401 rfl rfl ?_
  refine gw_aload_n C 0 d_L_402 rfl rfl ?_
  refine gw_iload_n C 3 d_L_403 rfl rfl ?_
  refine gw_iconst (v := 1) C d_L_404 (by decide) ?_
  refine gw_iadd C d_L_405 ?_
  refine gw_sld C hX hbl hbA (nIp_1 i) (by omega) hL d_L_406 ?_
  refine gw_w (w' := [] ++ wc ad1 cI cZ cC M1 ++ wk ad2 cI cZ cC M2) rfl ?_
  refine gw_callVF (rest := []) C 0 wcg_0 clg_4 (c_N_numbered C.2.2.2.2.2.2.2.2.2.2 h1) (cwV 1 C.2.2.2.2.1 (gTB_V tl_603 mv_N_numbered) rfl rfl rfl pd_N_numbered ⟨Nat.le_of_ble_eq_true rfl, Nat.le_of_ble_eq_true rfl⟩) rfl rfl (Nat.le_of_ble_eq_true rfl) d_L_407 ⟨Nat.le_of_ble_eq_true rfl, Nat.le_of_ble_eq_true rfl⟩ ?_
  refine gw_w (w' := wc ad1 cI cZ cC M1' ++ wk ad2 cI cZ cC M2 ++ []) (List.append_nil _).symm ?_
  refine gw_aload_n C 2 d_L_410 rfl rfl ?_
  refine gw_aload_n C 0 d_L_411 rfl rfl ?_
  refine gw_iload_n C 3 d_L_412 rfl rfl ?_
  refine gw_iconst (v := 1) C d_L_413 (by decide) ?_
  refine gw_iadd C d_L_414 ?_
  refine gw_sld C hX hbl hbA (nIp_1 i) (by omega) hL d_L_415 ?_
  refine gw_callVF (wl := wc ad1 cI cZ cC M1') (wr := []) (rest := [.int r]) C 0 wkg_0 clg_5 (c_K_numbered C.2.2.2.2.2.2.2.2.2.2 h2) (cwV 1 C.2.2.2.2.1 (gTB_V tl_969 mv_K_numbered) rfl rfl rfl pd_K_numbered ⟨Nat.le_of_ble_eq_true rfl, Nat.le_of_ble_eq_true rfl⟩) rfl rfl (Nat.le_of_ble_eq_true rfl) d_L_416 ⟨Nat.le_of_ble_eq_true rfl, Nat.le_of_ble_eq_true rfl⟩ ?_
  refine gw_w (w' := wc ad1 cI cZ cC M1' ++ wk ad2 cI cZ cC M2') (List.append_nil _) ?_
  exact gw_icmp_eq (tgt := 496) C d_L_419 (by decide) (fun _ => hend M1' M2' h3) (fun c => absurd rfl c)
set_option maxRecDepth 100000 in
theorem law_solvable {p : Program} {l : Launch} {e : Env} {s : State} {m : MethodId} {below : List Frame} {meth : Method} {c : Code} {D : va_G} {A : Nat → Prop} {ad1 ad2 : Nat → Nat} {cI cZ cC : ClassId} {sk sv : Nat → Nat} {b L : Nat} {xs : Nat → Int32} (C : GC p s m #[Value.ref b] meth c code 4 ret "NoneWordsLaw" TB D vwCl (tysW cI cZ cC) A (ZS sk sv)) (hX : va_X b L xs s s.heap) (hbl : b < s.heap.size) (hbA : ¬ A b) (hL : L < 2 ^ 31) {Inv : Mem → Mem → Prop} (hs_solvable : ∀ (M1 M2 : Mem), Inv M1 M2 → ∃ (r : Int32) (M1' M2' : Mem), f_N_solvable M1 = some (r, M1') ∧ f_K_solvable M2 = some (r, M2') ∧ Inv M1' M2') {i : Nat} (hi : i + 6 ≤ L) (hend : ∀ M1 M2 : Mem, Inv M1 M2 → GW p l e room_1 s m #[Value.ref b] below meth c (lw_Z below #[Value.ref b] s) D vwCl A 4 50 68878 (wc ad1 cI cZ cC M1 ++ wk ad2 cI cZ cC M2) 496 [(0, .ref b), (1, .ref (ad1 0)), (2, .ref (ad2 0)), (3, .int (nI i))] []) {M1 M2 : Mem} (hI : Inv M1 M2) : GW p l e room_1 s m #[Value.ref b] below meth c (lw_Z below #[Value.ref b] s) D vwCl A 4 50 68878 (wc ad1 cI cZ cC M1 ++ wk ad2 cI cZ cC M2) 424 [(0, .ref b), (1, .ref (ad1 0)), (2, .ref (ad2 0)), (3, .int (nI i))] [] := by
  obtain ⟨r, M1', M2', h1, h2, h3⟩ := hs_solvable M1 M2 hI
  refine gw_aload_n C 1 d_L_424 rfl rfl ?_
  refine gw_w (w' := [] ++ wc ad1 cI cZ cC M1 ++ wk ad2 cI cZ cC M2) rfl ?_
  refine gw_callVF (rest := []) C 0 wcg_0 clg_4 (c_N_solvable C.2.2.2.2.2.2.2.2.2.2 h1) (cwV 0 C.2.2.2.2.1 (gTB_V tl_608 mv_N_solvable) rfl rfl rfl pd_N_solvable ⟨Nat.le_of_ble_eq_true rfl, Nat.le_of_ble_eq_true rfl⟩) rfl rfl (Nat.le_of_ble_eq_true rfl) d_L_425 ⟨Nat.le_of_ble_eq_true rfl, Nat.le_of_ble_eq_true rfl⟩ ?_
  refine gw_w (w' := wc ad1 cI cZ cC M1' ++ wk ad2 cI cZ cC M2 ++ []) (List.append_nil _).symm ?_
  refine gw_aload_n C 2 d_L_428 rfl rfl ?_
  refine gw_callVF (wl := wc ad1 cI cZ cC M1') (wr := []) (rest := [.int r]) C 0 wkg_0 clg_5 (c_K_solvable C.2.2.2.2.2.2.2.2.2.2 h2) (cwV 0 C.2.2.2.2.1 (gTB_V tl_973 mv_K_solvable) rfl rfl rfl pd_K_solvable ⟨Nat.le_of_ble_eq_true rfl, Nat.le_of_ble_eq_true rfl⟩) rfl rfl (Nat.le_of_ble_eq_true rfl) d_L_429 ⟨Nat.le_of_ble_eq_true rfl, Nat.le_of_ble_eq_true rfl⟩ ?_
  refine gw_w (w' := wc ad1 cI cZ cC M1' ++ wk ad2 cI cZ cC M2') (List.append_nil _) ?_
  exact gw_icmp_eq (tgt := 496) C d_L_432 (by decide) (fun _ => hend M1' M2' h3) (fun c => absurd rfl c)
set_option maxRecDepth 100000 in
theorem law_least {p : Program} {l : Launch} {e : Env} {s : State} {m : MethodId} {below : List Frame} {meth : Method} {c : Code} {D : va_G} {A : Nat → Prop} {ad1 ad2 : Nat → Nat} {cI cZ cC : ClassId} {sk sv : Nat → Nat} {b L : Nat} {xs : Nat → Int32} (C : GC p s m #[Value.ref b] meth c code 4 ret "NoneWordsLaw" TB D vwCl (tysW cI cZ cC) A (ZS sk sv)) (hX : va_X b L xs s s.heap) (hbl : b < s.heap.size) (hbA : ¬ A b) (hL : L < 2 ^ 31) {Inv : Mem → Mem → Prop} (hs_least : ∀ (M1 M2 : Mem), Inv M1 M2 → ∃ (r : Int32) (M1' M2' : Mem), f_N_least M1 = some (r, M1') ∧ f_K_least M2 = some (r, M2') ∧ Inv M1' M2') {i : Nat} (hi : i + 6 ≤ L) (hend : ∀ M1 M2 : Mem, Inv M1 M2 → GW p l e room_1 s m #[Value.ref b] below meth c (lw_Z below #[Value.ref b] s) D vwCl A 4 50 68878 (wc ad1 cI cZ cC M1 ++ wk ad2 cI cZ cC M2) 496 [(0, .ref b), (1, .ref (ad1 0)), (2, .ref (ad2 0)), (3, .int (nI i))] []) {M1 M2 : Mem} (hI : Inv M1 M2) : GW p l e room_1 s m #[Value.ref b] below meth c (lw_Z below #[Value.ref b] s) D vwCl A 4 50 68878 (wc ad1 cI cZ cC M1 ++ wk ad2 cI cZ cC M2) 437 [(0, .ref b), (1, .ref (ad1 0)), (2, .ref (ad2 0)), (3, .int (nI i))] [] := by
  obtain ⟨r, M1', M2', h1, h2, h3⟩ := hs_least M1 M2 hI
  refine gw_aload_n C 1 d_L_437 rfl rfl ?_
  refine gw_w (w' := [] ++ wc ad1 cI cZ cC M1 ++ wk ad2 cI cZ cC M2) rfl ?_
  refine gw_callVF (rest := []) C 0 wcg_0 clg_4 (c_N_least C.2.2.2.2.2.2.2.2.2.2 h1) (cwV 0 C.2.2.2.2.1 (gTB_V tl_641 mv_N_least) rfl rfl rfl pd_N_least ⟨Nat.le_of_ble_eq_true rfl, Nat.le_of_ble_eq_true rfl⟩) rfl rfl (Nat.le_of_ble_eq_true rfl) d_L_438 ⟨Nat.le_of_ble_eq_true rfl, Nat.le_of_ble_eq_true rfl⟩ ?_
  refine gw_w (w' := wc ad1 cI cZ cC M1' ++ wk ad2 cI cZ cC M2 ++ []) (List.append_nil _).symm ?_
  refine gw_aload_n C 2 d_L_441 rfl rfl ?_
  refine gw_callVF (wl := wc ad1 cI cZ cC M1') (wr := []) (rest := [.int r]) C 0 wkg_0 clg_5 (c_K_least C.2.2.2.2.2.2.2.2.2.2 h2) (cwV 0 C.2.2.2.2.1 (gTB_V tl_993 mv_K_least) rfl rfl rfl pd_K_least ⟨Nat.le_of_ble_eq_true rfl, Nat.le_of_ble_eq_true rfl⟩) rfl rfl (Nat.le_of_ble_eq_true rfl) d_L_442 ⟨Nat.le_of_ble_eq_true rfl, Nat.le_of_ble_eq_true rfl⟩ ?_
  refine gw_w (w' := wc ad1 cI cZ cC M1' ++ wk ad2 cI cZ cC M2') (List.append_nil _) ?_
  exact gw_icmp_eq (tgt := 496) C d_L_445 (by decide) (fun _ => hend M1' M2' h3) (fun c => absurd rfl c)
set_option maxRecDepth 100000 in
theorem law_demand {p : Program} {l : Launch} {e : Env} {s : State} {m : MethodId} {below : List Frame} {meth : Method} {c : Code} {D : va_G} {A : Nat → Prop} {ad1 ad2 : Nat → Nat} {cI cZ cC : ClassId} {sk sv : Nat → Nat} {b L : Nat} {xs : Nat → Int32} (C : GC p s m #[Value.ref b] meth c code 4 ret "NoneWordsLaw" TB D vwCl (tysW cI cZ cC) A (ZS sk sv)) (hX : va_X b L xs s s.heap) (hbl : b < s.heap.size) (hbA : ¬ A b) (hL : L < 2 ^ 31) {Inv : Mem → Mem → Prop} (hs_demand : ∀ (x1 : Int32) (M1 M2 : Mem), Inv M1 M2 → ∃ (r : Int32) (M1' M2' : Mem), f_N_demand x1 M1 = some (r, M1') ∧ f_K_demand x1 M2 = some (r, M2') ∧ Inv M1' M2') {i : Nat} (hi : i + 6 ≤ L) (hend : ∀ M1 M2 : Mem, Inv M1 M2 → GW p l e room_1 s m #[Value.ref b] below meth c (lw_Z below #[Value.ref b] s) D vwCl A 4 50 68878 (wc ad1 cI cZ cC M1 ++ wk ad2 cI cZ cC M2) 496 [(0, .ref b), (1, .ref (ad1 0)), (2, .ref (ad2 0)), (3, .int (nI i))] []) {M1 M2 : Mem} (hI : Inv M1 M2) : GW p l e room_1 s m #[Value.ref b] below meth c (lw_Z below #[Value.ref b] s) D vwCl A 4 50 68878 (wc ad1 cI cZ cC M1 ++ wk ad2 cI cZ cC M2) 450 [(0, .ref b), (1, .ref (ad1 0)), (2, .ref (ad2 0)), (3, .int (nI i))] [] := by
  obtain ⟨r, M1', M2', h1, h2, h3⟩ := hs_demand (xs (i + 1)) M1 M2 hI
  refine gw_aload_n C 1 d_L_450 rfl rfl ?_
  refine gw_aload_n C 0 d_L_451 rfl rfl ?_
  refine gw_iload_n C 3 d_L_452 rfl rfl ?_
  refine gw_iconst (v := 1) C d_L_453 (by decide) ?_
  refine gw_iadd C d_L_454 ?_
  refine gw_sld C hX hbl hbA (nIp_1 i) (by omega) hL d_L_455 ?_
  refine gw_w (w' := [] ++ wc ad1 cI cZ cC M1 ++ wk ad2 cI cZ cC M2) rfl ?_
  refine gw_callVF (rest := []) C 0 wcg_0 clg_4 (c_N_demand C.2.2.2.2.2.2.2.2.2.2 h1) (cwV 1 C.2.2.2.2.1 (gTB_V tl_659 mv_N_demand) rfl rfl rfl pd_N_demand ⟨Nat.le_of_ble_eq_true rfl, Nat.le_of_ble_eq_true rfl⟩) rfl rfl (Nat.le_of_ble_eq_true rfl) d_L_456 ⟨Nat.le_of_ble_eq_true rfl, Nat.le_of_ble_eq_true rfl⟩ ?_
  refine gw_w (w' := wc ad1 cI cZ cC M1' ++ wk ad2 cI cZ cC M2 ++ []) (List.append_nil _).symm ?_
  refine gw_aload_n C 2 d_L_459 rfl rfl ?_
  refine gw_aload_n C 0 d_L_460 rfl rfl ?_
  refine gw_iload_n C 3 d_L_461 rfl rfl ?_
  refine gw_iconst (v := 1) C d_L_462 (by decide) ?_
  refine gw_iadd C d_L_463 ?_
  refine gw_sld C hX hbl hbA (nIp_1 i) (by omega) hL d_L_464 ?_
  refine gw_callVF (wl := wc ad1 cI cZ cC M1') (wr := []) (rest := [.int r]) C 0 wkg_0 clg_5 (c_K_demand C.2.2.2.2.2.2.2.2.2.2 h2) (cwV 1 C.2.2.2.2.1 (gTB_V tl_997 mv_K_demand) rfl rfl rfl pd_K_demand ⟨Nat.le_of_ble_eq_true rfl, Nat.le_of_ble_eq_true rfl⟩) rfl rfl (Nat.le_of_ble_eq_true rfl) d_L_465 ⟨Nat.le_of_ble_eq_true rfl, Nat.le_of_ble_eq_true rfl⟩ ?_
  refine gw_w (w' := wc ad1 cI cZ cC M1' ++ wk ad2 cI cZ cC M2') (List.append_nil _) ?_
  exact gw_icmp_eq (tgt := 496) C d_L_468 (by decide) (fun _ => hend M1' M2' h3) (fun c => absurd rfl c)
set_option maxRecDepth 100000 in
theorem law_hint {p : Program} {l : Launch} {e : Env} {s : State} {m : MethodId} {below : List Frame} {meth : Method} {c : Code} {D : va_G} {A : Nat → Prop} {ad1 ad2 : Nat → Nat} {cI cZ cC : ClassId} {sk sv : Nat → Nat} {b L : Nat} {xs : Nat → Int32} (C : GC p s m #[Value.ref b] meth c code 4 ret "NoneWordsLaw" TB D vwCl (tysW cI cZ cC) A (ZS sk sv)) (hX : va_X b L xs s s.heap) (hbl : b < s.heap.size) (hbA : ¬ A b) (hL : L < 2 ^ 31) {Inv : Mem → Mem → Prop} (hs_hint : ∀ (x1 : Int32) (M1 M2 : Mem), Inv M1 M2 → ∃ (r : Int32) (M1' M2' : Mem), f_N_hint x1 M1 = some (r, M1') ∧ f_K_hint x1 M2 = some (r, M2') ∧ Inv M1' M2') {i : Nat} (hi : i + 6 ≤ L) (hend : ∀ M1 M2 : Mem, Inv M1 M2 → GW p l e room_1 s m #[Value.ref b] below meth c (lw_Z below #[Value.ref b] s) D vwCl A 4 50 68878 (wc ad1 cI cZ cC M1 ++ wk ad2 cI cZ cC M2) 496 [(0, .ref b), (1, .ref (ad1 0)), (2, .ref (ad2 0)), (3, .int (nI i))] []) {M1 M2 : Mem} (hI : Inv M1 M2) : GW p l e room_1 s m #[Value.ref b] below meth c (lw_Z below #[Value.ref b] s) D vwCl A 4 50 68878 (wc ad1 cI cZ cC M1 ++ wk ad2 cI cZ cC M2) 473 [(0, .ref b), (1, .ref (ad1 0)), (2, .ref (ad2 0)), (3, .int (nI i))] [] := by
  obtain ⟨r, M1', M2', h1, h2, h3⟩ := hs_hint (xs (i + 1)) M1 M2 hI
  refine gw_aload_n C 1 d_L_473 rfl rfl ?_
  refine gw_aload_n C 0 d_L_474 rfl rfl ?_
  refine gw_iload_n C 3 d_L_475 rfl rfl ?_
  refine gw_iconst (v := 1) C d_L_476 (by decide) ?_
  refine gw_iadd C d_L_477 ?_
  refine gw_sld C hX hbl hbA (nIp_1 i) (by omega) hL d_L_478 ?_
  refine gw_w (w' := [] ++ wc ad1 cI cZ cC M1 ++ wk ad2 cI cZ cC M2) rfl ?_
  refine gw_callVF (rest := []) C 0 wcg_0 clg_4 (c_N_hint C.2.2.2.2.2.2.2.2.2.2 h1) (cwV 1 C.2.2.2.2.1 (gTB_V tl_667 mv_N_hint) rfl rfl rfl pd_N_hint ⟨Nat.le_of_ble_eq_true rfl, Nat.le_of_ble_eq_true rfl⟩) rfl rfl (Nat.le_of_ble_eq_true rfl) d_L_479 ⟨Nat.le_of_ble_eq_true rfl, Nat.le_of_ble_eq_true rfl⟩ ?_
  refine gw_w (w' := wc ad1 cI cZ cC M1' ++ wk ad2 cI cZ cC M2 ++ []) (List.append_nil _).symm ?_
  refine gw_aload_n C 2 d_L_482 rfl rfl ?_
  refine gw_aload_n C 0 d_L_483 rfl rfl ?_
  refine gw_iload_n C 3 d_L_484 rfl rfl ?_
  refine gw_iconst (v := 1) C d_L_485 (by decide) ?_
  refine gw_iadd C d_L_486 ?_
  refine gw_sld C hX hbl hbA (nIp_1 i) (by omega) hL d_L_487 ?_
  refine gw_callVF (wl := wc ad1 cI cZ cC M1') (wr := []) (rest := [.int r]) C 0 wkg_0 clg_5 (c_K_hint C.2.2.2.2.2.2.2.2.2.2 h2) (cwV 1 C.2.2.2.2.1 (gTB_V tl_1001 mv_K_hint) rfl rfl rfl pd_K_hint ⟨Nat.le_of_ble_eq_true rfl, Nat.le_of_ble_eq_true rfl⟩) rfl rfl (Nat.le_of_ble_eq_true rfl) d_L_488 ⟨Nat.le_of_ble_eq_true rfl, Nat.le_of_ble_eq_true rfl⟩ ?_
  refine gw_w (w' := wc ad1 cI cZ cC M1' ++ wk ad2 cI cZ cC M2') (List.append_nil _) ?_
  exact gw_icmp_eq (tgt := 496) C d_L_491 (by decide) (fun _ => hend M1' M2' h3) (fun c => absurd rfl c)
theorem lw_gt {i L : Nat} (h : L < i + 6) (hL : L ≤ 3072) (hi : i ≤ 6000) : nI L - 6 < nI i := by
  rw [Int32.lt_iff_toInt_lt]
  have h1 : (nI L - nI 6).toInt = (L : Int) - 6 := pk_sub_toInt (by omega) (by omega)
  have h2 : (nI i).toInt = (i : Int) := nI_toInt (by omega)
  have h3 : (nI L - 6 : Int32) = nI L - nI 6 := rfl
  rw [h3, h1, h2]
  omega
set_option maxRecDepth 100000 in
theorem lw_last {p : Program} {l : Launch} {e : Env} {s : State} {m : MethodId} {below : List Frame} {meth : Method} {c : Code} {D : va_G} {A : Nat → Prop} {cI cZ cC : ClassId} {sk sv : Nat → Nat} {b : Nat} (C : GC p s m #[Value.ref b] meth c code 4 ret "NoneWordsLaw" TB D vwCl (tysW cI cZ cC) A (ZS sk sv)) (hAs : A = fun q => s.heap.size ≤ q) {w : va_W} {lv : List (Nat × Value)} : GW p l e room_1 s m #[Value.ref b] below meth c (lw_Z below #[Value.ref b] s) D vwCl A 4 50 68878 w 502 lv [] := by
  refine gw_iconst (v := 1) C d_L_502 (by decide) ?_
  intro H locs ls hP hD hS hl
  refine va_forget (fun q hq => by have := hS.2.2 q hq; rw [hAs] at this; exact this) ?_
  refine W.widen (k := 600000) (n := 7302250) (by decide) (by decide) ?_
  exact lw_ret C.1 C.2.1 C.2.2.2.2.2.2.2.1 C.2.2.2.2.2.2.1 d_L_503
set_option maxRecDepth 100000 in
theorem law_loop {p : Program} {l : Launch} {e : Env} {s : State} {m : MethodId} {below : List Frame} {meth : Method} {c : Code} {D : va_G} {A : Nat → Prop} {ad1 ad2 : Nat → Nat} {cI cZ cC : ClassId} {sk sv : Nat → Nat} {b L : Nat} {xs : Nat → Int32} (C : GC p s m #[Value.ref b] meth c code 4 ret "NoneWordsLaw" TB D vwCl (tysW cI cZ cC) A (ZS sk sv)) (hX : va_X b L xs s s.heap) (hbl : b < s.heap.size) (hbA : ¬ A b) (hAs : A = fun q => s.heap.size ≤ q) (hL : L ≤ 3072) {Inv : Mem → Mem → Prop} (hs_name : ∀ (x1 : Int32) (M1 M2 : Mem), Inv M1 M2 → ∃ (r : Int32) (M1' M2' : Mem), f_N_name x1 M1 = some (r, M1') ∧ f_K_name x1 M2 = some (r, M2') ∧ Inv M1' M2') (hs_leaf : ∀ (x1 x2 x3 x4 x5 : Int32) (M1 M2 : Mem), Inv M1 M2 → ∃ (r : Int32) (M1' M2' : Mem), f_N_leaf x1 x2 x3 x4 x5 M1 = some (r, M1') ∧ f_K_leaf x1 x2 x3 x4 x5 M2 = some (r, M2') ∧ Inv M1' M2') (hs_join : ∀ (x1 x2 x3 : Int32) (M1 M2 : Mem), Inv M1 M2 → ∃ (r : Int32) (M1' M2' : Mem), f_N_join x1 x2 x3 M1 = some (r, M1') ∧ f_K_join x1 x2 x3 M2 = some (r, M2') ∧ Inv M1' M2') (hs_terms : ∀ (x1 : Int32) (M1 M2 : Mem), Inv M1 M2 → ∃ (r : Int32) (M1' M2' : Mem), f_N_terms x1 M1 = some (r, M1') ∧ f_K_terms x1 M2 = some (r, M2') ∧ Inv M1' M2') (hs_term : ∀ (x1 x2 x3 : Int32) (M1 M2 : Mem), Inv M1 M2 → ∃ (r : Int32) (M1' M2' : Mem), f_N_term x1 x2 x3 M1 = some (r, M1') ∧ f_K_term x1 x2 x3 M2 = some (r, M2') ∧ Inv M1' M2') (hs_write : ∀ (x1 : Int32) (M1 M2 : Mem), Inv M1 M2 → ∃ (r : Int32) (M1' M2' : Mem), f_N_write x1 M1 = some (r, M1') ∧ f_K_write x1 M2 = some (r, M2') ∧ Inv M1' M2') (hs_sentence : ∀ (x1 : Int32) (M1 M2 : Mem), Inv M1 M2 → ∃ (r : Int32) (M1' M2' : Mem), f_N_sentence x1 M1 = some (r, M1') ∧ f_K_sentence x1 M2 = some (r, M2') ∧ Inv M1' M2') (hs_letter : ∀ (x1 x2 : Int32) (M1 M2 : Mem), Inv M1 M2 → ∃ (r : Int32) (M1' M2' : Mem), f_N_letter x1 x2 M1 = some (r, M1') ∧ f_K_letter x1 x2 M2 = some (r, M2') ∧ Inv M1' M2') (hs_line : ∀ (x1 : Int32) (M1 M2 : Mem), Inv M1 M2 → ∃ (r : Int32) (M1' M2' : Mem), f_N_line x1 M1 = some (r, M1') ∧ f_K_line x1 M2 = some (r, M2') ∧ Inv M1' M2') (hs_numbered : ∀ (x1 : Int32) (M1 M2 : Mem), Inv M1 M2 → ∃ (r : Int32) (M1' M2' : Mem), f_N_numbered x1 M1 = some (r, M1') ∧ f_K_numbered x1 M2 = some (r, M2') ∧ Inv M1' M2') (hs_solvable : ∀ (M1 M2 : Mem), Inv M1 M2 → ∃ (r : Int32) (M1' M2' : Mem), f_N_solvable M1 = some (r, M1') ∧ f_K_solvable M2 = some (r, M2') ∧ Inv M1' M2') (hs_least : ∀ (M1 M2 : Mem), Inv M1 M2 → ∃ (r : Int32) (M1' M2' : Mem), f_N_least M1 = some (r, M1') ∧ f_K_least M2 = some (r, M2') ∧ Inv M1' M2') (hs_demand : ∀ (x1 : Int32) (M1 M2 : Mem), Inv M1 M2 → ∃ (r : Int32) (M1' M2' : Mem), f_N_demand x1 M1 = some (r, M1') ∧ f_K_demand x1 M2 = some (r, M2') ∧ Inv M1' M2') (hs_hint : ∀ (x1 : Int32) (M1 M2 : Mem), Inv M1 M2 → ∃ (r : Int32) (M1' M2' : Mem), f_N_hint x1 M1 = some (r, M1') ∧ f_K_hint x1 M2 = some (r, M2') ∧ Inv M1' M2') : ∀ (n i : Nat) (M1 M2 : Mem), L + 1 ≤ i + n → i ≤ L + 6 → Inv M1 M2 → GW p l e room_1 s m #[Value.ref b] below meth c (lw_Z below #[Value.ref b] s) D vwCl A 4 50 68878 (wc ad1 cI cZ cC M1 ++ wk ad2 cI cZ cC M2) 18 [(0, .ref b), (1, .ref (ad1 0)), (2, .ref (ad2 0)), (3, .int (nI i))] [] := by
  intro n
  induction n with
  | zero => intro i M1 M2 h1 h2 hI
            refine gw_iload_n C 3 d_L_18 rfl rfl ?_
            refine gw_aload_n C 0 d_L_19 rfl rfl ?_
            refine gw_slen C hX hbl hbA d_L_20 ?_
            refine gw_bipush (v := 6) C d_L_21 (by decide) ?_
            refine gw_isub C d_L_23 ?_
            refine gw_icmp_gt (tgt := 502) C d_L_24 (by decide) (fun _ => ?_) (fun c => absurd (lw_gt (by omega) hL (by omega)) c)
            exact lw_last C hAs
  | succ n ih =>
    intro i M1 M2 h1 h2 hI
    refine gw_iload_n C 3 d_L_18 rfl rfl ?_
    refine gw_aload_n C 0 d_L_19 rfl rfl ?_
    refine gw_slen C hX hbl hbA d_L_20 ?_
    refine gw_bipush (v := 6) C d_L_21 (by decide) ?_
    refine gw_isub C d_L_23 ?_
    refine gw_icmp_gt (tgt := 502) C d_L_24 (by decide) (fun _ => lw_last C hAs) (fun cg => ?_)
    have hi : i + 6 ≤ L := by
      rcases Nat.lt_or_ge L (i + 6) with q | q
      · exact absurd (lw_gt q hL (by omega)) cg
      · exact q
    have hL2 : L < 2 ^ 31 := by omega
    have hend : ∀ M1 M2 : Mem, Inv M1 M2 → GW p l e room_1 s m #[Value.ref b] below meth c (lw_Z below #[Value.ref b] s) D vwCl A 4 50 68878 (wc ad1 cI cZ cC M1 ++ wk ad2 cI cZ cC M2) 496 [(0, .ref b), (1, .ref (ad1 0)), (2, .ref (ad2 0)), (3, .int (nI i))] [] := by
      intro M1 M2 hI
      refine gw_iinc (v := nI (i + 6)) (lv' := [(3, .int (nI (i + 6))), (0, .ref b), (1, .ref (ad1 0)), (2, .ref (ad2 0))]) C 3 d_L_496 rfl (nIp_6 i) (by decide) rfl ?_
      refine gw_goto (tgt := 18) C d_L_499 (by decide) ?_
      exact gw_sub [1, 2, 3, 0] rfl (ih (i + 6) M1 M2 (by omega) (by omega) hI)
    refine gw_aload_n C 0 d_L_27 rfl rfl ?_
    refine gw_iload_n C 3 d_L_28 rfl rfl ?_
    refine gw_sld C hX hbl hbA rfl (by omega) hL2 d_L_29 ?_
    refine gw_bipush (v := 15) C d_L_30 (by decide) ?_
    refine gw_iand C d_L_32 ?_
    by_cases c0 : xs i &&& 15 = 0
    · refine gw_tableIn (tgt := 104) C 0 c0 d_L_33 (by decide) (by decide) rfl (by decide) ?_
      exact law_name C hX hbl hbA hL2 hs_name hi hend hI
    by_cases c1 : xs i &&& 15 = 1
    · refine gw_tableIn (tgt := 127) C 1 c1 d_L_33 (by decide) (by decide) rfl (by decide) ?_
      exact law_leaf C hX hbl hbA hL2 hs_leaf hi hend hI
    by_cases c2 : xs i &&& 15 = 2
    · refine gw_tableIn (tgt := 190) C 2 c2 d_L_33 (by decide) (by decide) rfl (by decide) ?_
      exact law_join C hX hbl hbA hL2 hs_join hi hend hI
    by_cases c3 : xs i &&& 15 = 3
    · refine gw_tableIn (tgt := 233) C 3 c3 d_L_33 (by decide) (by decide) rfl (by decide) ?_
      exact law_terms C hX hbl hbA hL2 hs_terms hi hend hI
    by_cases c4 : xs i &&& 15 = 4
    · refine gw_tableIn (tgt := 256) C 4 c4 d_L_33 (by decide) (by decide) rfl (by decide) ?_
      exact law_term C hX hbl hbA hL2 hs_term hi hend hI
    by_cases c5 : xs i &&& 15 = 5
    · refine gw_tableIn (tgt := 299) C 5 c5 d_L_33 (by decide) (by decide) rfl (by decide) ?_
      exact law_write C hX hbl hbA hL2 hs_write hi hend hI
    by_cases c6 : xs i &&& 15 = 6
    · refine gw_tableIn (tgt := 322) C 6 c6 d_L_33 (by decide) (by decide) rfl (by decide) ?_
      exact law_sentence C hX hbl hbA hL2 hs_sentence hi hend hI
    by_cases c7 : xs i &&& 15 = 7
    · refine gw_tableIn (tgt := 345) C 7 c7 d_L_33 (by decide) (by decide) rfl (by decide) ?_
      exact law_letter C hX hbl hbA hL2 hs_letter hi hend hI
    by_cases c8 : xs i &&& 15 = 8
    · refine gw_tableIn (tgt := 378) C 8 c8 d_L_33 (by decide) (by decide) rfl (by decide) ?_
      exact law_line C hX hbl hbA hL2 hs_line hi hend hI
    by_cases c9 : xs i &&& 15 = 9
    · refine gw_tableIn (tgt := 401) C 9 c9 d_L_33 (by decide) (by decide) rfl (by decide) ?_
      exact law_numbered C hX hbl hbA hL2 hs_numbered hi hend hI
    by_cases c10 : xs i &&& 15 = 10
    · refine gw_tableIn (tgt := 424) C 10 c10 d_L_33 (by decide) (by decide) rfl (by decide) ?_
      exact law_solvable C hX hbl hbA hL2 hs_solvable hi hend hI
    by_cases c11 : xs i &&& 15 = 11
    · refine gw_tableIn (tgt := 437) C 11 c11 d_L_33 (by decide) (by decide) rfl (by decide) ?_
      exact law_least C hX hbl hbA hL2 hs_least hi hend hI
    by_cases c12 : xs i &&& 15 = 12
    · refine gw_tableIn (tgt := 450) C 12 c12 d_L_33 (by decide) (by decide) rfl (by decide) ?_
      exact law_demand C hX hbl hbA hL2 hs_demand hi hend hI
    by_cases c13 : xs i &&& 15 = 13
    · refine gw_tableIn (tgt := 473) C 13 c13 d_L_33 (by decide) (by decide) rfl (by decide) ?_
      exact law_hint C hX hbl hbA hL2 hs_hint hi hend hI
    refine gw_tableOut (tgt := 496) C d_L_33 (by have z0 := lv_neT c0 (a := 0) (by decide); have z1 := lv_neT c1 (a := 1) (by decide); have z2 := lv_neT c2 (a := 2) (by decide); have z3 := lv_neT c3 (a := 3) (by decide); have z4 := lv_neT c4 (a := 4) (by decide); have z5 := lv_neT c5 (a := 5) (by decide); have z6 := lv_neT c6 (a := 6) (by decide); have z7 := lv_neT c7 (a := 7) (by decide); have z8 := lv_neT c8 (a := 8) (by decide); have z9 := lv_neT c9 (a := 9) (by decide); have z10 := lv_neT c10 (a := 10) (by decide); have z11 := lv_neT c11 (a := 11) (by decide); have z12 := lv_neT c12 (a := 12) (by decide); have z13 := lv_neT c13 (a := 13) (by decide); omega) (by decide) ?_
    exact hend M1 M2 hI
