/-! PURE: the words of a join, both sides -/
theorem rowL_none {v : Nat → Nat} {T : Int32} {w : Bool} {sep : List Int32} : ∀ (c i : Nat) (f : Bool), (∀ j, i ≤ j → j < i + c → hasT T j = false) → rowL v T w sep c i f = [] := by
  intro c
  induction c with
  | zero => intro i f _; rfl
  | succ c ih => intro i f h; rw [rowL, h i (Nat.le_refl i) (by omega), Bool.false_and, if_neg (by decide), ih (i + 1) f (fun j a b => h j (by omega) (by omega))]
theorem rowL_cut {v : Nat → Nat} {T : Int32} {w : Bool} {sep : List Int32} {d : Nat} : ∀ (c i : Nat) (f : Bool), (∀ j, i + c ≤ j → j < i + c + d → hasT T j = false) → rowL v T w sep (c + d) i f = rowL v T w sep c i f := by
  intro c
  induction c with
  | zero => intro i f h; rw [Nat.zero_add, rowL_none d i f (fun j a b => h j (by omega) (by omega))]; rfl
  | succ c ih =>
    intro i f h
    rw [Nat.succ_add, rowL, rowL, ih (i + 1) true (fun j a b => h j (by omega) (by omega)), ih (i + 1) f (fun j a b => h j (by omega) (by omega))]
theorem cnt_cut {p : Nat → Bool} {d : Nat} : ∀ (c i : Nat), (∀ j, i + c ≤ j → j < i + c + d → p j = false) → cnt p (c + d) i = cnt p c i := by
  intro c
  induction c with
  | zero =>
    intro i h
    rw [Nat.zero_add]
    have : ∀ (d i : Nat), (∀ j, i ≤ j → j < i + d → p j = false) → cnt p d i = 0 := by
      intro d
      induction d with
      | zero => intro i _; rfl
      | succ d ih => intro i h; rw [cnt, h i (Nat.le_refl i) (by omega), ih (i + 1) (fun j a b => h j (by omega) (by omega))]; rfl
    exact this d i (fun j a b => h j (by omega) (by omega))
  | succ c ih => intro i h; rw [Nat.succ_add, cnt, cnt, ih (i + 1) (fun j a b => h j (by omega) (by omega))]
theorem rowL_v {v v' : Nat → Nat} {T : Int32} {w : Bool} {sep : List Int32} : ∀ (c i : Nat) (f : Bool), (∀ j, i ≤ j → j < i + c → hasT T j = true → v' j = v j) → rowL v' T w sep c i f = rowL v T w sep c i f := by
  intro c
  induction c with
  | zero => intro i f _; rfl
  | succ c ih =>
    intro i f h
    rw [rowL, rowL, ih (i + 1) true (fun j a b => h j (by omega) (by omega)), ih (i + 1) f (fun j a b => h j (by omega) (by omega))]
    cases hT : hasT T i
    · rw [Bool.false_and, if_neg (by decide), if_neg (by decide)]
    · rw [h i (Nat.le_refl i) (by omega) hT]
theorem rowL_len {v : Nat → Nat} {T : Int32} {w : Bool} {sep : List Int32} (hsep : sep.length ≤ 5) : ∀ (c i : Nat), (∀ j, i ≤ j → j < i + c → (setL (v j) j (setT T j).toNatClampNeg).length ≤ 7) → (rowL v T w sep c i true).length ≤ 12 * cnt (fun i => hasT T i && (wan T i == w)) c i ∧ (rowL v T w sep c i false).length ≤ 12 * cnt (fun i => hasT T i && (wan T i == w)) c i - 5 := by
  intro c
  induction c with
  | zero => intro i _; exact ⟨Nat.le_refl 0, Nat.le_refl 0⟩
  | succ c ih =>
    intro i h
    obtain ⟨a1, a2⟩ := ih (i + 1) (fun j a b => h j (by omega) (by omega))
    have a3 := h i (Nat.le_refl i) (by omega)
    rw [rowL, rowL, cnt]
    cases hp : (hasT T i && (wan T i == w))
    · rw [if_neg (by decide), if_neg (by decide), if_neg (by decide), Nat.zero_add]
      exact ⟨a1, a2⟩
    · rw [if_pos rfl, if_pos rfl, if_pos rfl, if_pos rfl, if_neg (by decide)]
      simp only [List.length_append, List.length_nil]
      omega
def rowT (v : Nat → Nat) (T : Int32) (w : Bool) : List Int32 := rowL v T w (if w then tx 5 else tx 10) 5 0 false
def joinL (v : Nat → Nat) (T : Int32) : List Int32 :=
  if cn T true 5 = 0 ∧ cn T false 5 = 0 then tx 4 else
  if cn T false 5 = 0 then rowT v T true ++ (if cn T true 5 = 1 then tx 7 else if cn T true 5 = 2 then tx 8 else tx 9) else
  if cn T true 5 = 0 then rowT v T false ++ tx 11 else
  rowT v T true ++ ((if cn T true 5 = 1 then tx 12 else tx 13) ++ rowT v T false)
/-- names that aren't there have no term -/
theorem hasT_out {n k i : Nat} {v : Nat → Nat} {M K : Mem} (h : NR n v M K k) (hni : n ≤ i) (hi : i < 5) : hasT (M 4 k) i = false := by
  obtain ⟨d, -, -, -, ⟨hhi, h5⟩, -, -⟩ := h
  have := (opt_31 hi hhi).mpr ((h5 i hi).1 hni)
  rw [hasT, decide_eq_true this]; rfl
theorem cn_5 {n k : Nat} {v : Nat → Nat} {M K : Mem} {w : Bool} (h : NR n v M K k) (hn : n ≤ 5) : cn (M 4 k) w n = cn (M 4 k) w 5 := by
  have := cnt_cut (p := fun i => hasT (M 4 k) i && (wan (M 4 k) i == w)) (d := 5 - n) n 0 (fun j a b => by rw [hasT_out h (by omega) (by omega)]; rfl)
  rw [show n + (5 - n) = 5 by omega] at this
  exact this.symm
theorem row_5 {n k : Nat} {v : Nat → Nat} {M K : Mem} {w : Bool} (h : NR n v M K k) (hn : n ≤ 5) : rowL v (M 4 k) w (if w then tx 5 else tx 10) n 0 false = rowT v (M 4 k) w := by
  have := rowL_cut (v := v) (T := M 4 k) (w := w) (sep := if w then tx 5 else tx 10) (d := 5 - n) n 0 false (fun j a b => hasT_out h (by omega) (by omega))
  rw [show n + (5 - n) = 5 by omega] at this
  exact this.symm
theorem joinL_v {n k : Nat} {v v' : Nat → Nat} {M K : Mem} (h : NR n v M K k) (hv : ∀ i, i < n → v' i = v i) : joinL v' (M 4 k) = joinL v (M 4 k) := by
  have : ∀ w, rowT v' (M 4 k) w = rowT v (M 4 k) w := fun w => rowL_v 5 0 false (fun j _ b hT => by
    by_cases hj : j < n
    · exact hv j hj
    · rw [hasT_out h (by omega) (by omega)] at hT; cases hT)
  rw [joinL, joinL, this true, this false]
theorem cn_both {T : Int32} : cn T true 5 + cn T false 5 ≤ 5 := by
  have := cnt_split (hasT T) (wan T) 5 0
  have h2 := cnt_le (hasT T) 5 0
  unfold cn
  omega
theorem rowT_len {n k N : Nat} {v : Nat → Nat} {M K : Mem} {w : Bool} (h : RF n N v M K) (hk : k < N) : (rowT v (M 4 k) w).length ≤ 12 * cn (M 4 k) w 5 - 5 := by
  obtain ⟨h1, h2, h3, h4, h5, h6, h7, h8⟩ := id h
  have hR := h8 k hk
  rw [← row_5 hR h1, ← cn_5 hR h1]
  refine (rowL_len ?_ n 0 (fun j _ b => ?_)).2
  · cases w <;> decide +kernel
  · obtain ⟨s, s1, s2⟩ := setT_small hR h1 (show j < n by omega) (h7 j (by omega)).1
    rw [s2, nI_clamp (by have := pow16 (h7 j (by omega)).1 s1; omega)]
    exact setL_len (pow16 (h7 j (by omega)).1 s1)
theorem joinL_len {n k N : Nat} {v : Nat → Nat} {M K : Mem} (h : RF n N v M K) (hk : k < N) : (joinL v (M 4 k)).length ≤ 68 := by
  have a1 := rowT_len (w := true) h hk
  have a2 := rowT_len (w := false) h hk
  have a3 := cn_both (T := M 4 k)
  have l4 : (tx 4).length = 15 := by decide +kernel
  have l7 : (tx 7).length = 9 := by decide +kernel
  have l8 : (tx 8).length = 14 := by decide +kernel
  have l9 : (tx 9).length = 13 := by decide +kernel
  have l11 : (tx 11).length = 8 := by decide +kernel
  have l12 : (tx 12).length = 7 := by decide +kernel
  have l13 : (tx 13).length = 6 := by decide +kernel
  unfold joinL
  generalize cn (M 4 k) true 5 = a at *
  generalize cn (M 4 k) false 5 = b at *
  repeat' split
  all_goals first | omega | (simp only [List.length_append]; omega)
theorem P_tellJoin {n N k : Nat} {v : Nat → Nat} {M K : Mem} {B : List Int32} (h : RF n N v M K) (hk : k < N) (hb : BufC M B) (hB : B.length + (joinL v (M 4 k)).length + 11 ≤ 256) : PC (f_P_tellJoin (nI k) M) M B (joinL v (M 4 k)) := by
  obtain ⟨h1, h2, h3, h4, h5, h6, h7, h8⟩ := id h
  have hR := h8 k hk
  have hx := NR_hi hR
  have ct := F_countTerms (w := true) h1 h2 h3 h5 hk hx
  have cf := F_countTerms (w := false) h1 h2 h3 h5 hk hx
  rw [show cnt (fun i => hasT (M 4 k) i && (wan (M 4 k) i == true)) n 0 = cn (M 4 k) true n from rfl, cn_5 hR h1] at ct
  rw [show cnt (fun i => hasT (M 4 k) i && (wan (M 4 k) i == false)) n 0 = cn (M 4 k) false n from rfl, cn_5 hR h1] at cf
  have ab := cn_both (T := M 4 k)
  have tt : ∀ (w : Bool) (M1 : Mem) (B1 : List Int32), FC M M1 → BufC M1 B1 → B1.length + (rowT v (M 4 k) w).length + 11 ≤ 256 → PC (f_P_tellTerms (nI k) (bi w) (if w then 5 else 10) M1) M1 B1 (rowT v (M 4 k) w) := fun w M1 B1 f1 b1 hB1 => by
    have e4 : M1 4 = M 4 := f1.1 4 (by decide) (by decide)
    have h' : RF n N v M1 K := RF_keep h (fun q _ _ => f1.1 q (by omega) (by omega)) (fun _ _ _ => rfl) rfl rfl
    have es : (if w then tx 5 else tx 10) = tx (if w then 5 else 10) := by cases w <;> rfl
    have := P_tellTerms (w := w) (sp := if w then 5 else 10) h' hk (by cases w <;> decide) b1 (by rw [e4, ← es, row_5 hR h1]; exact hB1)
    rw [e4, ← es, row_5 hR h1] at this
    exact this
  rw [f_P_tellJoin, show (1 : Int32) = bi true from rfl, show (0 : Int32) = bi false from rfl, ct, ob_s, cf, ob_s]
  rw [joinL] at hB ⊢
  generalize cn (M 4 k) true 5 = a at *
  generalize cn (M 4 k) false 5 = b at *
  have a0 : nI a = bi false ↔ a = 0 := nI_eq0 (by omega)
  have b0 : nI b = bi false ↔ b = 0 := nI_eq0 (by omega)
  have a1 : nI a = bi true ↔ a = 1 := nI_eq (b := 1) (by omega) (by decide)
  have a2 : nI a = 2 ↔ a = 2 := nI_eq (b := 2) (by omega) (by decide)
  have s37 : ¬ (a = 0 ∧ b = 0) → PC (f_P_tellJoin_37 (nI k) (nI a) (nI b) M) M B (if a = 0 ∧ b = 0 then tx 4 else if b = 0 then rowT v (M 4 k) true ++ (if a = 1 then tx 7 else if a = 2 then tx 8 else tx 9) else if a = 0 then rowT v (M 4 k) false ++ tx 11 else rowT v (M 4 k) true ++ ((if a = 1 then tx 12 else tx 13) ++ rowT v (M 4 k) false)) := fun hn0 => by
    rw [if_neg hn0] at hB ⊢
    rw [f_P_tellJoin_37, show (1 : Int32) = bi true from rfl, show (0 : Int32) = bi false from rfl]
    by_cases hb0 : b = 0
    · rw [if_pos hb0] at hB ⊢
      rw [if_pos (b0.mpr hb0)]
      rw [List.length_append] at hB
      refine PC_om (tt true M B (FC_r M) hb (by omega)) (fun M1 b1 f1 => ?_)
      by_cases ha1 : a = 1
      · rw [if_pos ha1] at hB ⊢
        rw [if_pos (a1.mpr ha1), f_P_tellJoin_72, om_id]
        exact P_putS b1 (by decide) (by rw [List.length_append]; omega)
      · rw [if_neg ha1] at hB ⊢
        rw [if_neg (fun e => ha1 (a1.mp e))]
        by_cases ha2 : a = 2
        · rw [if_pos ha2] at hB ⊢
          rw [if_pos (a2.mpr ha2), f_P_tellJoin_72, om_id]
          exact P_putS b1 (by decide) (by rw [List.length_append]; omega)
        · rw [if_neg ha2] at hB ⊢
          rw [if_neg (fun e => ha2 (a2.mp e)), f_P_tellJoin_72, om_id]
          exact P_putS b1 (by decide) (by rw [List.length_append]; omega)
    · rw [if_neg hb0] at hB ⊢
      rw [if_neg (fun e => hb0 (b0.mp e))]
      by_cases ha0 : a = 0
      · rw [if_pos ha0, List.length_append] at hB
        rw [if_pos ha0, if_pos (a0.mpr ha0)]
        refine PC_om (tt false M B (FC_r M) hb (by omega)) (fun M1 b1 f1 => ?_)
        rw [om_id]
        exact P_putS b1 (by decide) (by rw [List.length_append]; omega)
      · rw [if_neg ha0, List.length_append, List.length_append] at hB
        rw [if_neg ha0, if_neg (fun e => ha0 (a0.mp e))]
        refine PC_om (tt true M B (FC_r M) hb (by omega)) (fun M1 b1 f1 => ?_)
        by_cases ha1 : a = 1
        · rw [if_pos ha1] at hB ⊢
          rw [if_pos (a1.mpr ha1), f_P_tellJoin_120]
          refine PC_om (P_putS b1 (by decide) (by rw [List.length_append]; omega)) (fun M2 b2 f2 => ?_)
          rw [om_id]
          exact tt false M2 _ (FC_t f1 f2) b2 (by rw [List.length_append, List.length_append]; omega)
        · rw [if_neg ha1] at hB ⊢
          rw [if_neg (fun e => ha1 (a1.mp e)), f_P_tellJoin_120]
          refine PC_om (P_putS b1 (by decide) (by rw [List.length_append]; omega)) (fun M2 b2 f2 => ?_)
          rw [om_id]
          exact tt false M2 _ (FC_t f1 f2) b2 (by rw [List.length_append, List.length_append]; omega)
  by_cases ha0 : a = 0
  · rw [if_pos (a0.mpr ha0)]
    by_cases hb0 : b = 0
    · rw [if_pos (show a = 0 ∧ b = 0 from ⟨ha0, hb0⟩)] at hB ⊢
      rw [if_pos (b0.mpr hb0), om_id]
      exact P_putS hb (by decide) (by omega)
    · rw [if_neg (fun e => hb0 (b0.mp e))]
      exact s37 (fun e => hb0 e.2)
  · rw [if_neg (fun e => ha0 (a0.mp e))]
    exact s37 (fun e => ha0 e.1)
theorem PK_ob {o : Option (Int32 × Mem)} {k : Int32 → Mem → Option Mem} {M : Mem} {B L1 L2 : List Int32} (h : PKi o M B L1) (h2 : ∀ r M1, BufK M1 (B ++ L1) → FB M M1 → PK (k r M1) M1 (B ++ L1) L2) : PK (ob o k) M B (L1 ++ L2) := by
  obtain ⟨r, M1, rfl, a, b⟩ := h
  obtain ⟨M2, c, d, e⟩ := h2 r M1 a b
  exact ⟨M2, by rw [ob_s, c], by rw [← List.append_assoc]; exact d, FB_t b e⟩
theorem PK_l {o : Option Mem} {M : Mem} {B L L' : List Int32} (h : PK o M B L) (e : L = L') : PK o M B L' := e ▸ h
theorem K_joinWords {n N k : Nat} {v : Nat → Nat} {M K : Mem} {B : List Int32} (h : RF n N v M K) (hk : k < N) (hb : BufK K B) (hB : B.length + 800 ≤ 60000) : PK (f_K_joinWords (nI k) K) K B (joinL v (M 4 k)) := by
  obtain ⟨h1, h2, h3, h4, h5, h6, h7, h8⟩ := id h
  have hR := h8 k hk
  have ct := K_counted (w := true) h hk
  have cf := K_counted (w := false) h hk
  rw [cn_5 hR h1] at ct cf
  have ab := cn_both (T := M 4 k)
  have lt := rowT_len (w := true) h hk
  have lf := rowT_len (w := false) h hk
  have rr : ∀ (w : Bool) (K1 : Mem) (B1 : List Int32), FB K K1 → BufK K1 B1 → B1.length + 300 ≤ 60000 → PKi (f_K_row (nI k) (bi w) K1) K1 B1 (rowT v (M 4 k) w) := fun w K1 B1 f1 b1 hB1 => by
    have h' : RF n N v M K1 := RF_keep h (fun _ _ _ => rfl) (fun q _ _ => f1.1 q (by omega) (by omega)) (f1.2 2 (by decide)) (f1.2 3 (by decide))
    have := K_row (w := w) h' hk b1 (by omega)
    rw [row_5 hR h1] at this
    exact this
  rw [f_K_joinWords, show (1 : Int32) = bi true from rfl, show (0 : Int32) = bi false from rfl, ct, ob_s, cf, ob_s, joinL]
  generalize cn (M 4 k) true 5 = a at *
  generalize cn (M 4 k) false 5 = b at *
  have a0 : nI a = bi false ↔ a = 0 := nI_eq0 (by omega)
  have a1 : nI a = bi true ↔ a = 1 := nI_eq (b := 1) (by omega) (by decide)
  have a2 : nI a = 2 ↔ a = 2 := nI_eq (b := 2) (by omega) (by decide)
  have c1 := sl8 9116469365797920
  have c2 := sl8 422776694816
  have c3 := sl8 1634495520
  have c4 := sl8 139274314094
  have c5 := sl8 7957707058381219616
  have hs : nI a + nI b = bi false ↔ a = 0 ∧ b = 0 := by
    rw [nI_add]
    have : nI (a + b) = bi false ↔ a + b = 0 := nI_eq0 (by omega)
    rw [this]; omega
  by_cases h0 : a = 0 ∧ b = 0
  · rw [if_pos (hs.mpr h0), if_pos h0]
    refine PK_l (PK_om (K_say hb (by omega)) (fun M1 b1 f1 => ?_)) say_left
    rw [om_id]
    exact K_say b1 (by rw [List.length_append]; omega)
  · rw [if_neg (fun e => h0 (hs.mp e)), if_neg h0]
    by_cases ha0 : a = 0
    · rw [if_pos (a0.mpr ha0), if_neg (show ¬ b = 0 by omega), if_pos ha0, ← say_must]
      refine PK_ob (rr false K B (FB_r K) hb (by omega)) (fun r M1 b1 f1 => ?_)
      rw [om_id]
      exact K_say b1 (by rw [List.length_append]; omega)
    · rw [if_neg (fun e => ha0 (a0.mp e))]
      by_cases hb0 : b = 0
      · rw [if_pos hb0]
        refine PK_ob (rr true K B (FB_r K) hb (by omega)) (fun r M1 b1 f1 => ?_)
        rw [if_pos (show nI b ≤ bi false by rw [hb0]; decide)]
        have e134 : ∀ (K2 : Mem) (B2 : List Int32), BufK K2 B2 → B2.length + 20 ≤ 60000 → PK (f_K_joinWords_134 K2) K2 B2 (sayB 25189) := fun K2 B2 b2 g2 => by
          rw [f_K_joinWords_134, om_id]
          exact K_say b2 (by omega)
        by_cases ha1 : a = 1
        · rw [if_pos ha1, ← say_cant]
          refine PK_om (K_say b1 (by rw [List.length_append]; omega)) (fun M2 b2 f2 => ?_)
          rw [if_neg (fun e => absurd (a2.mp e) (by omega)), f_K_joinWords_122, if_pos (show nI a ≤ 2 from nI_le (b := 2) (by omega) (by decide))]
          exact e134 M2 _ b2 (by rw [List.length_append, List.length_append]; omega)
        · rw [if_neg ha1]
          by_cases ha2 : a = 2
          · rw [if_pos ha2, ← say_both]
            refine PK_om (K_say b1 (by rw [List.length_append]; omega)) (fun M2 b2 f2 => ?_)
            rw [if_pos (a2.mpr ha2)]
            refine PK_om (K_say b2 (by rw [List.length_append, List.length_append]; omega)) (fun M3 b3 f3 => ?_)
            rw [f_K_joinWords_122, if_pos (show nI a ≤ 2 from nI_le (b := 2) (by omega) (by decide))]
            exact e134 M3 _ b3 (by rw [List.length_append, List.length_append, List.length_append]; omega)
          · rw [if_neg ha2, ← say_all]
            refine PK_om (K_say b1 (by rw [List.length_append]; omega)) (fun M2 b2 f2 => ?_)
            rw [if_neg (fun e => ha2 (a2.mp e)), f_K_joinWords_122, if_neg (show ¬ nI a ≤ 2 from nI_ge (a := 2) (by omega) (by omega))]
            refine PK_om (K_say b2 (by rw [List.length_append, List.length_append]; omega)) (fun M3 b3 f3 => ?_)
            exact e134 M3 _ b3 (by rw [List.length_append, List.length_append, List.length_append]; omega)
      · rw [if_neg hb0, if_neg ha0]
        refine PK_ob (rr true K B (FB_r K) hb (by omega)) (fun r M1 b1 f1 => ?_)
        rw [if_neg (show ¬ nI b ≤ bi false from nI_ge (a := 0) (by omega) (by omega))]
        have e87 : ∀ (K2 : Mem) (B2 : List Int32), FB K K2 → BufK K2 B2 → B2.length + 400 ≤ 60000 → PK (f_K_joinWords_87 (nI k) K2) K2 B2 ([32] ++ rowT v (M 4 k) false) := fun K2 B2 f2 b2 g2 => by
          rw [f_K_joinWords_87]
          refine PK_om (K_put b2 (by omega)) (fun M3 b3 f3 => ?_)
          obtain ⟨r, K4, e1, e2, e3⟩ := rr false M3 _ (FB_t f2 f3) b3 (by rw [List.length_append, List.length_singleton]; omega)
          exact ⟨K4, by rw [show (0 : Int32) = bi false from rfl, e1, ob_s], e2, e3⟩
        by_cases ha1 : a = 1
        · rw [if_pos ha1, ← say_means, List.append_assoc, List.append_assoc]
          refine PK_om (K_say b1 (by rw [List.length_append]; omega)) (fun M2 b2 f2 => ?_)
          rw [if_pos (a1.mpr ha1)]
          refine PK_om (K_put b2 (by rw [List.length_append, List.length_append]; omega)) (fun M3 b3 f3 => ?_)
          exact e87 M3 _ (FB_t f1 (FB_t f2 f3)) b3 (by rw [List.length_append, List.length_append, List.length_append, List.length_singleton]; omega)
        · rw [if_neg ha1, ← say_mean, List.append_assoc]
          refine PK_om (K_say b1 (by rw [List.length_append]; omega)) (fun M2 b2 f2 => ?_)
          rw [if_neg (fun e => ha1 (a1.mp e))]
          exact e87 M2 _ (FB_t f1 f2) b2 (by rw [List.length_append, List.length_append]; omega)
