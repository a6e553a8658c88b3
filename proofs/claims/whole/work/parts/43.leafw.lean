/-! PURE: the words of a leaf -/
def leafL (v : Nat → Nat) (M : Mem) (k : Nat) : List Int32 :=
  setL (v (M 5 k).toNatClampNeg) (M 5 k).toNatClampNeg (M 6 k).toNatClampNeg ++
  (if M 3 k = 0 then tx 14 else if M 3 k = 1 then tx 15 ++ setL (v (M 7 k).toNatClampNeg) (M 7 k).toNatClampNeg (M 8 k).toNatClampNeg else if M 3 k = 2 then tx 16 else tx 17 ++ setL (v (M 7 k).toNatClampNeg) (M 7 k).toNatClampNeg (M 8 k).toNatClampNeg)
theorem om_id {o : Option Mem} : (om o fun M => some M) = o := by cases o <;> rfl
theorem PC_w {o : Option Mem} {M M0 : Mem} {B L : List Int32} (h : PC o M B L) (f : FC M0 M) : PC o M0 B L := by
  obtain ⟨M', a, b, c⟩ := h
  exact ⟨M', a, b, FC_t f c⟩
theorem F_toldName {N k : Nat} {M : Mem} (hN : N ≤ 120) (h10 : M 1 10 = nI N) (hk : k < N) : f_F_toldName (nI k) M = some (M 5 k, M) ∧ f_F_toldSet (nI k) M = some (M 6 k, M) ∧ f_F_toldOther (nI k) M = some (M 7 k, M) ∧ f_F_toldOtherSet (nI k) M = some (M 8 k, M) := by
  refine ⟨?_, ?_, ?_, ?_⟩
  · rw [f_F_toldName, F_hasNode_t hN h10 hk, ob_s, if_neg (by decide), gd_nI (by omega) (by decide), nI_clamp (by omega)]
  · rw [f_F_toldSet, F_hasNode_t hN h10 hk, ob_s, if_neg (by decide), gd_nI (by omega) (by decide), nI_clamp (by omega)]
  · rw [f_F_toldOther, F_hasNode_t hN h10 hk, ob_s, if_neg (by decide), gd_nI (by omega) (by decide), nI_clamp (by omega)]
  · rw [f_F_toldOtherSet, F_hasNode_t hN h10 hk, ob_s, if_neg (by decide), gd_nI (by omega) (by decide), nI_clamp (by omega)]
theorem P_tellLeaf {n N k d : Nat} {v : Nat → Nat} {M K : Mem} {B : List Int32} (h : RF n N v M K) (hk : k < N) (hd : M 3 k = nI d) (hd4 : d < 4) (hb : BufC M B) (hB : B.length + 40 ≤ 256) : PC (f_P_tellLeaf (nI k) M) M B (leafL v M k) := by
  obtain ⟨h1, h2, h3, h4, h5, h6, h7, h8⟩ := id h
  obtain ⟨d', g1, g2, g3, -, -, g9⟩ := h8 k hk
  have hdd : d' = d := (nI_eq (by omega) (by omega)).mp (g2.symm.trans hd)
  subst hdd
  obtain ⟨-, -, a, s, ha, hs, e1, e2, e3, e4, -, g11⟩ := g9 hd4
  obtain ⟨va, va2, -⟩ := h7 a ha
  have s16 := pow16 va hs
  obtain ⟨t1, t2, -, -⟩ := F_toldName h2 h5 hk
  have m1 := tx_len 14 (by decide)
  have m2 := tx_len 15 (by decide)
  have m3 := tx_len 16 (by decide)
  have m4 := tx_len 17 (by decide)
  have m0 := setL_len (ver := v a) (a := a) s16
  rw [f_P_tellLeaf, t1, ob_s, t2, ob_s, leafL, e1, e3, nI_clamp (by omega), nI_clamp (by omega)]
  refine PC_om (P_tellSet h1 h3 ha va va2 hs hb (by omega)) (fun M1 b1 f1 => ?_)
  have hq : ∀ q, q ≤ 10 → M1 q = M q := fun q hq => f1.1 q (by omega) (by omega)
  rw [F_kindOf (M := M1) h2 (by rw [hq 1 (by omega)]; exact h5) hk (by rw [hq 3 (by omega)]; exact hd), ob_s, hd]
  have other : d' = 1 ∨ d' = 3 → ∀ (M2 : Mem) (B2 : List Int32), FC M1 M2 → BufC M2 B2 → B2.length + 12 ≤ 256 → PC (ob (f_F_toldOther (nI k) M2) fun r77 M77 => ob (f_F_toldOtherSet (nI k) M77) fun r85 M85 => om (f_P_tellSet r77 r85 M85) fun M88 => some M88) M2 B2 (setL (v (M 7 k).toNatClampNeg) (M 7 k).toNatClampNeg (M 8 k).toNatClampNeg) := fun hd13 M2 B2 f2 b2 hB2 => by
    obtain ⟨a2, s2, k1, k2, k3, k4, k5, k6, k7, -⟩ := g11 hd13
    obtain ⟨vb, vb2, -⟩ := h7 a2 k1
    have s216 := pow16 vb k3
    have hq2 : ∀ q, q ≤ 10 → M2 q = M q := fun q hq' => by rw [f2.1 q (by omega) (by omega), hq q hq']
    obtain ⟨-, -, t3, t4⟩ := F_toldName (M := M2) h2 (by rw [hq2 1 (by omega)]; exact h5) hk
    rw [t3, ob_s, t4, ob_s, om_id, hq2 7 (by omega), hq2 8 (by omega), k4, k6, nI_clamp (by omega), nI_clamp (by omega)]
    exact P_tellSet h1 (by rw [hq2 1 (by omega)]; exact h3) k1 vb (by rw [hq2 2 (by omega)]; exact vb2) k3 b2 hB2
  have c0 : nI d' = 0 ↔ d' = 0 := nI_eq0 (by omega)
  have c1 : nI d' = 1 ↔ d' = 1 := nI_eq (b := 1) (by omega) (by decide)
  have c2 : nI d' = 2 ↔ d' = 2 := nI_eq (b := 2) (by omega) (by decide)
  by_cases d0 : d' = 0
  · rw [if_pos (c0.mpr d0), if_pos (c0.mpr d0), om_id]
    exact P_putS b1 (by decide) (by simp; omega)
  · rw [if_neg (fun e => d0 (c0.mp e)), if_neg (fun e => d0 (c0.mp e))]
    by_cases d1 : d' = 1
    · rw [if_pos (c1.mpr d1), if_pos (c1.mpr d1)]
      exact PC_om (P_putS b1 (by decide) (by simp; omega)) (fun M2 b2 f2 => other (Or.inl d1) M2 _ f2 b2 (by simp; omega))
    · rw [if_neg (fun e => d1 (c1.mp e)), if_neg (fun e => d1 (c1.mp e))]
      by_cases d2 : d' = 2
      · rw [if_pos (c2.mpr d2), if_pos (c2.mpr d2), om_id]
        exact P_putS b1 (by decide) (by simp; omega)
      · rw [if_neg (fun e => d2 (c2.mp e)), if_neg (fun e => d2 (c2.mp e))]
        exact PC_om (P_putS b1 (by decide) (by simp; omega)) (fun M2 b2 f2 => other (Or.inr (by omega)) M2 _ f2 b2 (by simp; omega))
theorem K_leafWords {n N k d : Nat} {v : Nat → Nat} {M K : Mem} {B : List Int32} (h : RF n N v M K) (hk : k < N) (hd : M 3 k = nI d) (hd4 : d < 4) (hb : BufK K B) (hB : B.length + 80 ≤ 60000) : PK (f_K_leafWords (nI k) K) K B (leafL v M k) := by
  obtain ⟨h1, h2, h3, h4, h5, h6, h7, h8⟩ := id h
  obtain ⟨d', g1, g2, g3, -, -, g9⟩ := h8 k hk
  have hdd : d' = d := (nI_eq (by omega) (by omega)).mp (g2.symm.trans hd)
  subst hdd
  obtain ⟨-, -, a, s, ha, hs, e1, e2, e3, e4, -, g11⟩ := g9 hd4
  obtain ⟨va, -, va2⟩ := h7 a ha
  have s16 := pow16 va hs
  have m0 := setL_len (ver := v a) (a := a) s16
  have sl : ∀ c, (sayB c).length ≤ 8 := fun c => by
    have : ∀ k, (sayN c k).length ≤ k := by
      intro k
      induction k with
      | zero => exact Nat.le_refl 0
      | succ k ih =>
        rw [sayN]
        split
        · omega
        · rw [List.length_cons]; omega
    exact this 8
  rw [f_K_leafWords, gd_nI (by omega) (by decide), gd_nI (by omega) (by decide), nI_clamp (by omega), e2, e4, leafL, e1, e3, nI_clamp (by omega), nI_clamp (by omega)]
  refine PK_om (K_words (by omega) va va2 hs hb (by omega)) (fun M1 b1 f1 => ?_)
  have hq : ∀ q, q ≠ 0 → q ≤ 8 → M1 q = K q := fun q q0 hq => f1.1 q q0 (by omega)
  rw [gd_nI (by omega) (by decide), hq 2 (by omega) (by omega), g3, hd]
  have other : d' = 1 ∨ d' = 3 → ∀ (M2 : Mem) (B2 : List Int32), FB M1 M2 → BufK M2 B2 → B2.length + 30 ≤ 60000 → PK (gd (inb (nI k) 120) (gd (inb (nI k) 120) (om (f_K_words (M2 5 k) (M2 6 k) M2) fun M85 => some M85))) M2 B2 (setL (v (M 7 k).toNatClampNeg) (M 7 k).toNatClampNeg (M 8 k).toNatClampNeg) := fun hd13 M2 B2 f2 b2 hB2 => by
    obtain ⟨a2, s2, k1, k2, k3, k4, k5, k6, k7, -⟩ := g11 hd13
    obtain ⟨vb, -, vb2⟩ := h7 a2 k1
    have s216 := pow16 vb k3
    have hq2 : ∀ q, q ≠ 0 → q ≤ 8 → M2 q = K q := fun q q0 hq' => by rw [f2.1 q q0 (by omega), hq q q0 hq']
    rw [gd_nI (by omega) (by decide), gd_nI (by omega) (by decide), om_id, hq2 5 (by omega) (by omega), hq2 6 (by omega) (by omega), k5, k7, k4, k6, nI_clamp (by omega), nI_clamp (by omega)]
    exact K_words (by omega) vb (by rw [hq2 1 (by omega) (by omega)]; exact vb2) k3 b2 hB2
  have c0 : nI d' = 0 ↔ d' = 0 := nI_eq0 (by omega)
  have c1 : nI d' = 1 ↔ d' = 1 := nI_eq (b := 1) (by omega) (by decide)
  have c2 : nI d' = 2 ↔ d' = 2 := nI_eq (b := 2) (by omega) (by decide)
  by_cases d0 : d' = 0
  · rw [if_pos (c0.mpr d0), if_pos (c0.mpr d0), ← say_asked]
    refine PK_om (K_say b1 (by simp; omega)) (fun M2 b2 f2 => ?_)
    rw [om_id]
    have := sl 2335524464679414629
    exact K_say b2 (by simp; omega)
  · rw [if_neg (fun e => d0 (c0.mp e)), if_neg (fun e => d0 (c0.mp e))]
    by_cases d1 : d' = 1
    · rw [if_pos (c1.mpr d1), if_pos (c1.mpr d1), ← say_needs]
      have := sl 9128581026575136
      exact PK_om (K_say b1 (by simp; omega)) (fun M2 b2 f2 => other (Or.inl d1) M2 _ f2 b2 (by simp; omega))
    · rw [if_neg (fun e => d1 (c1.mp e)), if_neg (fun e => d1 (c1.mp e))]
      by_cases d2 : d' = 2
      · rw [if_pos (c2.mpr d2), if_pos (c2.mpr d2), ← say_drawn]
        refine PK_om (K_say b1 (by simp; omega)) (fun M2 b2 f2 => ?_)
        rw [om_id]
        have := sl 2335524465047860328
        exact K_say b2 (by simp; omega)
      · rw [if_neg (fun e => d2 (c2.mp e)), if_neg (fun e => d2 (c2.mp e)), ← say_excl, List.append_assoc]
        have := sl 2334404350278198373
        have := sl 29472
        exact PK_om (K_say b1 (by simp; omega)) (fun M2 b2 f2 => PK_om (K_say b2 (by simp; omega)) (fun M3 b3 f3 => other (Or.inr (by omega)) M3 _ (FB_t f2 f3) b3 (by simp; omega)))
