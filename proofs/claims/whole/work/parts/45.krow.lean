def PKi (o : Option (Int32 × Mem)) (M : Mem) (B L : List Int32) : Prop := ∃ r M', o = some (r, M') ∧ BufK M' (B ++ L) ∧ FB M M'
theorem PKi_om {o : Option Mem} {k : Mem → Option (Int32 × Mem)} {M : Mem} {B L1 L2 : List Int32} (h : PK o M B L1) (h2 : ∀ M1, BufK M1 (B ++ L1) → FB M M1 → PKi (k M1) M1 (B ++ L1) L2) : PKi (om o k) M B (L1 ++ L2) := by
  obtain ⟨M1, rfl, a, b⟩ := h
  obtain ⟨r, M2, c, d, e⟩ := h2 M1 a b
  exact ⟨r, M2, by rw [om_s, c], by rw [← List.append_assoc]; exact d, FB_t b e⟩
theorem sl8 (c : Int64) : (sayB c).length ≤ 8 := by
  have : ∀ k, (sayN c k).length ≤ k := by
    intro k
    induction k with
    | zero => exact Nat.le_refl 0
    | succ k ih =>
      rw [sayN]
      split
      · omega
      · rw [List.length_cons]; omega
  exact this 8
theorem K_row {n N k : Nat} {w : Bool} {v : Nat → Nat} {M K : Mem} {B : List Int32} (h : RF n N v M K) (hk : k < N) (hb : BufK K B) (hB : B.length + 60 * n ≤ 60000) : PKi (f_K_row (nI k) (bi w) K) K B (rowL v (M 4 k) w (if w then tx 5 else tx 10) n 0 false) := by
  obtain ⟨h1, h2, h3, h4, h5, h6, h7, h8⟩ := id h
  have hR := h8 k hk
  have hx := NR_hi hR
  have loop : ∀ (c i m t : Nat) (K1 : Mem) (B1 : List Int32), i + c = n → c < m → t ≤ i → FB K K1 → BufK K1 B1 → B1.length + 60 * c ≤ 60000 → PKi (f_K_row_5 m (nI k) (bi w) (nI t) (nI i) K1) K1 B1 (rowL v (M 4 k) w (if w then tx 5 else tx 10) c i (!decide (t = 0))) := by
    intro c
    induction c with
    | zero =>
      intro i m t K1 B1 hi hm ht f1 b1 _
      obtain ⟨m, rfl⟩ : ∃ m', m = m' + 1 := ⟨m - 1, by omega⟩
      rw [f_K_row_5, f1.2 2 (by decide), h4, if_pos (nI_le (by omega) (by omega)), rowL]
      exact ⟨_, K1, rfl, by rw [List.append_nil]; exact b1, FB_r K1⟩
    | succ c ih =>
      intro i m t K1 B1 hi hm ht f1 b1 hB1
      obtain ⟨m, rfl⟩ : ∃ m', m = m' + 1 := ⟨m - 1, by omega⟩
      have hin : i < n := by omega
      have hq : ∀ M2, FB K M2 → ∀ q, q ≠ 0 → q ≤ 8 → M2 q = K q := fun M2 f2 q q0 hq => f2.1 q q0 (by omega)
      rw [f_K_row_5, f1.2 2 (by decide), h4, if_neg (nI_ge hin (by omega)), f_K_place, ob_s, i5, gd_nI (by omega) (by decide), nI_clamp (by omega), hq K1 f1 7 (by omega) (by omega), nI_1 (a := i), rowL]
      obtain ⟨s, s1, s2⟩ := setT_small hR h1 hin (h7 i hin).1
      have s16 := pow16 (h7 i hin).1 s1
      have sl := setL_len (ver := v i) (a := i) s16
      rcases hasT_K hR (show i < 5 by omega) with ⟨e1, e2⟩ | ⟨e1, e2⟩
      · rw [if_pos e1, e2, if_neg (by simp)]
        exact ih (i + 1) m t K1 B1 (by omega) (by omega) (by omega) f1 b1 (by omega)
      · have hT := NR_TR hR hin h1
        have w0 := (hT.2.2 e1).1
        rw [if_neg (by rw [e1]; decide), K_isWanted (K := K1) (by omega) (by omega) (by rw [hq K1 f1 8 (by omega) (by omega)]; exact w0), ob_s, show (!(ib (M 4 k) (5 * i + 4))) = wan (M 4 k) i from rfl, e2, Bool.true_and]
        have t72 : ∀ (M2 : Mem) (B2 : List Int32), FB K M2 → BufK M2 B2 → B2.length + 40 + 60 * c ≤ 60000 → PKi (f_K_row_72 (f_K_row_5 m) (nI k) (bi w) (nI t) (nI i) M2) M2 B2 (setL (v i) i (setT (M 4 k) i).toNatClampNeg ++ rowL v (M 4 k) w (if w then tx 5 else tx 10) c (i + 1) true) := fun M2 B2 f2 b2 hB2 => by
          rw [f_K_row_72, K_setOf (K := M2) (x := M 4 k) (w := v i) (by omega) (by omega) (h7 i hin).1 (by rw [hq M2 f2 1 (by omega) (by omega)]; exact (h7 i hin).2.2) hx (by rw [hq M2 f2 7 (by omega) (by omega), hq M2 f2 8 (by omega) (by omega)]; exact hT) (by rw [hq M2 f2 7 (by omega) (by omega)]; exact e1), ob_s, s2, nI_clamp (by omega), nI_1, nI_1]
          refine PKi_om (K_words (by omega) (h7 i hin).1 (by rw [hq M2 f2 1 (by omega) (by omega)]; exact (h7 i hin).2.2) s1 b2 (by omega)) (fun M3 b3 f3 => ?_)
          have := ih (i + 1) m (t + 1) M3 _ (by omega) (by omega) (by omega) (FB_t f2 f3) b3 (by simp; omega)
          rw [decide_eq_false (show ¬ t + 1 = 0 by omega)] at this
          exact this
        by_cases hw : wan (M 4 k) i = w
        · rw [if_pos (show bi (wan (M 4 k) i) = bi w by rw [hw]), if_pos (show (wan (M 4 k) i == w) = true by rw [hw]; simp)]
          have h57 : ∀ (M2 : Mem) (B2 : List Int32), FB K M2 → BufK M2 B2 → B2.length + 50 + 60 * c ≤ 60000 → PKi (f_K_row_57 (f_K_row_5 m) (nI k) (bi w) (nI t) (nI i) M2) M2 B2 ((if t = 0 then [] else if w then [] else tx 10) ++ (setL (v i) i (setT (M 4 k) i).toNatClampNeg ++ rowL v (M 4 k) w (if w then tx 5 else tx 10) c (i + 1) true)) := fun M2 B2 f2 b2 hB2 => by
            rw [f_K_row_57]
            by_cases ht0 : t = 0
            · rw [if_pos (show nI t ≤ (0 : Int32) by rw [ht0]; decide), if_pos ht0]
              exact t72 M2 B2 f2 b2 (by omega)
            · rw [if_neg (show ¬ nI t ≤ (0 : Int32) from nI_ge (b := t) (a := 0) (by omega) (by omega)), if_neg ht0]
              cases w
              · have h8' := sl8 544174624
                rw [if_pos (show bi false = 0 from rfl), if_neg (by decide), ← say_or]
                have := fun M3 b3 f3 => t72 M3 (B2 ++ sayB 544174624) (FB_t f2 f3) b3 (by simp; omega)
                rw [← say_or] at this
                exact PKi_om (K_say b2 (by omega)) this
              · rw [if_neg (show ¬ bi true = 0 by decide), if_pos rfl]
                exact t72 M2 B2 f2 b2 (by omega)
          by_cases ht0 : t = 0
          · rw [if_pos (show nI t ≤ (0 : Int32) by rw [ht0]; decide), decide_eq_true ht0, if_neg (show ¬ (!true) = true by decide)]
            have := h57 K1 B1 f1 b1 (by omega)
            rw [if_pos ht0] at this
            exact this
          · rw [if_neg (show ¬ nI t ≤ (0 : Int32) from nI_ge (b := t) (a := 0) (by omega) (by omega)), decide_eq_false ht0, if_pos (show (!false) = true from rfl)]
            cases w
            · rw [if_pos (show bi false = 0 from rfl)]
              have := h57 K1 B1 f1 b1 (by omega)
              rw [if_neg ht0] at this
              exact this
            · have h8' := sl8 139073578016
              rw [if_neg (show ¬ bi true = 0 by decide)]
              have := fun M3 b3 f3 => h57 M3 (B1 ++ sayB 139073578016) (FB_t f1 f3) b3 (by simp; omega)
              rw [if_neg ht0] at this
              have q := PKi_om (K_say b1 (by omega)) this
              rw [say_and] at q
              exact q
        · rw [if_neg (fun e => hw (bi_inj.mp e)), if_neg (by simpa using hw)]
          exact ih (i + 1) m t K1 B1 (by omega) (by omega) (by omega) f1 b1 (by omega)
  exact loop n 0 100000 0 K B (by omega) (by omega) (by omega) (FB_r K) hb hB
