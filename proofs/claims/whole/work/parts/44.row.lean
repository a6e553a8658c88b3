/-! PURE: the terms of a join, in words -/
theorem i_small {x : Int32} {w : Nat} (hw : w ≤ 4) (h : ∀ j, w ≤ j → ib x j = false) : ∃ s, s < 2 ^ w ∧ x = nI s := by
  refine ⟨x.toBitVec.toNat, Nat.lt_pow_two_of_testBit _ (fun i hi => ?_), ?_⟩
  · have := h i hi
    unfold ib at this
    rw [← this]; rfl
  · apply Int32.toBitVec_inj.mp
    show x.toBitVec = BitVec.ofNat 32 x.toBitVec.toNat
    simp
theorem setT_small {n k i : Nat} {v : Nat → Nat} {M K : Mem} (h : NR n v M K k) (hn : n ≤ 5) (hi : i < n) (hv : v i ≤ 4) : ∃ s, s < 2 ^ v i ∧ setT (M 4 k) i = nI s := by
  have hx := NR_hi h
  obtain ⟨-, t2, -⟩ := NR_TR h hi hn
  refine i_small hv (fun j hj => ?_)
  rw [setT_ib (by omega) hx]
  by_cases h5 : j < 5
  · have : ib (M 4 k) (5 * i + j) = ib (M 4 k) (5 * i + 4) := by
      by_cases h4 : j = 4
      · rw [h4]
      · exact t2 j hj (by omega)
    rw [this, wan]
    cases ib (M 4 k) (5 * i + 4) <;> simp
  · rw [decide_eq_false h5]; rfl
def rowL (v : Nat → Nat) (T : Int32) (w : Bool) (sep : List Int32) : Nat → Nat → Bool → List Int32
  | 0, _, _ => []
  | c + 1, i, f => if hasT T i && (wan T i == w) then (if f then sep else []) ++ (setL (v i) i (setT T i).toNatClampNeg ++ rowL v T w sep c (i + 1) true) else rowL v T w sep c (i + 1) f
theorem P_tellTerms {n N k sp : Nat} {w : Bool} {v : Nat → Nat} {M K : Mem} {B : List Int32} (h : RF n N v M K) (hk : k < N) (hsp : sp < 20) (hb : BufC M B) (hB : B.length + (rowL v (M 4 k) w (tx sp) n 0 false).length + 11 ≤ 256) : PC (f_P_tellTerms (nI k) (bi w) sp M) M B (rowL v (M 4 k) w (tx sp) n 0 false) := by
  obtain ⟨h1, h2, h3, h4, h5, h6, h7, h8⟩ := id h
  have hR := h8 k hk
  have hx := NR_hi hR
  have hsl := tx_len sp hsp
  have loop : ∀ (c i m : Nat) (f : Bool) (M1 : Mem) (B1 : List Int32), i + c = n → c < m → FC M M1 → BufC M1 B1 → B1.length + (rowL v (M 4 k) w (tx sp) c i f).length + 11 ≤ 256 → PC (f_P_tellTerms_6 m (nI k) (bi w) sp (bi f) (nI i) M1) M1 B1 (rowL v (M 4 k) w (tx sp) c i f) := by
    intro c
    induction c with
    | zero =>
      intro i m f M1 B1 hi hm f1 b1 _
      obtain ⟨m, rfl⟩ : ∃ m', m = m' + 1 := ⟨m - 1, by omega⟩
      rw [f_P_tellTerms_6, f_F_countNames, ob_s, f1.1 1 (by decide) (by decide), h3, if_pos (nI_le (by omega) (by omega))]
      exact PC_nil b1
    | succ c ih =>
      intro i m f M1 B1 hi hm f1 b1 hB1
      obtain ⟨m, rfl⟩ : ∃ m', m = m' + 1 := ⟨m - 1, by omega⟩
      have hq : ∀ M2, FC M M2 → ∀ q, q ≤ 10 → M2 q = M q := fun M2 f2 q hq => f2.1 q (by omega) (by omega)
      rw [rowL] at hB1
      rw [f_P_tellTerms_6, f_F_countNames, ob_s, f1.1 1 (by decide) (by decide), h3, if_neg (nI_ge (by omega) (by omega)), F_hasTermOf (M := M1) h1 h2 (by rw [hq M1 f1 1 (by omega)]; exact h3) (by rw [hq M1 f1 1 (by omega)]; exact h5) hk (show i < n by omega) (by rw [hq M1 f1 4 (by omega)]; exact hx), ob_s, hq M1 f1 4 (by omega), nI_1, rowL]
      obtain ⟨s, s1, s2⟩ := setT_small hR h1 (show i < n by omega) (h7 i (by omega)).1
      have s16 := pow16 (h7 i (by omega)).1 s1
      have sl : 1 ≤ (setL (v i) i (setT (M 4 k) i).toNatClampNeg).length := by rw [setL, List.length_append, List.length_append, List.length_singleton]; omega
      have t42 : ∀ (M2 : Mem) (B2 : List Int32), FC M M2 → BufC M2 B2 → B2.length + ((setL (v i) i (setT (M 4 k) i).toNatClampNeg).length + (rowL v (M 4 k) w (tx sp) c (i + 1) true).length) + 11 ≤ 256 → PC (f_P_tellTerms_42 (f_P_tellTerms_6 m) (nI k) (bi w) sp (nI i) M2) M2 B2 (setL (v i) i (setT (M 4 k) i).toNatClampNeg ++ rowL v (M 4 k) w (tx sp) c (i + 1) true) := fun M2 B2 f2 b2 hB2 => by
        rw [f_P_tellTerms_42, F_setOfTerm (M := M2) h1 h2 (by rw [hq M2 f2 1 (by omega)]; exact h3) (by rw [hq M2 f2 1 (by omega)]; exact h5) hk (show i < n by omega) (by rw [hq M2 f2 4 (by omega)]; exact hx), ob_s, hq M2 f2 4 (by omega), nI_1]
        rw [s2, nI_clamp (by omega)] at hB2 sl ⊢
        refine PC_om (P_tellSet h1 (by rw [hq M2 f2 1 (by omega)]; exact h3) (by omega) (h7 i (by omega)).1 (by rw [hq M2 f2 2 (by omega)]; exact (h7 i (by omega)).2.1) s1 b2 (by omega)) (fun M3 b3 f3 => ?_)
        exact ih (i + 1) m true M3 _ (by omega) (by omega) (FC_t f2 f3) b3 (by rw [List.length_append]; omega)
      cases hp : (hasT (M 4 k) i && (wan (M 4 k) i == w)) <;> rw [hp] at hB1
      · rw [if_neg (by decide)] at hB1
        rw [if_pos (show bi false = 0 from rfl), if_neg (by decide)]
        exact ih (i + 1) m f M1 B1 (by omega) (by omega) f1 b1 (by omega)
      · rw [if_pos rfl, List.length_append, List.length_append] at hB1
        rw [if_neg (show ¬ bi true = 0 by decide), if_pos rfl]
        cases f
        · rw [if_pos (show bi false = 0 from rfl), if_neg (by decide)]
          exact t42 M1 B1 f1 b1 (by omega)
        · rw [if_pos rfl] at hB1
          rw [if_neg (show ¬ bi true = 0 by decide), if_pos rfl]
          exact PC_om (P_putS b1 hsp (by omega)) (fun M2 b2 f2 => t42 M2 _ (FC_t f1 f2) b2 (by rw [List.length_append]; omega))
  exact loop n 0 100000 false M B (by omega) (by omega) (FC_r M) hb hB
