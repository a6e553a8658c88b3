theorem i_sub0 {x y : Int32} (h : x - y = 0) : x = y := by
  have := congrArg (· + y) h
  simp only [Int32.sub_add_cancel, Int32.zero_add] at this
  exact this
theorem i_sub1 {x : Int32} {s : Nat} : x - nI s + (-1) = x - nI (s + 1) := by
  rw [← nI_1]
  apply Int32.toBitVec_inj.mp
  simp only [Int32.toBitVec_add, Int32.toBitVec_sub]
  show x.toBitVec - (nI s).toBitVec + (-1#32) = x.toBitVec - ((nI s).toBitVec + 1#32)
  generalize x.toBitVec = a
  generalize (nI s).toBitVec = b
  apply BitVec.eq_of_toInt_eq
  simp only [BitVec.toInt_add, BitVec.toInt_sub]
  simp [Int.bmod_def]
  omega
/-- the names of the terms, in order: class and reference walk alike -/
theorem F_nameOfTerm_bad {n N : Nat} {x y : Int32} {M : Mem} (hn : n ≤ 5) (h1 : M 1 1 = nI n) (h10 : M 1 10 = nI N) (hx : x < 0 ∨ nI N ≤ x) : f_F_nameOfTerm x y M = some (-1, M) := by
  have ho : ∀ z : Int32, f_F_optionsOfTerm x z M = some (31, M) := by
    intro z
    rw [f_F_optionsOfTerm]
    by_cases h : x < 0
    · rw [if_pos h]
    · rw [if_neg h, h10, if_pos (hx.resolve_left h)]
  have loop : ∀ (c i m : Nat) (s : Int32), i + c = n → c < m → f_F_nameOfTerm_5 m x y s (nI i) M = some (-1, M) := by
    intro c
    induction c with
    | zero =>
      intro i m s hi hm
      obtain ⟨m, rfl⟩ : ∃ m', m = m' + 1 := ⟨m - 1, by omega⟩
      rw [f_F_nameOfTerm_5, h1, if_pos (nI_le (by omega) (by omega))]
    | succ c ih =>
      intro i m s hi hm
      obtain ⟨m, rfl⟩ : ∃ m', m = m' + 1 := ⟨m - 1, by omega⟩
      rw [f_F_nameOfTerm_5, h1, if_neg (nI_ge (by omega) (by omega)), ho, ob_s, if_pos rfl, nI_1]
      exact ih (i + 1) m s (by omega) (by omega)
  exact loop n 0 100000 0 (by omega) (by omega)
/-- the y-th name of which there is a term, from i on, s being before -/
def nth (p : Nat → Bool) (y : Int32) : Nat → Nat → Nat → Option Nat
  | 0, _, _ => none
  | c + 1, i, s => if p i then (if nI s = y then some i else nth p y c (i + 1) (s + 1)) else nth p y c (i + 1) s
theorem nth_some {p : Nat → Bool} {y : Int32} : ∀ (c i s r : Nat), nth p y c i s = some r → i ≤ r ∧ r < i + c ∧ p r = true := by
  intro c
  induction c with
  | zero => intro i s r h; cases h
  | succ c ih =>
    intro i s r h
    rw [nth] at h
    by_cases hp : p i = true
    · rw [if_pos hp] at h
      by_cases hy : nI s = y
      · rw [if_pos hy] at h
        cases h
        exact ⟨Nat.le_refl _, by omega, hp⟩
      · rw [if_neg hy] at h
        obtain ⟨a, b, d⟩ := ih _ _ _ h
        exact ⟨by omega, by omega, d⟩
    · rw [if_neg hp] at h
      obtain ⟨a, b, d⟩ := ih _ _ _ h
      exact ⟨by omega, by omega, d⟩
def onI (o : Option Nat) : Int32 := match o with
  | some r => nI r
  | none => -1
theorem F_nameOfTerm {n N k : Nat} {y : Int32} {M : Mem} (hn : n ≤ 5) (hN : N ≤ 120) (h1 : M 1 1 = nI n) (h10 : M 1 10 = nI N) (hk : k < N) : f_F_nameOfTerm (nI k) y M = some (onI (nth (hasT (M 4 k)) y n 0 0), M) := by
  have loop : ∀ (c i m s : Nat), i + c = n → c < m → f_F_nameOfTerm_5 m (nI k) y (nI s) (nI i) M = some (onI (nth (hasT (M 4 k)) y c i s), M) := by
    intro c
    induction c with
    | zero =>
      intro i m s hi hm
      obtain ⟨m, rfl⟩ : ∃ m', m = m' + 1 := ⟨m - 1, by omega⟩
      rw [f_F_nameOfTerm_5, h1, if_pos (nI_le (by omega) (by omega))]; rfl
    | succ c ih =>
      intro i m s hi hm
      obtain ⟨m, rfl⟩ : ∃ m', m = m' + 1 := ⟨m - 1, by omega⟩
      rw [f_F_nameOfTerm_5, h1, if_neg (nI_ge (by omega) (by omega)), F_opt hn hN h1 h10 hk (by omega), ob_s, nI_1, nI_1, nth, hasT]
      by_cases h31 : opt (M 4 k) i = 31
      · rw [if_pos h31, decide_eq_true h31, if_neg (by decide)]
        exact ih (i + 1) m s (by omega) (by omega)
      · rw [if_neg h31, decide_eq_false h31, if_pos (show (!false) = true from rfl)]
        by_cases hy : nI s = y
        · rw [if_pos hy, if_pos hy]; rfl
        · rw [if_neg hy, if_neg hy]
          exact ih (i + 1) m (s + 1) (by omega) (by omega)
  exact loop n 0 100000 0 (by omega) (by omega)
theorem onI_ne {p : Nat → Bool} {y : Int32} {n : Nat} (hn : n ≤ 5) : (onI (nth p y n 0 0) = -1 ∧ nth p y n 0 0 = none) ∨ ∃ i, i < n ∧ p i = true ∧ nth p y n 0 0 = some i ∧ onI (nth p y n 0 0) = nI i ∧ onI (nth p y n 0 0) ≠ -1 := by
  cases h : nth p y n 0 0 with
  | none => exact Or.inl ⟨rfl, rfl⟩
  | some i =>
    obtain ⟨a, b, c⟩ := nth_some _ _ _ _ h
    refine Or.inr ⟨i, by omega, c, rfl, rfl, fun e => ?_⟩
    have hi : i < 5 := by omega
    have : ∀ i, i < 5 → nI i ≠ -1 := by decide
    exact this i hi e
theorem st_term {n N : Nat} {v : Nat → Nat} {M K : Mem} (h : RF n N v M K) (x y z : Int32) : ∃ r : Int32, f_N_term x y z M = some (r, M) ∧ f_K_term x y z K = some (r, ms K 0 0 0) := by
  obtain ⟨h1, h2, h3, h4, h5, h6, h7, h8⟩ := id h
  have k4 : ms K 0 0 0 0 2 = nI n := by rw [ms_i (by decide)]; exact h4
  have k6 : ms K 0 0 0 0 3 = nI N := by rw [ms_i (by decide)]; exact h6
  rcases nm_cases x (n := N) (by omega) with ⟨k, hk, rfl⟩ | ⟨hx, -⟩
  · have hR := h8 k hk
    have hhi := NR_hi hR
    -- what is answered of the name i
    have hans : ∀ i, i < n → hasT (M 4 k) i = true → ∃ r, (if z = 0 then some (nI i, ms K 0 0 0) else if z = (1 : Int32) then ob (f_K_setOf (nI k) (nI i) (ms K 0 0 0)) fun r70 M70 => some (r70, M70) else if z = (2 : Int32) then ob (f_K_isWanted (nI k) (nI i) (ms K 0 0 0)) fun r85 M85 => if r85 = 0 then some ((0 : Int32), M85) else some ((1 : Int32), M85) else some ((-1 : Int32), ms K 0 0 0)) = some (r, ms K 0 0 0) ∧ (if z = (0 : Int32) then some (nI i, M) else if z = (1 : Int32) then ob (f_F_setOfTerm (nI k) (nI i) M) fun r58 M58 => some (r58, M58) else if z = (2 : Int32) then ob (f_F_hasTermOf (nI k) (nI i) (1 : Int32) M) fun r70 M70 => if r70 = 0 then some ((0 : Int32), M70) else some ((1 : Int32), M70) else some ((-1 : Int32), M)) = some (r, M) := by
      intro i hi hp
      have h71 : K 7 (5 * k + i) = 1 := by
        rcases hasT_K hR (i := i) (by omega) with ⟨-, e⟩ | ⟨e, -⟩
        · rw [e] at hp; cases hp
        · exact e
      have hT := NR_TR hR hi h1
      have hT' : TR (v i) (fun e => ib (M 4 k) (5 * i + e)) (ms K 0 0 0 7 (5 * k + i)) (ms K 0 0 0 8 (25 * k + 5 * i)) (fun e => ms K 0 0 0 8 (25 * k + 5 * i + e + 1)) := by
        rw [ms_q (q2 := 7) (by decide), ms_q (q2 := 8) (by decide)]; exact hT
      by_cases z0 : z = 0
      · exact ⟨nI i, by rw [if_pos z0], by rw [if_pos z0]⟩
      · by_cases z1 : z = 1
        · refine ⟨setT (M 4 k) i, ?_, ?_⟩
          · rw [if_neg z0, if_pos z1, K_setOf (by omega) (by omega) (h7 i hi).1 (by rw [ms_q (by decide)]; exact (h7 i hi).2.2) hhi hT' (by rw [ms_q (by decide)]; exact h71), ob_s]
          · rw [if_neg z0, if_pos z1, F_setOfTerm h1 h2 h3 h5 hk hi hhi, ob_s]
        · by_cases z2 : z = 2
          · refine ⟨bi (wan (M 4 k) i), ?_, ?_⟩
            · rw [if_neg z0, if_neg z1, if_pos z2, K_isWanted (t := ib (M 4 k) (5 * i + 4)) (by omega) (by omega) (by rw [ms_q (by decide)]; exact (hT.2.2 h71).1), ob_s]
              show (if bi (wan (M 4 k) i) = 0 then _ else _) = _
              cases wan (M 4 k) i
              · rw [if_pos (show bi false = 0 from rfl)]; rfl
              · rw [if_neg (by decide)]; rfl
            · rw [if_neg z0, if_neg z1, if_pos z2, show (1 : Int32) = bi true from rfl, F_hasTermOf h1 h2 h3 h5 hk hi hhi, ob_s, hp]
              cases wan (M 4 k) i
              · rw [if_pos (by decide)]; rfl
              · rw [if_neg (by decide)]
          · exact ⟨-1, by rw [if_neg z0, if_neg z1, if_neg z2], by rw [if_neg z0, if_neg z1, if_neg z2]⟩
    have loop : ∀ (c i m s : Nat), i + c = n → c < m → s ≤ i → f_K_term_21 m (nI k) z (y - nI s) (nI i) (ms K 0 0 0) = match nth (hasT (M 4 k)) y c i s with
      | some r => (if z = 0 then some (nI r, ms K 0 0 0) else if z = (1 : Int32) then ob (f_K_setOf (nI k) (nI r) (ms K 0 0 0)) fun r70 M70 => some (r70, M70) else if z = (2 : Int32) then ob (f_K_isWanted (nI k) (nI r) (ms K 0 0 0)) fun r85 M85 => if r85 = 0 then some ((0 : Int32), M85) else some ((1 : Int32), M85) else some ((-1 : Int32), ms K 0 0 0))
      | none => some (-1, ms K 0 0 0) := by
      intro c
      induction c with
      | zero =>
        intro i m s hi hm hs
        obtain ⟨m, rfl⟩ : ∃ m', m = m' + 1 := ⟨m - 1, by omega⟩
        rw [f_K_term_21, k4, if_pos (nI_le (by omega) (by omega))]; rfl
      | succ c ih =>
        intro i m s hi hm hs
        obtain ⟨m, rfl⟩ : ∃ m', m = m' + 1 := ⟨m - 1, by omega⟩
        rw [f_K_term_21, k4, if_neg (nI_ge (by omega) (by omega)), f_K_place, ob_s, i5, gd_nI (by omega) (by decide), nI_clamp (by omega), ms_q (q2 := 7) (by decide), nI_1, nth]
        rcases hasT_K hR (i := i) (by omega) with ⟨e1, e2⟩ | ⟨e1, e2⟩
        · rw [if_pos e1, e2, if_neg (by decide)]
          exact ih (i + 1) m s (by omega) (by omega) (by omega)
        · rw [if_neg (by rw [e1]; decide), e2, if_pos rfl]
          by_cases hy : nI s = y
          · rw [if_pos (show y - nI s = 0 by rw [hy]; exact Int32.sub_self y), if_pos hy]
          · rw [if_neg (show ¬ y - nI s = 0 from fun e => hy (i_sub0 e).symm), if_neg hy, i_sub1]
            exact ih (i + 1) m (s + 1) (by omega) (by omega) (by omega)
    have hK : f_K_term (nI k) y z K = f_K_term_21 100000 (nI k) z (y - nI 0) (nI 0) (ms K 0 0 0) := by
      rw [f_K_term, K_isNode_t (by omega) k6 hk, ob_s, if_neg (by decide), show y - nI 0 = y from Int32.sub_zero y]; rfl
    rw [hK, loop n 0 100000 0 (by omega) (by omega) (by omega), f_N_term, F_nameOfTerm h1 h2 h3 h5 hk, ob_s]
    rcases onI_ne (p := hasT (M 4 k)) (y := y) h1 with ⟨e1, e2⟩ | ⟨i, hi, hp, e1, e2, e3⟩
    · rw [if_pos e1, e2]
      exact ⟨-1, rfl, rfl⟩
    · rw [if_neg e3, e2, e1]
      obtain ⟨r, a, b⟩ := hans i hi hp
      exact ⟨r, b, a⟩
  · exact ⟨-1, by rw [f_N_term, F_nameOfTerm_bad h1 h3 h5 hx, ob_s, if_pos rfl], by rw [f_K_term, K_isNode_f k6 hx, ob_s, if_pos rfl]⟩
