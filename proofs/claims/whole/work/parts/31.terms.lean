/-! PURE: terms -/
theorem and16 {x : Int32} : x &&& 16 = 0 ↔ ib x 4 = false := by
  constructor
  · intro h
    have : ib (x &&& 16) 4 = false := by rw [h]; exact ib_0 4
    rw [ib_and, ib_16] at this
    simpa using this
  · intro h
    apply ib_ext
    intro j _
    rw [ib_and, ib_16, ib_0]
    by_cases hj : j = 4
    · subst hj; rw [h]; rfl
    · simp [hj]
/-- has a term of the name; it is wanted -/
def hasT (x : Int32) (i : Nat) : Bool := !decide (opt x i = 31)
def wan (x : Int32) (i : Nat) : Bool := !(ib x (5 * i + 4))
theorem F_hasTermOf {n N k i : Nat} {w : Bool} {M : Mem} (hn : n ≤ 5) (hN : N ≤ 120) (h1 : M 1 1 = nI n) (h10 : M 1 10 = nI N) (hk : k < N) (hi : i < n) (hx : ∀ j, 25 ≤ j → ib (M 4 k) j = false) :
    f_F_hasTermOf (nI k) (nI i) (bi w) M = some (bi (hasT (M 4 k) i && (wan (M 4 k) i == w)), M) := by
  have h4 : ib (opt (M 4 k) i) 4 = ib (M 4 k) (5 * i + 4) := by rw [opt_ib (by omega) hx]; rfl
  have e21 : ∀ (y : Int32) (z : Bool), y = bi z → f_F_hasTermOf_21 (bi w) (opt (M 4 k) i) y M = some (bi (hasT (M 4 k) i && (z == w)), M) := by
    intro y z hy
    subst hy
    rw [f_F_hasTermOf_21, hasT]
    by_cases h31 : opt (M 4 k) i = 31
    · rw [if_pos h31, decide_eq_true h31]; rfl
    · rw [if_neg h31, decide_eq_false h31]
      by_cases hzw : z = w
      · subst hzw; rw [if_pos rfl]; simp [bi]
      · rw [if_neg (fun e => hzw (bi_inj.mp e))]; simp [hzw, bi]
  rw [f_F_hasTermOf, F_opt hn hN h1 h10 hk hi, ob_s]
  by_cases h16 : opt (M 4 k) i &&& 16 = 0
  · rw [if_pos h16, e21 1 true rfl, wan, ← h4, and16.mp h16]; rfl
  · rw [if_neg h16, e21 0 false rfl, wan, ← h4]
    have : ib (opt (M 4 k) i) 4 = true := by
      cases hb : ib (opt (M 4 k) i) 4
      · exact absurd (and16.mpr hb) h16
      · rfl
    rw [this]; rfl
def cnt (p : Nat → Bool) : Nat → Nat → Nat
  | 0, _ => 0
  | c + 1, i => (if p i then 1 else 0) + cnt p c (i + 1)
theorem cnt_le (p : Nat → Bool) : ∀ c i, cnt p c i ≤ c := by
  intro c
  induction c with
  | zero => intro i; exact Nat.le_refl 0
  | succ c ih => intro i; rw [cnt]; have := ih (i + 1); split <;> omega
theorem cnt_congr {p q : Nat → Bool} : ∀ c i, (∀ j, i ≤ j → j < i + c → p j = q j) → cnt p c i = cnt q c i := by
  intro c
  induction c with
  | zero => intro i _; rfl
  | succ c ih => intro i h; rw [cnt, cnt, h i (Nat.le_refl i) (by omega), ih (i + 1) (fun j h1 h2 => h j (by omega) (by omega))]
theorem cnt_split (p q : Nat → Bool) : ∀ c i, cnt (fun j => p j && (q j == true)) c i + cnt (fun j => p j && (q j == false)) c i = cnt p c i := by
  intro c
  induction c with
  | zero => intro i; rfl
  | succ c ih =>
    intro i
    rw [cnt, cnt, cnt]
    have := ih (i + 1)
    revert this
    generalize cnt (fun j => p j && (q j == true)) c (i + 1) = A
    generalize cnt (fun j => p j && (q j == false)) c (i + 1) = B
    generalize cnt p c (i + 1) = D
    intro this
    cases hp : p i <;> cases hq : q i <;> simp <;> omega
theorem F_countTerms {n N k : Nat} {w : Bool} {M : Mem} (hn : n ≤ 5) (hN : N ≤ 120) (h1 : M 1 1 = nI n) (h10 : M 1 10 = nI N) (hk : k < N) (hx : ∀ j, 25 ≤ j → ib (M 4 k) j = false) :
    f_F_countTerms (nI k) (bi w) M = some (nI (cnt (fun i => hasT (M 4 k) i && (wan (M 4 k) i == w)) n 0), M) := by
  have loop : ∀ (c i m s : Nat), i + c = n → c < m → f_F_countTerms_5 m (nI k) (bi w) (nI s) (nI i) M = some (nI (s + cnt (fun i => hasT (M 4 k) i && (wan (M 4 k) i == w)) c i), M) := by
    intro c
    induction c with
    | zero =>
      intro i m s hi hm
      obtain ⟨m, rfl⟩ : ∃ m', m = m' + 1 := ⟨m - 1, by omega⟩
      rw [f_F_countTerms_5, h1, if_pos (nI_le (by omega) (by omega))]; rfl
    | succ c ih =>
      intro i m s hi hm
      obtain ⟨m, rfl⟩ : ∃ m', m = m' + 1 := ⟨m - 1, by omega⟩
      rw [f_F_countTerms_5, h1, if_neg (nI_ge (by omega) (by omega)), F_hasTermOf hn hN h1 h10 hk (by omega) hx, ob_s, cnt, nI_1, nI_1]
      cases hb : (hasT (M 4 k) i && (wan (M 4 k) i == w))
      · rw [if_pos (show bi false = 0 from rfl), ih (i + 1) m s (by omega) (by omega)]
        simp
      · rw [if_neg (show ¬ bi true = 0 by decide), ih (i + 1) m (s + 1) (by omega) (by omega), if_pos rfl, Nat.add_assoc]
  have := loop n 0 100000 0 (by omega) (by omega)
  rw [Nat.zero_add] at this
  exact this
theorem K_count {n N k : Nat} {K : Mem} (p : Nat → Bool) (hn : n ≤ 5) (hk : k < 120) (h2 : K 0 2 = nI n) (hp : ∀ i, i < n → (K 7 (5 * k + i) = 0 ∧ p i = false) ∨ (K 7 (5 * k + i) = 1 ∧ p i = true)) : f_K_count (nI k) K = some (nI (cnt p n 0), K) := by
  have loop : ∀ (c i m s : Nat), i + c = n → c < m → f_K_count_4 m (nI k) (nI s) (nI i) K = some (nI (s + cnt p c i), K) := by
    intro c
    induction c with
    | zero =>
      intro i m s hi hm
      obtain ⟨m, rfl⟩ : ∃ m', m = m' + 1 := ⟨m - 1, by omega⟩
      rw [f_K_count_4, h2, if_pos (nI_le (by omega) (by omega))]; rfl
    | succ c ih =>
      intro i m s hi hm
      obtain ⟨m, rfl⟩ : ∃ m', m = m' + 1 := ⟨m - 1, by omega⟩
      rw [f_K_count_4, h2, if_neg (nI_ge (by omega) (by omega)), f_K_place, ob_s, i5, gd_nI (by omega) (by decide), nI_clamp (by omega), cnt, nI_1]
      rcases hp i (by omega) with ⟨e1, e2⟩ | ⟨e1, e2⟩
      · rw [if_pos e1, Int32.add_zero, ih (i + 1) m s (by omega) (by omega), e2]
        simp
      · rw [if_neg (by rw [e1]; decide), nI_1, ih (i + 1) m (s + 1) (by omega) (by omega), e2, if_pos rfl, Nat.add_assoc]
  have := loop n 0 100000 0 (by omega) (by omega)
  rw [Nat.zero_add] at this
  exact this
theorem hasT_K {n k i : Nat} {v : Nat → Nat} {M K : Mem} (h : NR n v M K k) (hi : i < 5) : (K 7 (5 * k + i) = 0 ∧ hasT (M 4 k) i = false) ∨ (K 7 (5 * k + i) = 1 ∧ hasT (M 4 k) i = true) := by
  rcases NR_has h hi with ⟨a, b⟩ | ⟨a, b⟩
  · exact Or.inl ⟨a, by rw [hasT, decide_eq_true b]; rfl⟩
  · exact Or.inr ⟨a, by rw [hasT, decide_eq_false b]; rfl⟩
theorem st_terms {n N : Nat} {v : Nat → Nat} {M K : Mem} (h : RF n N v M K) (x : Int32) : ∃ r : Int32, f_N_terms x M = some (r, M) ∧ f_K_terms x K = some (r, ms K 0 0 0) := by
  obtain ⟨h1, h2, h3, h4, h5, h6, h7, h8⟩ := id h
  have k4 : ms K 0 0 0 0 2 = nI n := by rw [ms_i (by decide)]; exact h4
  have k6 : ms K 0 0 0 0 3 = nI N := by rw [ms_i (by decide)]; exact h6
  rcases nm_cases x (n := N) (by omega) with ⟨k, hk, rfl⟩ | ⟨hx, -⟩
  · have hR := h8 k hk
    refine ⟨nI (cnt (fun i => hasT (M 4 k) i) n 0), ?_, ?_⟩
    · rw [f_N_terms, F_hasNode_t (by omega) h5 hk, ob_s, if_neg (by decide), show (1 : Int32) = bi true from rfl, F_countTerms h1 h2 h3 h5 hk (NR_hi hR), ob_s, show (0 : Int32) = bi false from rfl, F_countTerms h1 h2 h3 h5 hk (NR_hi hR), ob_s, nI_add, cnt_split]
    · rw [f_K_terms, K_isNode_t (by omega) k6 hk, ob_s, if_neg (by decide), K_count (N := N) (fun i => hasT (M 4 k) i) h1 (by omega) k4 (fun i hi => by rw [ms_q (by decide)]; exact hasT_K hR (by omega)), ob_s]
  · exact ⟨-1, by rw [f_N_terms, F_hasNode_f h5 hx, ob_s, if_pos rfl], by rw [f_K_terms, K_isNode_f k6 hx, ob_s, if_pos rfl]⟩
/-- the set of a term: class -/
def setT (x : Int32) (i : Nat) : Int32 := if wan x i then opt x i else (31 : Int32) &&& (opt x i ^^^ (-1 : Int32))
theorem setT_ib {x : Int32} {i b : Nat} (hi : i < 5) (hx : ∀ j, 25 ≤ j → ib x j = false) : ib (setT x i) b = (decide (b < 5) && (ib x (5 * i + b) == wan x i)) := by
  unfold setT
  cases hw : wan x i
  · rw [if_neg (by decide), ib_and, ib_31]
    by_cases hb : b < 5
    · rw [ib_not (by omega), opt_ib hi hx, decide_eq_true hb]
      cases ib x (5 * i + b) <;> rfl
    · rw [decide_eq_false hb]; rfl
  · rw [if_pos rfl, opt_ib hi hx]
    cases ib x (5 * i + b) <;> simp
theorem F_setOfTerm {n N k i : Nat} {M : Mem} (hn : n ≤ 5) (hN : N ≤ 120) (h1 : M 1 1 = nI n) (h10 : M 1 10 = nI N) (hk : k < N) (hi : i < n) (hx : ∀ j, 25 ≤ j → ib (M 4 k) j = false) : f_F_setOfTerm (nI k) (nI i) M = some (setT (M 4 k) i, M) := by
  have h4 : ib (opt (M 4 k) i) 4 = ib (M 4 k) (5 * i + 4) := by rw [opt_ib (by omega) hx]; rfl
  rw [f_F_setOfTerm, F_opt hn hN h1 h10 hk hi, ob_s, setT, wan, ← h4]
  by_cases h16 : opt (M 4 k) i &&& 16 = 0
  · rw [if_pos h16, and16.mp h16]; rfl
  · rw [if_neg h16]
    have : ib (opt (M 4 k) i) 4 = true := by
      cases hb : ib (opt (M 4 k) i) 4
      · exact absurd (and16.mpr hb) h16
      · rfl
    rw [this]; rfl
/-- the set of a term: reference -/
theorem K_isWanted {k i : Nat} {t : Bool} {K : Mem} (hk : k < 120) (hi : i < 5) (h : K 8 (25 * k + 5 * i) = bi t) : f_K_isWanted (nI k) (nI i) K = some (bi (!t), K) := by
  rw [f_K_isWanted, K_isSaidN hk hi, ob_s, h, nar01]
  cases t
  · rw [if_pos (show bi false = 0 from rfl)]; rfl
  · rw [if_neg (by decide)]; rfl
theorem ib_pow {b : Nat} (hb : b < 32) (j : Nat) : ib ((1 : Int32) <<< (nI b &&& 31)) j = decide (j = b) := by
  rw [ib_shl hb, ib_1]
  by_cases h1 : j < 32
  · by_cases h2 : j < b
    · simp [h2]; omega
    · by_cases h3 : j = b
      · subst h3; simp [h1]
      · simp [h1, h2, h3]; omega
  · simp [h1]; omega
theorem K_setOf {k i w : Nat} {x : Int32} {K : Mem} (hk : k < 120) (hi : i < 5) (hw : w ≤ 4) (hv : K 1 i = nI w) (hx : ∀ j, 25 ≤ j → ib x j = false) (hT : TR w (fun e => ib x (5 * i + e)) (K 7 (5 * k + i)) (K 8 (25 * k + 5 * i)) (fun e => K 8 (25 * k + 5 * i + e + 1))) (hh : K 7 (5 * k + i) = 1) : f_K_setOf (nI k) (nI i) K = some (setT x i, K) := by
  obtain ⟨-, t2, t3⟩ := hT
  obtain ⟨s0, se⟩ := t3 hh
  have hwan : (!(ib x (5 * i + 4))) = wan x i := rfl
  have loop : ∀ (c b m : Nat) (y : Int32), b + c = w → c < m → (∀ j, ib y j = (decide (j < b) && (ib x (5 * i + j) == wan x i))) → f_K_setOf_5 m (nI k) (nI i) y (nI b) K = some (setT x i, K) := by
    intro c
    induction c with
    | zero =>
      intro b m y hb hm hy
      obtain ⟨m, rfl⟩ : ∃ m', m = m' + 1 := ⟨m - 1, by omega⟩
      rw [f_K_setOf_5, gd_nI hi (by decide), nI_clamp (by omega), hv, if_pos (nI_le (by omega) (by omega))]
      have : y = setT x i := by
        apply ib_ext
        intro j _
        rw [hy, setT_ib hi hx]
        by_cases hj : j < w
        · rw [decide_eq_true (by omega), decide_eq_true (by omega)]
        · by_cases hj5 : j < 5
          · have e4 : ib x (5 * i + j) = ib x (5 * i + 4) := by
              by_cases hj4 : j = 4
              · rw [hj4]
              · exact t2 j (by omega) (by omega)
            rw [decide_eq_false (by omega), decide_eq_true hj5, e4, wan]
            cases ib x (5 * i + 4) <;> rfl
          · rw [decide_eq_false (by omega), decide_eq_false hj5]
      rw [this]
    | succ c ih =>
      intro b m y hb hm hy
      obtain ⟨m, rfl⟩ : ∃ m', m = m' + 1 := ⟨m - 1, by omega⟩
      have hse := se b (by omega)
      dsimp only at hse
      rw [f_K_setOf_5, gd_nI hi (by decide), nI_clamp (by omega), hv, if_neg (nI_ge (by omega) (by omega)), K_isSaid hk hi (by omega), ob_s, hse, nar01, K_isWanted hk hi s0, ob_s, hwan, nI_1]
      by_cases he : ib x (5 * i + b) = wan x i
      · rw [if_pos (by rw [he])]
        refine ih (b + 1) m _ (by omega) (by omega) (fun j => ?_)
        rw [ib_or, hy, ib_pow (by omega)]
        by_cases hjb : j = b
        · subst hjb; rw [he]; simp
        · by_cases hj : j < b
          · rw [decide_eq_true hj, decide_eq_false hjb, decide_eq_true (by omega)]; simp
          · rw [decide_eq_false hj, decide_eq_false hjb, decide_eq_false (by omega)]; simp
      · rw [if_neg (fun e => he (bi_inj.mp e))]
        refine ih (b + 1) m _ (by omega) (by omega) (fun j => ?_)
        rw [ib_or, hy, ib_0]
        by_cases hjb : j = b
        · subst hjb; simp [he]
        · by_cases hj : j < b
          · rw [decide_eq_true hj, decide_eq_true (by omega)]; simp
          · rw [decide_eq_false hj, decide_eq_false (by omega)]; simp
  exact loop w 0 100000 0 (by omega) (by omega) (fun j => by rw [ib_0]; simp)
