/-! PURE: leaves -/
theorem ib_shr0 {x : Int32} {k : Nat} (hk : k < 32) : ib (x >>> (nI k &&& 31)) 0 = ib x k := by
  have h := sh_amt k hk
  unfold ib
  rw [show (x >>> (nI k &&& 31)).toBitVec = x.toBitVec.sshiftRight ((nI k &&& 31).toBitVec.smod 32).toNat from rfl, h, BitVec.getLsbD_sshiftRight]
  simp [hk]
theorem bi_ib (b : Bool) (j : Nat) : ib (bi b) j = (b && decide (j = 0)) := by
  cases b
  · exact ib_0 j
  · show ib 1 j = _
    rw [ib_1]; simp
theorem bit_eq {x : Int32} {k : Nat} (hk : k < 32) : (x >>> (nI k &&& 31)) &&& 1 = bi (ib x k) := by
  apply ib_ext
  intro j hj
  rw [ib_and, ib_1, bi_ib]
  by_cases h : j = 0
  · subst h; rw [ib_shr0 hk]; 
  · simp [h]
theorem bi_1 {b : Bool} : bi b = 1 ↔ b = true := by cases b <;> decide
theorem bi_0 {b : Bool} : bi b = 0 ↔ b = false := by cases b <;> decide
theorem bi_is (b : Bool) : is01 (bi b) := by cases b <;> simp [is01, bi]
theorem bi_inj {a b : Bool} : bi a = bi b ↔ a = b := by cases a <;> cases b <;> decide
section MAKE
variable {N a ver : Nat} {set : Int32} {w : Bool}
def mkPost (N a ver : Nat) (set : Int32) (w : Bool) (K K' : Mem) : Prop :=
  (∀ q, q ≠ 7 → q ≠ 8 → K' q = K q) ∧ (∀ j, j ≠ 5 * N + a → K' 7 j = K 7 j) ∧ (∀ j, (j < 25 * N + 5 * a ∨ 25 * N + 5 * a + 5 ≤ j) → K' 8 j = K 8 j) ∧ K' 8 (25 * N + 5 * a) = bi (!w) ∧ (∀ b, b < 4 → K' 8 (25 * N + 5 * a + b + 1) = bi (ib set b == w)) ∧
    ((K' 7 (5 * N + a) = 0 ∧ w = false ∧ ∀ b, b < ver → ib set b = false) ∨ (K' 7 (5 * N + a) = 1 ∧ (w = true ∨ ∃ b, b < ver ∧ ib set b = true)))
theorem K_make_loop (hN : N < 120) (ha : a < 5) (hver : ver ≤ 4) : ∀ (c b m : Nat) (K : Mem), b + c = 4 → c < m → K 0 3 = nI N → K 1 a = nI ver → (∀ j, j < b → K 8 (25 * N + 5 * a + j + 1) = bi (ib set j == w)) → K 8 (25 * N + 5 * a) = bi (!w) → ∃ K', f_K_make_22 m (nI a) set (bi w) (nI b) K = some K' ∧ mkPost N a ver set w K K' := by
  intro c
  induction c with
  | zero =>
    intro b m K hb hm h3 hv hs h0
    obtain ⟨m, rfl⟩ : ∃ m', m = m' + 1 := ⟨m - 1, by omega⟩
    have hb4 : b = 4 := by omega
    subst hb4
    rw [f_K_make_22, if_pos (show (4 : Int32) ≤ nI 4 by decide), h3, K_keep hN ha hver hv (fun j hj => by rw [hs j (by omega)]; exact bi_is _) (by rw [h0]; exact bi_is _), om_s]
    refine ⟨_, rfl, fun q h7 _ => ms_q h7, fun j hj => ms_i hj, fun j _ => by rw [ms_q (by decide)], by rw [ms_q (by decide)]; exact h0, fun j hj => by rw [ms_q (by decide)]; exact hs j hj, ?_⟩
    rw [ms_s, h0]
    cases w
    · cases hall : allS K (25 * N + 5 * a) ver 0
      · right
        refine ⟨by rfl, Or.inr ?_⟩
        apply Classical.byContradiction
        intro hne
        have : allS K (25 * N + 5 * a) ver 0 = true := (allS_iff K _ ver 0).mpr (fun j _ hj => by
          rw [hs j (by omega)]
          cases hi : ib set j
          · rfl
          · exact absurd ⟨j, by omega, hi⟩ hne)
        rw [hall] at this
        cases this
      · left
        refine ⟨by rfl, rfl, fun j hj => ?_⟩
        have := (allS_iff K _ ver 0).mp hall j (by omega) (by omega)
        rw [hs j (by omega)] at this
        have := bi_1.mp this
        cases hi : ib set j
        · rfl
        · rw [hi] at this; cases this
    · right
      exact ⟨by rfl, Or.inl rfl⟩
  | succ c ih =>
    intro b m K hb hm h3 hv hs h0
    obtain ⟨m, rfl⟩ : ∃ m', m = m' + 1 := ⟨m - 1, by omega⟩
    have step : f_K_make_22 (m + 1) (nI a) set (bi w) (nI b) K = f_K_make_22 m (nI a) set (bi w) (nI (b + 1)) (ms K 8 (25 * N + 5 * a + b + 1) (bi (ib set b == w))) := by
      rw [f_K_make_22, if_neg (show ¬ (4 : Int32) ≤ nI b from nI_ge (b := 4) (by omega) (by decide)), bit_eq (by omega)]
      cases hi : ib set b <;> cases w
      · rw [if_neg (by decide), if_pos (by decide), f_K_make_60, h3, K_tell hN ha (by omega), om_s, nI_1]; rfl
      · rw [if_neg (by decide), if_neg (by decide), f_K_make_60, h3, K_tell hN ha (by omega), om_s, nI_1]; rfl
      · rw [if_pos (by decide), if_neg (by decide), f_K_make_60, h3, K_tell hN ha (by omega), om_s, nI_1]; rfl
      · rw [if_pos (by decide), if_pos (by decide), f_K_make_60, h3, K_tell hN ha (by omega), om_s, nI_1]; rfl
    rw [step]
    obtain ⟨K', e0, e1, e2, e3, e4, e5, e6⟩ := ih (b + 1) m (ms K 8 (25 * N + 5 * a + b + 1) (bi (ib set b == w))) (by omega) (by omega) (by rw [ms_q (by decide)]; exact h3) (by rw [ms_q (by decide)]; exact hv) (fun j hj => by
      by_cases hjb : j = b
      · subst hjb; rw [ms_s]
      · rw [ms_i (by omega)]; exact hs j (by omega)) (by rw [ms_i (by omega)]; exact h0)
    exact ⟨K', e0, fun q h7 h8 => by rw [e1 q h7 h8, ms_q h8], fun j hj => by rw [e2 j hj, ms_q (by decide)], fun j hj => by rw [e3 j hj, ms_i (by omega)], e4, e5, e6⟩
theorem K_make (hN : N < 120) (ha : a < 5) (hver : ver ≤ 4) {K : Mem} (h3 : K 0 3 = nI N) (hv : K 1 a = nI ver) : ∃ K', f_K_make (nI a) set (bi w) K = some K' ∧ mkPost N a ver set w K K' := by
  have step : f_K_make (nI a) set (bi w) K = f_K_make_22 100000 (nI a) set (bi w) (nI 0) (ms K 8 (25 * N + 5 * a) (bi (!w))) := by
    unfold f_K_make
    cases w
    · rw [if_pos (show bi false = 0 from rfl), f_K_make_16, h3, K_tellN hN ha, om_s]; rfl
    · rw [if_neg (show ¬ bi true = 0 by decide), f_K_make_16, h3, K_tellN hN ha, om_s]; rfl
  rw [step]
  obtain ⟨K', e0, e1, e2, e3, e4, e5, e6⟩ := K_make_loop hN ha hver (set := set) (w := w) 4 0 100000 (ms K 8 (25 * N + 5 * a) (bi (!w))) (by omega) (by omega) (by rw [ms_q (by decide)]; exact h3) (by rw [ms_q (by decide)]; exact hv) (fun j hj => by omega) (by rw [ms_s])
  exact ⟨K', e0, fun q h7 h8 => by rw [e1 q h7 h8, ms_q h8], fun j hj => by rw [e2 j hj, ms_q (by decide)], fun j hj => by rw [e3 j hj, ms_i (by omega)], e4, e5, e6⟩
end MAKE
/-- bits of the class's words for a term -/
theorem sh5 (a : Nat) (ha : a < 5) : (5 : Int32) * nI a &&& 31 = nI (5 * a) &&& 31 := by rw [i5m]
theorem ib_lt {s : Nat} {t : Nat} (h : s < 2 ^ t) (ht : t ≤ 31) {j : Nat} (hj : t ≤ j) : ib (nI s) j = false := by
  unfold ib nI
  have h2 : s < 2 ^ j := Nat.lt_of_lt_of_le h (Nat.pow_le_pow_right (by decide) hj)
  have h3 : s < 2 ^ 32 := Nat.lt_of_lt_of_le h (Nat.pow_le_pow_right (by decide) (by omega))
  rw [show (Int32.ofNat s).toBitVec = BitVec.ofNat 32 s from rfl, BitVec.getLsbD_ofNat, Nat.testBit_lt_two_pow h2]
  simp
theorem wantedIn_bits {a : Nat} {s : Int32} (ha : a < 5) (hs : ∀ j, 5 ≤ j → ib s j = false) :
    ∀ i b, i < 5 → b < 5 → ib (((33554431 : Int32) &&& (((31 : Int32) <<< (((5 : Int32) * nI a) &&& 31)) ^^^ (-1 : Int32))) ||| (s <<< (((5 : Int32) * nI a) &&& 31))) (5 * i + b) = if i = a then ib s b else true := by
  intro i b hi hb
  rw [sh5 a ha, ib_or, ib_and, ib_all, ib_not (by omega), ib_shl (by omega), ib_shl (by omega), ib_31]
  by_cases h : i = a
  · subst h
    rw [if_pos rfl, show 5 * i + b - 5 * i = b by omega]
    simp only [show decide (5 * i + b < 25) = true from decide_eq_true (by omega), show decide (5 * i + b < 32) = true from decide_eq_true (by omega), show decide (5 * i + b < 5 * i) = false from decide_eq_false (by omega), show decide (b < 5) = true from decide_eq_true hb]
    simp
  · rw [if_neg h]
    rcases Nat.lt_or_ge i a with h1 | h1
    · simp only [show decide (5 * i + b < 25) = true from decide_eq_true (by omega), show decide (5 * i + b < 32) = true from decide_eq_true (by omega), show decide (5 * i + b < 5 * a) = true from decide_eq_true (by omega)]
      simp
    · simp only [show decide (5 * i + b < 25) = true from decide_eq_true (by omega), show decide (5 * i + b < 32) = true from decide_eq_true (by omega), show decide (5 * i + b < 5 * a) = false from decide_eq_false (by omega), show decide (5 * i + b - 5 * a < 5) = false from decide_eq_false (by omega)]
      simp
theorem wantedIn_hi {a : Nat} {s : Int32} (ha : a < 5) (hs : ∀ j, 5 ≤ j → ib s j = false) :
    ∀ j, 25 ≤ j → ib (((33554431 : Int32) &&& (((31 : Int32) <<< (((5 : Int32) * nI a) &&& 31)) ^^^ (-1 : Int32))) ||| (s <<< (((5 : Int32) * nI a) &&& 31))) j = false := by
  intro j hj
  rw [sh5 a ha, ib_or, ib_and, ib_all, ib_shl (by omega), hs (j - 5 * a) (by omega)]
  simp only [show decide (j < 25) = false from decide_eq_false (by omega)]
  simp
theorem notIn_bits {a : Nat} {s : Int32} (ha : a < 5) (hs : ∀ j, 5 ≤ j → ib s j = false) :
    ∀ i b, i < 5 → b < 5 → ib ((33554431 : Int32) &&& ((s <<< (((5 : Int32) * nI a) &&& 31)) ^^^ (-1 : Int32))) (5 * i + b) = if i = a then !(ib s b) else true := by
  intro i b hi hb
  rw [sh5 a ha, ib_and, ib_all, ib_not (by omega), ib_shl (by omega)]
  by_cases h : i = a
  · subst h
    rw [if_pos rfl, show 5 * i + b - 5 * i = b by omega]
    simp only [show decide (5 * i + b < 25) = true from decide_eq_true (by omega), show decide (5 * i + b < 32) = true from decide_eq_true (by omega), show decide (5 * i + b < 5 * i) = false from decide_eq_false (by omega)]
    simp
  · rw [if_neg h]
    rcases Nat.lt_or_ge i a with h1 | h1
    · simp only [show decide (5 * i + b < 25) = true from decide_eq_true (by omega), show decide (5 * i + b < 5 * a) = true from decide_eq_true (by omega)]
      simp
    · rw [hs (5 * i + b - 5 * a) (by omega)]
      simp only [show decide (5 * i + b < 25) = true from decide_eq_true (by omega)]
      simp
theorem notIn_hi {a : Nat} {s : Int32} : ∀ j, 25 ≤ j → ib ((33554431 : Int32) &&& ((s <<< (((5 : Int32) * nI a) &&& 31)) ^^^ (-1 : Int32))) j = false := by
  intro j hj
  rw [ib_and, ib_all]
  simp only [show decide (j < 25) = false from decide_eq_false (by omega)]
  simp
