/-! PURE: what the reference writes when a node is made -/
theorem i5 (a b : Nat) : (5 : Int32) * nI a + nI b = nI (5 * a + b) := by
  rw [show (5 : Int32) = nI 5 from rfl, pk_mul, nI_add]
theorem i5m (a : Nat) : (5 : Int32) * nI a = nI (5 * a) := by
  rw [show (5 : Int32) = nI 5 from rfl, pk_mul]
/-- place of what is said of version v, one further for none: 25 node + 5 name + v + 1 -/
theorem i25 (k a b : Nat) : (5 : Int32) * nI (5 * k + a) + nI b + 1 = nI (25 * k + 5 * a + b + 1) := by
  rw [i5, nI_1]
  congr 1
  omega
theorem i25n (k a : Nat) : (5 : Int32) * nI (5 * k + a) + (-1) + 1 = nI (25 * k + 5 * a) := by
  rw [i5m, Int32.add_assoc, show (-1 : Int32) + 1 = 0 from rfl, Int32.add_zero]
  congr 1
  omega
theorem nar01 : ∀ b : Bool, vp_nar .boolean (bi b) = bi b := by decide
/-- isSaid -/
theorem K_isSaid {k a b : Nat} {K : Mem} (hk : k < 120) (ha : a < 5) (hb : b < 4) : f_K_isSaid (nI k) (nI a) (nI b) K = some (vp_nar .boolean (K 8 (25 * k + 5 * a + b + 1)), K) := by
  unfold f_K_isSaid f_K_place
  rw [ob_s, i5, i25, gd_nI (by omega) (by decide), nI_clamp (by omega)]
theorem K_isSaidN {k a : Nat} {K : Mem} (hk : k < 120) (ha : a < 5) : f_K_isSaid (nI k) (nI a) (-1) K = some (vp_nar .boolean (K 8 (25 * k + 5 * a)), K) := by
  unfold f_K_isSaid f_K_place
  rw [ob_s, i5, i25n, gd_nI (by omega) (by decide), nI_clamp (by omega)]
theorem K_tell {k a b : Nat} {x : Int32} {K : Mem} (hk : k < 120) (ha : a < 5) (hb : b < 4) : f_K_tell (nI k) (nI a) (nI b) x K = some (ms K 8 (25 * k + 5 * a + b + 1) (vp_nar .boolean x)) := by
  unfold f_K_tell f_K_place
  rw [ob_s, i5, i25, gd_nI (by omega) (by decide), nI_clamp (by omega)]
theorem K_tellN {k a : Nat} {x : Int32} {K : Mem} (hk : k < 120) (ha : a < 5) : f_K_tell (nI k) (nI a) (-1) x K = some (ms K 8 (25 * k + 5 * a) (vp_nar .boolean x)) := by
  unfold f_K_tell f_K_place
  rw [ob_s, i5, i25n, gd_nI (by omega) (by decide), nI_clamp (by omega)]
/-- all that is said of a name, from version b on -/
def allS (K : Mem) (p : Nat) : Nat → Nat → Bool
  | 0, _ => true
  | c + 1, b => decide (K 8 (p + b + 1) = 1) && allS K p c (b + 1)
theorem allS_iff (K : Mem) (p : Nat) : ∀ (c b : Nat), allS K p c b = true ↔ ∀ j, b ≤ j → j < b + c → K 8 (p + j + 1) = 1 := by
  intro c
  induction c with
  | zero => intro b; simp [allS]; intro j h1 h2; omega
  | succ c ih =>
    intro b
    rw [allS, Bool.and_eq_true, ih, decide_eq_true_eq]
    constructor
    · intro ⟨h1, h2⟩ j h3 h4
      by_cases hj : j = b
      · subst hj; exact h1
      · exact h2 j (by omega) (by omega)
    · intro h
      exact ⟨h b (Nat.le_refl b) (by omega), fun j h3 h4 => h j (by omega) (by omega)⟩
def is01 (x : Int32) : Prop := x = 0 ∨ x = 1
theorem nar_01 {x : Int32} (h : is01 x) : vp_nar .boolean x = x := by
  rcases h with rfl | rfl <;> decide
/-- keep, from version b on -/
theorem K_keep_loop {k a w : Nat} {K : Mem} (hk : k < 120) (ha : a < 5) (hw : w ≤ 4) (hv : K 1 a = nI w) (h01 : ∀ b, b < w → is01 (K 8 (25 * k + 5 * a + b + 1))) :
    ∀ (c b m : Nat) (f : Bool), b + c = w → c < m → f_K_keep_5 m (nI k) (nI a) (bi f) (nI b) K = some (ms K 7 (5 * k + a) (bi (!(f && allS K (25 * k + 5 * a) c b)))) := by
  intro c
  induction c with
  | zero =>
    intro b m f hbc hm
    obtain ⟨m, rfl⟩ : ∃ m', m = m' + 1 := ⟨m - 1, by omega⟩
    rw [f_K_keep_5, gd_nI ha (by decide), nI_clamp (by omega), hv, if_pos (nI_le (by omega) (by omega)), f_K_place, ob_s, i5]
    cases f
    · rw [if_pos (show bi false = 0 from rfl), gd_nI (by omega) (by decide), nI_clamp (by omega)]; rfl
    · rw [if_neg (show ¬ bi true = 0 by decide), gd_nI (by omega) (by decide), nI_clamp (by omega)]; rfl
  | succ c ih =>
    intro b m f hbc hm
    obtain ⟨m, rfl⟩ : ∃ m', m = m' + 1 := ⟨m - 1, by omega⟩
    rw [f_K_keep_5, gd_nI ha (by decide), nI_clamp (by omega), hv, if_neg (nI_ge (by omega) (by omega)), nI_1]
    cases f
    · rw [if_pos (show bi false = 0 from rfl)]
      have := ih (b + 1) m false (by omega) (by omega)
      rw [show bi false = (0 : Int32) from rfl] at this
      rw [this]
      simp
    · rw [if_neg (show ¬ bi true = 0 by decide), K_isSaid hk ha (by omega), ob_s, nar_01 (h01 b (by omega))]
      rcases h01 b (by omega) with h0 | h1
      · rw [if_pos h0]
        have := ih (b + 1) m false (by omega) (by omega)
        rw [show bi false = (0 : Int32) from rfl] at this
        rw [this, allS, h0]
        simp
      · rw [if_neg (by rw [h1]; decide)]
        have := ih (b + 1) m true (by omega) (by omega)
        rw [show bi true = (1 : Int32) from rfl] at this
        rw [this, allS, h1]
        simp
theorem K_keep {k a w : Nat} {K : Mem} (hk : k < 120) (ha : a < 5) (hw : w ≤ 4) (hv : K 1 a = nI w) (h01 : ∀ b, b < w → is01 (K 8 (25 * k + 5 * a + b + 1))) (h0 : is01 (K 8 (25 * k + 5 * a))) :
    f_K_keep (nI k) (nI a) K = some (ms K 7 (5 * k + a) (bi (!(decide (K 8 (25 * k + 5 * a) = 1) && allS K (25 * k + 5 * a) w 0)))) := by
  unfold f_K_keep
  rw [show (100000 : Nat) = 99999 + 1 from rfl, f_K_keep_5, gd_nI ha (by decide), nI_clamp (by omega), hv, if_neg (show ¬ nI w ≤ -1 from fun h => by
    have h2 := Int32.le_iff_toInt_le.mp h
    rw [nI_toInt (by omega), show (-1 : Int32).toInt = -1 from rfl] at h2
    omega), if_neg (show ¬ (1 : Int32) = 0 by decide), K_isSaidN hk ha, ob_s, nar_01 h0, show (-1 : Int32) + 1 = nI 0 from rfl]
  rcases h0 with e | e
  · rw [if_pos e]
    have := K_keep_loop hk ha hw hv h01 w 0 99999 false (by omega) (by omega)
    rw [show bi false = (0 : Int32) from rfl] at this
    rw [this, e]
    simp
  · rw [if_neg (by rw [e]; decide)]
    have := K_keep_loop hk ha hw hv h01 w 0 99999 true (by omega) (by omega)
    rw [show bi true = (1 : Int32) from rfl] at this
    rw [this, e]
    simp
/-- clear -/
theorem K_clear_loop {N : Nat} (hN : N < 120) : ∀ (c i m : Nat) (K : Mem), i + c = 5 → c < m → K 0 3 = nI N → ∃ K', f_K_clear_2 m (nI i) K = some K' ∧ (∀ q, q ≠ 7 → K' q = K q) ∧ (∀ j, (j < 5 * N + i ∨ 5 * N + 5 ≤ j) → K' 7 j = K 7 j) ∧ ∀ j, 5 * N + i ≤ j → j < 5 * N + 5 → K' 7 j = 0 := by
  intro c
  induction c with
  | zero =>
    intro i m K hi hm h3
    obtain ⟨m, rfl⟩ : ∃ m', m = m' + 1 := ⟨m - 1, by omega⟩
    rw [f_K_clear_2, if_pos (show (5 : Int32) ≤ nI i from nI_le (a := 5) (by omega) (by omega))]
    exact ⟨K, rfl, fun _ _ => rfl, fun _ _ => rfl, fun j h1 h2 => by omega⟩
  | succ c ih =>
    intro i m K hi hm h3
    obtain ⟨m, rfl⟩ : ∃ m', m = m' + 1 := ⟨m - 1, by omega⟩
    rw [f_K_clear_2, if_neg (show ¬ (5 : Int32) ≤ nI i from nI_ge (b := 5) (by omega) (by decide)), h3, f_K_place, ob_s, i5, gd_nI (by omega) (by decide), nI_clamp (by omega), nI_1]
    obtain ⟨K', e1, e2, e3, e4⟩ := ih (i + 1) m (ms K 7 (5 * N + i) (vp_nar .boolean 0)) (by omega) (by omega) (by rw [ms_q (by decide)]; exact h3)
    refine ⟨K', e1, fun q hq => by rw [e2 q hq, ms_q hq], fun j hj => by rw [e3 j (by omega), ms_i (by omega)], fun j h1 h2 => ?_⟩
    by_cases hj : j = 5 * N + i
    · rw [e3 j (by omega), hj, ms_s]; decide
    · exact e4 j (by omega) h2
theorem K_clear {N : Nat} (hN : N < 120) {K : Mem} (h3 : K 0 3 = nI N) : ∃ K', f_K_clear K = some K' ∧ (∀ q, q ≠ 7 → K' q = K q) ∧ (∀ j, (j < 5 * N ∨ 5 * N + 5 ≤ j) → K' 7 j = K 7 j) ∧ ∀ j, 5 * N ≤ j → j < 5 * N + 5 → K' 7 j = 0 := K_clear_loop hN 5 0 100000 K (by omega) (by omega) h3
