/-! PURE: the class's search -/
theorem opt_0 {x : Int32} {i : Nat} (hi : i < 5) (hx : ∀ j, 25 ≤ j → ib x j = false) : opt x i = 0 ↔ ∀ o, o < 5 → ib x (5 * i + o) = false := by
  constructor
  · intro h o ho
    have := opt_ib (b := o) hi hx
    rw [h, ib_0, decide_eq_true ho, Bool.true_and] at this
    exact this.symm
  · intro h
    apply ib_ext
    intro j _
    rw [opt_ib hi hx, ib_0]
    by_cases hj : j < 5
    · rw [h j hj]; simp
    · rw [decide_eq_false hj]; rfl
def any5 (p : Nat → Bool) : Bool := p 0 || p 1 || p 2 || p 3 || p 4
theorem any5_iff {p : Nat → Bool} : any5 p = true ↔ ∃ o, o < 5 ∧ p o = true := by
  unfold any5
  constructor
  · intro h
    simp only [Bool.or_eq_true] at h
    rcases h with (((h | h) | h) | h) | h
    · exact ⟨0, by omega, h⟩
    · exact ⟨1, by omega, h⟩
    · exact ⟨2, by omega, h⟩
    · exact ⟨3, by omega, h⟩
    · exact ⟨4, by omega, h⟩
  · intro ⟨o, ho, h⟩
    simp only [Bool.or_eq_true]
    have : o = 0 ∨ o = 1 ∨ o = 2 ∨ o = 3 ∨ o = 4 := by omega
    rcases this with rfl | rfl | rfl | rfl | rfl <;> simp [h]
/-- options can be chosen for the c names from j on -/
def chB (B : Nat → Int32) : Nat → Nat → Int32 → Bool
  | 0, _, _ => true
  | c + 1, j, F => any5 fun o => ib F (5 * j + o) && chB B c (j + 1) (F &&& (B (5 * j + o) ^^^ (-1)))
theorem chB_free (B : Nat → Int32) : ∀ (c j : Nat) (F : Int32), chB B c j F = true → ∀ i, j ≤ i → i < j + c → ∃ o, o < 5 ∧ ib F (5 * i + o) = true := by
  intro c
  induction c with
  | zero => intro j F _ i h1 h2; omega
  | succ c ih =>
    intro j F h i h1 h2
    rw [chB, any5_iff] at h
    obtain ⟨o, ho, h⟩ := h
    rw [Bool.and_eq_true] at h
    by_cases hij : i = j
    · subst hij; exact ⟨o, ho, h.1⟩
    · obtain ⟨o2, ho2, h2'⟩ := ih (j + 1) _ h.2 i (by omega) (by omega)
      rw [ib_and, Bool.and_eq_true] at h2'
      exact ⟨o2, ho2, h2'.1⟩
theorem S_isStuck {n : Nat} {F : Int32} {M : Mem} (hn : n ≤ 5) (hF : ∀ j, 25 ≤ j → ib F j = false) : ∀ (c j : Nat), j + c = n → ∃ z : Bool, f_S_isStuck (nI n) (nI j) F M = some (bi z, M) ∧ (z = true ↔ ∃ i, j ≤ i ∧ i < n ∧ ∀ o, o < 5 → ib F (5 * i + o) = false) := by
  intro c j hjc
  have loop : ∀ (c j m : Nat), j + c = n → c < m → ∃ z : Bool, f_S_isStuck_2 m (nI n) F (nI j) M = some (bi z, M) ∧ (z = true ↔ ∃ i, j ≤ i ∧ i < n ∧ ∀ o, o < 5 → ib F (5 * i + o) = false) := by
    intro c
    induction c with
    | zero =>
      intro j m hj hm
      obtain ⟨m, rfl⟩ : ∃ m', m = m' + 1 := ⟨m - 1, by omega⟩
      rw [f_S_isStuck_2, if_pos (nI_le (by omega) (by omega))]
      exact ⟨false, rfl, ⟨(fun h => by cases h), (fun ⟨i, a, b, _⟩ => by omega)⟩⟩
    | succ c ih =>
      intro j m hj hm
      obtain ⟨m, rfl⟩ : ∃ m', m = m' + 1 := ⟨m - 1, by omega⟩
      rw [f_S_isStuck_2, if_neg (nI_ge (by omega) (by omega)), nI_1]
      by_cases h0 : opt F j = 0
      · rw [if_pos (show ((F >>> (((5 : Int32) * nI j) &&& 31)) &&& (31 : Int32)) = 0 from h0)]
        exact ⟨true, rfl, ⟨fun _ => ⟨j, Nat.le_refl j, by omega, (opt_0 (by omega) hF).mp h0⟩, fun _ => rfl⟩⟩
      · rw [if_neg (show ¬ ((F >>> (((5 : Int32) * nI j) &&& 31)) &&& (31 : Int32)) = 0 from h0)]
        obtain ⟨z, e1, e2⟩ := ih (j + 1) m (by omega) (by omega)
        refine ⟨z, e1, e2.trans ⟨fun ⟨i, a, b, d⟩ => ⟨i, by omega, b, d⟩, fun ⟨i, a, b, d⟩ => ?_⟩⟩
        by_cases hij : i = j
        · subst hij
          exact absurd ((opt_0 (by omega) hF).mpr d) h0
        · exact ⟨i, by omega, b, d⟩
  exact loop c j 100000 hjc (by omega)
theorem S_canChoose {n : Nat} {M : Mem} (hn : n ≤ 5) : ∀ (c j d : Nat) (F : Int32), j + c = n → c < d → (∀ t, 25 ≤ t → ib F t = false) → f_S_canChoose d (nI n) (nI j) F M = some (bi (chB (M 27) c j F), M) := by
  intro c
  induction c with
  | zero =>
    intro j d F hj hd hF
    obtain ⟨d, rfl⟩ : ∃ d', d = d' + 1 := ⟨d - 1, by omega⟩
    rw [f_S_canChoose, f_S_canChoose_e, if_pos (nI_le (by omega) (by omega))]; rfl
  | succ c ih =>
    intro j d F hj hd hF
    obtain ⟨d, rfl⟩ : ∃ d', d = d' + 1 := ⟨d - 1, by omega⟩
    rw [f_S_canChoose, f_S_canChoose_e, if_neg (nI_ge (by omega) (by omega)), if_pos (show nI j < 5 from nI_lt (b := 5) (by omega) (by decide))]
    obtain ⟨z, e1, e2⟩ := S_isStuck (M := M) hn hF (c + 1) j hj
    rw [e1, ob_s]
    cases z
    · rw [if_pos (show bi false = 0 from rfl)]
      -- the loop over the options
      have loop : ∀ (g o m : Nat), o + g = 5 → g < m → ∃ z : Bool, f_S_canChoose_26 (f_S_canChoose d) m (nI n) (nI j) F (nI o) M = some (bi z, M) ∧ (z = true ↔ ∃ u, o ≤ u ∧ u < 5 ∧ (ib F (5 * j + u) && chB (M 27) c (j + 1) (F &&& (M 27 (5 * j + u) ^^^ (-1)))) = true) := by
        intro g
        induction g with
        | zero =>
          intro o m ho hm
          obtain ⟨m, rfl⟩ : ∃ m', m = m' + 1 := ⟨m - 1, by omega⟩
          rw [f_S_canChoose_26, if_pos (show (5 : Int32) ≤ nI o from nI_le (a := 5) (by omega) (by omega))]
          exact ⟨false, rfl, ⟨(fun h => by cases h), (fun ⟨u, a, b, _⟩ => by omega)⟩⟩
        | succ g ihg =>
          intro o m ho hm
          obtain ⟨m, rfl⟩ : ∃ m', m = m' + 1 := ⟨m - 1, by omega⟩
          obtain ⟨z, hnext, hz⟩ := ihg (o + 1) m (by omega) (by omega)
          rw [f_S_canChoose_26, if_neg (show ¬ (5 : Int32) ≤ nI o from nI_ge (b := 5) (by omega) (by decide)), i5, bit_eq (by omega)]
          have hsame : (ib F (5 * j + o) && chB (M 27) c (j + 1) (F &&& (M 27 (5 * j + o) ^^^ (-1)))) = false → (z = true ↔ ∃ u, o ≤ u ∧ u < 5 ∧ (ib F (5 * j + u) && chB (M 27) c (j + 1) (F &&& (M 27 (5 * j + u) ^^^ (-1)))) = true) := by
            intro hf
            refine hz.trans ⟨fun ⟨u, a, b, e⟩ => ⟨u, by omega, b, e⟩, fun ⟨u, a, b, e⟩ => ?_⟩
            by_cases huo : u = o
            · subst huo; rw [hf] at e; cases e
            · exact ⟨u, by omega, b, e⟩
          cases hb : ib F (5 * j + o)
          · rw [if_neg (by decide), f_S_canChoose_55, if_pos rfl, nI_1, hnext]
            exact ⟨z, rfl, hsame (by rw [hb]; rfl)⟩
          · rw [if_pos (by decide), f_S_canChoose_55, if_neg (by decide), gd_nI (by omega) (by decide), nI_clamp (by omega), nI_1, ih (j + 1) d _ (by omega) (by omega) (fun t ht => by rw [ib_and, hF t ht]; rfl), ob_s]
            cases hc : chB (M 27) c (j + 1) (F &&& (M 27 (5 * j + o) ^^^ (-1)))
            · rw [if_pos (show bi false = 0 from rfl), nI_1, hnext]
              exact ⟨z, rfl, hsame (by rw [hb, hc]; rfl)⟩
            · rw [if_neg (by decide)]
              exact ⟨true, rfl, ⟨fun _ => ⟨o, Nat.le_refl o, by omega, by rw [hb, hc]; rfl⟩, fun _ => rfl⟩⟩
      obtain ⟨z, e3, e4⟩ := loop 5 0 100000 (by omega) (by omega)
      rw [show nI 0 = (0 : Int32) from rfl] at e3
      rw [e3, chB]
      congr 3
      rw [Bool.eq_iff_iff, e4, any5_iff]
      exact ⟨fun ⟨u, _, b, e⟩ => ⟨u, b, e⟩, fun ⟨u, b, e⟩ => ⟨u, by omega, b, e⟩⟩
    · rw [if_neg (by decide)]
      obtain ⟨i, a, b, e⟩ := e2.mp rfl
      have : chB (M 27) (c + 1) j F = false := by
        cases hc : chB (M 27) (c + 1) j F
        · rfl
        · obtain ⟨o, ho, h⟩ := chB_free _ _ _ _ hc i a (by omega)
          rw [e o ho] at h; cases h
      rw [this]; rfl
