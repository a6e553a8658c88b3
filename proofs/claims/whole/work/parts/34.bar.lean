theorem chB_iff (B : Nat → Int32) : ∀ (c j : Nat) (F : Int32), (∀ t, 25 ≤ t → ib F t = false) → j + c ≤ 5 → (chB B c j F = true ↔ ∃ w : Nat → Nat, (∀ i, j ≤ i → i < j + c → w i < 5 ∧ ib F (5 * i + w i) = true) ∧ ∀ i i', j ≤ i → i < i' → i' < j + c → ib (B (5 * i + w i)) (5 * i' + w i') = false) := by
  intro c
  induction c with
  | zero => intro j F _ _; exact ⟨fun _ => ⟨fun _ => 0, fun i h1 h2 => by omega, fun i i' h1 h2 h3 => by omega⟩, fun _ => rfl⟩
  | succ c ih =>
    intro j F hF hj
    rw [chB, any5_iff]
    constructor
    · intro ⟨o, ho, h⟩
      rw [Bool.and_eq_true, ih (j + 1) _ (fun t ht => by rw [ib_and, hF t ht]; rfl) (by omega)] at h
      obtain ⟨h1, w, h2, h3⟩ := h
      refine ⟨fun i => if i = j then o else w i, fun i a b => ?_, fun i i' a b d => ?_⟩
      · by_cases hij : i = j
        · subst hij
          dsimp only
          rw [if_pos rfl]
          exact ⟨ho, h1⟩
        · dsimp only
          rw [if_neg hij]
          have := h2 i (by omega) (by omega)
          rw [ib_and, Bool.and_eq_true] at this
          exact ⟨this.1, this.2.1⟩
      · dsimp only
        rw [if_neg (show ¬ i' = j by omega)]
        by_cases hij : i = j
        · subst hij
          rw [if_pos rfl]
          have h5 := h2 i' (by omega) (by omega)
          have := h5.2
          rw [ib_and, ib_not (by omega), Bool.and_eq_true] at this
          simpa using this.2
        · rw [if_neg hij]
          exact h3 i i' (by omega) b (by omega)
    · intro ⟨w, h1, h2⟩
      obtain ⟨a, b⟩ := h1 j (Nat.le_refl j) (by omega)
      refine ⟨w j, a, ?_⟩
      rw [Bool.and_eq_true, ih (j + 1) _ (fun t ht => by rw [ib_and, hF t ht]; rfl) (by omega)]
      refine ⟨b, w, fun i x y => ?_, fun i i' x y z => h2 i i' (by omega) y (by omega)⟩
      obtain ⟨e1, e2⟩ := h1 i (by omega) (by omega)
      refine ⟨e1, ?_⟩
      rw [ib_and, ib_not (by omega), e2, h2 j i (Nat.le_refl j) (by omega) (by omega)]; rfl
/-- the first that is true, counted from s -/
theorem nth_s (p : Nat → Bool) : ∀ (c i s : Nat), (nth p (nI s) c i s = none ∧ ∀ j, i ≤ j → j < i + c → p j = false) ∨ ∃ r, nth p (nI s) c i s = some r ∧ i ≤ r ∧ r < i + c ∧ p r = true ∧ ∀ j, i ≤ j → j < r → p j = false := by
  intro c
  induction c with
  | zero => intro i s; exact Or.inl ⟨rfl, fun j a b => by omega⟩
  | succ c ih =>
    intro i s
    rw [nth]
    cases hp : p i
    · rw [if_neg (by decide)]
      rcases ih (i + 1) s with ⟨a, b⟩ | ⟨r, a, b, d, e, f⟩
      · refine Or.inl ⟨a, fun j x y => ?_⟩
        by_cases hj : j = i
        · rw [hj]; exact hp
        · exact b j (by omega) (by omega)
      · refine Or.inr ⟨r, a, by omega, by omega, e, fun j x y => ?_⟩
        by_cases hj : j = i
        · rw [hj]; exact hp
        · exact f j (by omega) y
    · rw [if_pos rfl, if_pos rfl]
      exact Or.inr ⟨i, rfl, Nat.le_refl i, by omega, hp, fun j a b => by omega⟩
theorem nth_1 (p : Nat → Bool) : ∀ (c i : Nat), (∀ j, i ≤ j → j < i + c → p j = false) ∨ ∃ r, i ≤ r ∧ r < i + c ∧ p r = true ∧ (∀ j, i ≤ j → j < r → p j = false) ∧ ((nth p (nI 1) c i 0 = none ∧ ∀ j, r < j → j < i + c → p j = false) ∨ ∃ r', nth p (nI 1) c i 0 = some r' ∧ r < r' ∧ r' < i + c ∧ p r' = true ∧ ∀ j, r < j → j < r' → p j = false) := by
  intro c
  induction c with
  | zero => intro i; exact Or.inl (fun j a b => by omega)
  | succ c ih =>
    intro i
    cases hp : p i
    · rcases ih (i + 1) with b | ⟨r, a, b, d, e, f⟩
      · refine Or.inl (fun j x y => ?_)
        by_cases hj : j = i
        · rw [hj]; exact hp
        · exact b j (by omega) (by omega)
      · refine Or.inr ⟨r, by omega, by omega, d, fun j x y => ?_, ?_⟩
        · by_cases hj : j = i
          · rw [hj]; exact hp
          · exact e j (by omega) y
        · rw [nth, hp, if_neg (by decide)]
          rcases f with ⟨g1, g2⟩ | ⟨r', g1, g2, g3, g4, g5⟩
          · exact Or.inl ⟨g1, fun j x y => g2 j x (by omega)⟩
          · exact Or.inr ⟨r', g1, g2, by omega, g4, g5⟩
    · refine Or.inr ⟨i, Nat.le_refl i, by omega, hp, fun j x y => by omega, ?_⟩
      rw [nth, hp, if_pos rfl, if_neg (by decide)]
      rcases nth_s p c (i + 1) 1 with ⟨a, b⟩ | ⟨r, a, b, d, e, f⟩
      · exact Or.inl ⟨a, fun j x y => b j (by omega) (by omega)⟩
      · exact Or.inr ⟨r, a, by omega, by omega, e, fun j x y => f j (by omega) y⟩
/-- at most two terms -/
theorem two_terms {p : Nat → Bool} {n a b : Nat} (hle : ∀ i, i < n → i ≠ a → i ≠ b → p i = false) :
    ((∀ i, i < n → p i = false) ∧ nth p (nI 0) n 0 0 = none) ∨ (∃ i0, i0 < n ∧ p i0 = true ∧ (∀ i, i < n → i ≠ i0 → p i = false) ∧ nth p (nI 0) n 0 0 = some i0 ∧ nth p (nI 1) n 0 0 = none) ∨ ∃ i0 i1, i0 < i1 ∧ i1 < n ∧ p i0 = true ∧ p i1 = true ∧ (∀ i, i < n → i ≠ i0 → i ≠ i1 → p i = false) ∧ nth p (nI 0) n 0 0 = some i0 ∧ nth p (nI 1) n 0 0 = some i1 := by
  rcases nth_s p n 0 0 with ⟨e1, e2⟩ | ⟨i0, e1, -, e2, e3, e4⟩
  · exact Or.inl ⟨fun i hi => e2 i (by omega) (by omega), e1⟩
  · rcases nth_1 p n 0 with f | ⟨r, -, f1, f2, f3, f4⟩
    · rw [f i0 (by omega) e2] at e3; cases e3
    · have hr : r = i0 := by
        rcases Nat.lt_trichotomy r i0 with h | h | h
        · rw [e4 r (by omega) h] at f2; cases f2
        · exact h
        · rw [f3 i0 (by omega) h] at e3; cases e3
      subst hr
      rcases f4 with ⟨g1, g2⟩ | ⟨i1, g1, g2, g3, g4, g5⟩
      · refine Or.inr (Or.inl ⟨r, by omega, e3, fun i hi hne => ?_, e1, g1⟩)
        rcases Nat.lt_or_ge i r with h | h
        · exact e4 i (by omega) h
        · exact g2 i (by omega) (by omega)
      · refine Or.inr (Or.inr ⟨r, i1, g2, by omega, e3, g4, fun i hi h0 h1 => ?_, e1, g1⟩)
        have ha : (r = a ∨ r = b) := by
          apply Classical.byContradiction
          intro hh
          rw [hle r (by omega) (fun e => hh (Or.inl e)) (fun e => hh (Or.inr e))] at e3
          cases e3
        have hb : (i1 = a ∨ i1 = b) := by
          apply Classical.byContradiction
          intro hh
          rw [hle i1 (by omega) (fun e => hh (Or.inl e)) (fun e => hh (Or.inr e))] at g4
          cases g4
        exact hle i hi (by omega) (by omega)
/-- the marks that a leaf of two terms makes -/
theorem S_bar69 {i0 : Nat} {x y : Int32} (hi : i0 < 5) : ∀ (c o m : Nat) (M : Mem), o + c = 5 → c < m → ∃ M', f_S_bar_69 m (nI i0) x y (nI o) M = some (0, M') ∧ (∀ q, q ≠ 27 → M' q = M q) ∧ ∀ j, M' 27 j = if 5 * i0 + o ≤ j ∧ j < 5 * i0 + 5 ∧ ib x (j - 5 * i0) = true then M 27 j ||| y else M 27 j := by
  intro c
  induction c with
  | zero =>
    intro o m M ho hm
    obtain ⟨m, rfl⟩ : ∃ m', m = m' + 1 := ⟨m - 1, by omega⟩
    rw [f_S_bar_69, if_pos (show (5 : Int32) ≤ nI o from nI_le (a := 5) (by omega) (by omega))]
    exact ⟨M, rfl, fun _ _ => rfl, fun j => by rw [if_neg (by omega)]⟩
  | succ c ih =>
    intro o m M ho hm
    obtain ⟨m, rfl⟩ : ∃ m', m = m' + 1 := ⟨m - 1, by omega⟩
    rw [f_S_bar_69, if_neg (show ¬ (5 : Int32) ≤ nI o from nI_ge (b := 5) (by omega) (by decide)), bit_eq (by omega), i5, nI_1]
    cases hx : ib x o
    · rw [if_neg (by decide)]
      obtain ⟨M', e1, e2, e3⟩ := ih (o + 1) m M (by omega) (by omega)
      refine ⟨M', e1, e2, fun j => ?_⟩
      rw [e3 j]
      by_cases hj : j = 5 * i0 + o
      · subst hj
        rw [if_neg (by omega), if_neg (by rw [show 5 * i0 + o - 5 * i0 = o by omega, hx]; intro h; cases h.2.2)]
      · by_cases h : 5 * i0 + (o + 1) ≤ j ∧ j < 5 * i0 + 5 ∧ ib x (j - 5 * i0) = true
        · rw [if_pos h, if_pos ⟨by omega, h.2⟩]
        · rw [if_neg h, if_neg (fun g => h ⟨by omega, g.2⟩)]
    · rw [if_pos (by decide), gd_nI (by omega) (by decide), gd_nI (by omega) (by decide), nI_clamp (by omega)]
      obtain ⟨M', e1, e2, e3⟩ := ih (o + 1) m (ms M 27 (5 * i0 + o) (M 27 (5 * i0 + o) ||| y)) (by omega) (by omega)
      refine ⟨M', e1, fun q hq => by rw [e2 q hq, ms_q hq], fun j => ?_⟩
      rw [e3 j]
      by_cases hj : j = 5 * i0 + o
      · subst hj
        rw [if_neg (by omega), ms_s, if_pos ⟨by omega, by omega, by rw [show 5 * i0 + o - 5 * i0 = o by omega]; exact hx⟩]
      · rw [ms_i hj]
        by_cases h : 5 * i0 + (o + 1) ≤ j ∧ j < 5 * i0 + 5 ∧ ib x (j - 5 * i0) = true
        · rw [if_pos h, if_pos ⟨by omega, h.2⟩]
        · rw [if_neg h, if_neg (fun g => h ⟨by omega, g.2⟩)]
