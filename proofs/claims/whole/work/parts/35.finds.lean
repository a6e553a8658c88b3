def okF (n : Nat) (F : Int32) (w : Nat → Nat) : Prop := ∀ i, i < n → ib F (5 * i + w i) = true
def okB (n : Nat) (B : Nat → Int32) (w : Nat → Nat) : Prop := ∀ i i', i < i' → i' < n → ib (B (5 * i + w i)) (5 * i' + w i') = false
def kept (n : Nat) (T : Int32) (w : Nat → Nat) : Prop := ∃ i, i < n ∧ ib T (5 * i + w i) = false
theorem ib_shopt {T : Int32} {i0 i o : Nat} (h0 : i0 < 5) (hi : i < 5) (ho : o < 5) (hx : ∀ j, 25 ≤ j → ib T j = false) : ib (opt T i0 <<< (((5 : Int32) * nI i0) &&& 31)) (5 * i + o) = (decide (i = i0) && ib T (5 * i0 + o)) := by
  rw [sh5 i0 h0, ib_shl (by omega), opt_ib h0 hx]
  rcases Nat.lt_trichotomy i i0 with h | h | h
  · rw [decide_eq_true (show 5 * i + o < 5 * i0 by omega), decide_eq_false (show ¬ i = i0 by omega)]; simp
  · subst h
    rw [show 5 * i + o - 5 * i = o by omega, decide_eq_true (show 5 * i + o < 32 by omega), decide_eq_false (show ¬ 5 * i + o < 5 * i by omega), decide_eq_true ho]; simp
  · rw [decide_eq_false (show ¬ 5 * i + o - 5 * i0 < 5 by omega), decide_eq_false (show ¬ i = i0 by omega)]; simp
theorem hasT_f {T : Int32} {i : Nat} (hi : i < 5) (hx : ∀ j, 25 ≤ j → ib T j = false) (h : hasT T i = false) : ∀ o, o < 5 → ib T (5 * i + o) = true := by
  apply (opt_31 hi hx).mp
  unfold hasT at h
  apply Classical.byContradiction
  intro hne
  rw [decide_eq_false hne] at h
  cases h
theorem S_bar {n N k a b : Nat} {M : Mem} (hn : n ≤ 5) (h0 : 0 < n) (hN : N ≤ 120) (h1 : M 1 1 = nI n) (h10 : M 1 10 = nI N) (hk : k < N) (hx : ∀ j, 25 ≤ j → ib (M 4 k) j = false) (hle : ∀ i, i < n → i ≠ a → i ≠ b → hasT (M 4 k) i = false) :
    ∃ (r : Int32) (M' : Mem), f_S_bar (nI k) M = some (r, M') ∧ (∀ q, q ≠ 27 → M' q = M q) ∧ ∀ (F : Int32) (w : Nat → Nat), (∀ i, i < n → w i < 5) → ((okF n (F &&& (r ^^^ (-1))) w ∧ okB n (M' 27) w) ↔ (okF n F w ∧ okB n (M 27) w ∧ kept n (M 4 k) w)) := by
  have nm0 : f_F_nameOfTerm (nI k) (0 : Int32) M = some (onI (nth (hasT (M 4 k)) (nI 0) n 0 0), M) := F_nameOfTerm (y := nI 0) hn hN h1 h10 hk
  have nm1 : f_F_nameOfTerm (nI k) (1 : Int32) M = some (onI (nth (hasT (M 4 k)) (nI 1) n 0 0), M) := F_nameOfTerm (y := nI 1) hn hN h1 h10 hk
  rw [f_S_bar, nm0, ob_s]
  rcases two_terms (p := hasT (M 4 k)) (n := n) (a := a) (b := b) hle with ⟨hf, e0⟩ | ⟨i0, hi0, hp, hf, e0, e1⟩ | ⟨i0, i1, hlt, hi1, hp, hp1, hf, e0, e1⟩
  · rw [e0, if_pos (show onI none = -1 from rfl)]
    refine ⟨_, M, rfl, fun _ _ => rfl, fun F w hw => ⟨fun ⟨hF, _⟩ => ?_, fun ⟨_, _, i, hi, he⟩ => ?_⟩⟩
    · have := hF 0 h0
      have hw0 := hw 0 h0
      rw [ib_and, ib_not (by omega), ib_all, decide_eq_true (show 5 * 0 + w 0 < 25 by omega)] at this
      simp at this
    · rw [hasT_f (by omega) hx (hf i hi) (w i) (hw i hi)] at he; cases he
  · have n0 : ¬ onI (some i0) = -1 := by
      have : ∀ i, i < 5 → nI i ≠ -1 := by decide
      exact this i0 (by omega)
    rw [e0, if_neg n0, nm1, ob_s, e1, show onI (some i0) = nI i0 from rfl, F_opt hn hN h1 h10 hk hi0, ob_s, if_pos (show onI none = -1 from rfl)]
    refine ⟨_, M, rfl, fun _ _ => rfl, fun F w hw => ?_⟩
    have hb : ∀ i, i < n → ib (F &&& (opt (M 4 k) i0 <<< (((5 : Int32) * nI i0) &&& 31) ^^^ (-1))) (5 * i + w i) = (ib F (5 * i + w i) && !(decide (i = i0) && ib (M 4 k) (5 * i0 + w i))) := fun i hi => by
      have := hw i hi
      rw [ib_and, ib_not (by omega), ib_shopt (by omega) (by omega) this hx]
    constructor
    · intro ⟨hF, hB⟩
      have h' := hF i0 hi0
      rw [hb i0 hi0, decide_eq_true rfl] at h'
      refine ⟨fun i hi => ?_, hB, i0, hi0, ?_⟩
      · have := hF i hi
        rw [hb i hi, Bool.and_eq_true] at this
        exact this.1
      · rw [Bool.and_eq_true] at h'
        simpa using h'.2
    · intro ⟨hF, hB, i, hi, he⟩
      have hii : i = i0 := by
        apply Classical.byContradiction
        intro hne
        rw [hasT_f (by omega) hx (hf i hi hne) (w i) (hw i hi)] at he; cases he
      subst hii
      refine ⟨fun j hj => ?_, hB⟩
      rw [hb j hj, hF j hj]
      by_cases hji : j = i
      · subst hji; rw [he]; simp
      · simp [hji]
  · have nn : ∀ i, i < 5 → ¬ nI i = -1 := by decide
    rw [e0, if_neg (show ¬ onI (some i0) = -1 from nn i0 (by omega)), nm1, ob_s, e1, show onI (some i0) = nI i0 from rfl, show onI (some i1) = nI i1 from rfl, F_opt hn hN h1 h10 hk (by omega), ob_s, if_neg (nn i1 (by omega)), F_opt hn hN h1 h10 hk hi1, ob_s]
    obtain ⟨M', g1, g2, g3⟩ := S_bar69 (i0 := i0) (x := opt (M 4 k) i0) (y := opt (M 4 k) i1 <<< (((5 : Int32) * nI i1) &&& 31)) (by omega) 5 0 100000 M (by omega) (by omega)
    refine ⟨0, M', g1, g2, fun F w hw => ?_⟩
    have hw0 := hw i0 (by omega)
    have hw1 := hw i1 hi1
    have hFb : ∀ i, i < n → ib (F &&& ((0 : Int32) ^^^ (-1))) (5 * i + w i) = ib F (5 * i + w i) := fun i hi => by
      have := hw i hi
      rw [ib_and, ib_not (by omega), ib_0]; simp
    have hBb : ∀ i i', i < i' → i' < n → ib (M' 27 (5 * i + w i)) (5 * i' + w i') = (ib (M 27 (5 * i + w i)) (5 * i' + w i') || (decide (i = i0) && ib (M 4 k) (5 * i0 + w i0) && decide (i' = i1) && ib (M 4 k) (5 * i1 + w i'))) := fun i i' h h' => by
      have hwi := hw i (by omega)
      have hwi' := hw i' h'
      rw [g3]
      by_cases hi : i = i0
      · subst hi
        rw [show 5 * i + w i - 5 * i = w i by omega, opt_ib (by omega) hx, decide_eq_true hwi, Bool.true_and]
        cases hT : ib (M 4 k) (5 * i + w i)
        · rw [if_neg (fun g => by cases g.2.2)]; simp
        · rw [if_pos ⟨by omega, by omega, rfl⟩, ib_or, ib_shopt (by omega) (by omega) hwi' hx]; simp
      · rw [if_neg (fun g => hi (by omega))]; simp [hi]
    constructor
    · intro ⟨hF, hB⟩
      refine ⟨fun i hi => by rw [← hFb i hi]; exact hF i hi, fun i i' h h' => ?_, ?_⟩
      · have := hB i i' h h'
        rw [hBb i i' h h', Bool.or_eq_false_iff] at this
        exact this.1
      · have := hB i0 i1 hlt hi1
        rw [hBb i0 i1 hlt hi1, Bool.or_eq_false_iff] at this
        have h2 := this.2
        cases hT : ib (M 4 k) (5 * i0 + w i0)
        · exact ⟨i0, by omega, hT⟩
        · refine ⟨i1, hi1, ?_⟩
          rw [hT] at h2
          simpa using h2
    · intro ⟨hF, hB, i, hi, he⟩
      refine ⟨fun j hj => by rw [hFb j hj]; exact hF j hj, fun j j' h h' => ?_⟩
      rw [hBb j j' h h', hB j j' h h', Bool.false_or]
      have hii : i = i0 ∨ i = i1 := by
        apply Classical.byContradiction
        intro hne
        rw [hasT_f (by omega) hx (hf i hi (fun e => hne (Or.inl e)) (fun e => hne (Or.inr e))) (w i) (hw i hi)] at he
        cases he
      rcases hii with rfl | rfl
      · rw [he]; simp
      · by_cases hj' : j' = i
        · subst hj'; rw [he]; simp
        · simp [hj']
