/-! PURE: what both sides see of a node while they write -/
theorem C_isJoin {n N k : Nat} {v : Nat → Nat} {M0 K0 M : Mem} (h : RF n N v M0 K0) (hq : ∀ q, 1 ≤ q → q ≤ 10 → M q = M0 q) (hk : k < N) : f_F_isJoin (nI k) M = some (bi (decide (M0 3 k = 4)), M) := by
  have hN := h.2.1
  rw [f_F_isJoin, F_hasNode_t hN (by rw [hq 1 (by omega) (by omega)]; exact h.2.2.2.2.1) hk, ob_s, if_neg (by decide), gd_nI (by omega) (by decide), nI_clamp (by omega), hq 3 (by omega) (by omega)]
  by_cases h4 : M0 3 k = 4
  · rw [if_pos h4, decide_eq_true h4]; rfl
  · rw [if_neg h4, decide_eq_false h4]; rfl
theorem C_isLeaf {n N k : Nat} {v : Nat → Nat} {M0 K0 M : Mem} (h : RF n N v M0 K0) (hq : ∀ q, 1 ≤ q → q ≤ 10 → M q = M0 q) (hk : k < N) : f_F_isLeaf (nI k) M = some (bi (!decide (M0 3 k = 4)), M) := by
  have hN := h.2.1
  rw [f_F_isLeaf, F_hasNode_t hN (by rw [hq 1 (by omega) (by omega)]; exact h.2.2.2.2.1) hk, ob_s, if_neg (by decide), gd_nI (by omega) (by decide), nI_clamp (by omega), hq 3 (by omega) (by omega)]
  by_cases h4 : M0 3 k = 4
  · rw [if_pos h4, decide_eq_true h4]; rfl
  · rw [if_neg h4, decide_eq_false h4]; rfl
theorem C_part {n N k : Nat} {v : Nat → Nat} {M0 K0 M : Mem} (h : RF n N v M0 K0) (hq : ∀ q, 1 ≤ q → q ≤ 10 → M q = M0 q) (hk : k < N) : f_F_leftPart (nI k) M = some (M0 9 k, M) ∧ f_F_rightPart (nI k) M = some (M0 10 k, M) := by
  have := F_part h.2.1 (show M 1 10 = nI N by rw [hq 1 (by omega) (by omega)]; exact h.2.2.2.2.1) hk
  rw [hq 9 (by omega) (by omega), hq 10 (by omega) (by omega)] at this
  exact this
theorem C_isSimple {n N k : Nat} {v : Nat → Nat} {M0 K0 M : Mem} (h : RF n N v M0 K0) (hq : ∀ q, 1 ≤ q → q ≤ 10 → M q = M0 q) (hk : k < N) : f_F_isSimple (nI k) M = some (bi (isS M0 k), M) := by
  have hN := h.2.1
  obtain ⟨p1, p2⟩ := C_part h hq hk
  rw [f_F_isSimple, p1, ob_s]
  by_cases h4 : M0 3 k = 4
  · obtain ⟨a1, a2, a3, a4, -, -⟩ := parts_of h hk h4
    rw [a3, C_isLeaf h hq (by omega), ob_s, isS, decide_eq_true h4, Bool.true_and]
    by_cases ha : M0 3 (pa M0 k) = 4
    · rw [decide_eq_true ha, if_pos (show bi (!true) = 0 from rfl)]; rfl
    · rw [decide_eq_false ha, if_neg (show ¬ bi (!false) = 0 by decide), p2, ob_s, a4, C_isLeaf h hq (by omega), ob_s]
      by_cases hb : M0 3 (pb M0 k) = 4
      · rw [decide_eq_true hb, if_pos (show bi (!true) = 0 from rfl)]; rfl
      · rw [decide_eq_false hb, if_neg (show ¬ bi (!false) = 0 by decide)]; rfl
  · obtain ⟨a3, -⟩ := leaf_parts h hk h4
    have h10 : M 1 10 = nI N := by rw [hq 1 (by omega) (by omega)]; exact h.2.2.2.2.1
    have e : f_F_isLeaf (-1 : Int32) M = some (0, M) := by rw [f_F_isLeaf, F_hasNode_f h10 (Or.inl (by decide)), ob_s, if_pos rfl]
    rw [a3, e, ob_s, if_pos rfl, isS, decide_eq_false h4, Bool.false_and]; rfl
theorem C_leafPart {n N k : Nat} {v : Nat → Nat} {M0 K0 M : Mem} (h : RF n N v M0 K0) (hq : ∀ q, 1 ≤ q → q ≤ 10 → M q = M0 q) (hk : k < N) (h4 : M0 3 k = 4) : f_F_leafPart (nI k) M = some (if M0 3 (pa M0 k) = 4 then (if M0 3 (pb M0 k) = 4 then (-1 : Int32) else nI (pb M0 k)) else nI (pa M0 k), M) := by
  have hN := h.2.1
  obtain ⟨p1, p2⟩ := C_part h hq hk
  obtain ⟨a1, a2, a3, a4, -, -⟩ := parts_of h hk h4
  rw [f_F_leafPart, p1, ob_s, p2, ob_s, a3, a4, C_isLeaf h hq (by omega), ob_s]
  by_cases ha : M0 3 (pa M0 k) = 4
  · rw [decide_eq_true ha, if_pos (show bi (!true) = 0 from rfl), C_isLeaf h hq (by omega), ob_s, if_pos ha]
    by_cases hb : M0 3 (pb M0 k) = 4
    · rw [decide_eq_true hb, if_pos (show bi (!true) = 0 from rfl), if_pos hb]
    · rw [decide_eq_false hb, if_neg (show ¬ bi (!false) = 0 by decide), if_neg hb]
  · rw [decide_eq_false ha, if_neg (show ¬ bi (!false) = 0 by decide), if_neg ha]
theorem C_joinPart {n N k : Nat} {v : Nat → Nat} {M0 K0 M : Mem} (h : RF n N v M0 K0) (hq : ∀ q, 1 ≤ q → q ≤ 10 → M q = M0 q) (hk : k < N) (h4 : M0 3 k = 4) : f_F_joinPart (nI k) M = some (if M0 3 (pa M0 k) = 4 then nI (pa M0 k) else (if M0 3 (pb M0 k) = 4 then nI (pb M0 k) else (-1 : Int32)), M) := by
  have hN := h.2.1
  obtain ⟨p1, p2⟩ := C_part h hq hk
  obtain ⟨a1, a2, a3, a4, -, -⟩ := parts_of h hk h4
  rw [f_F_joinPart, p1, ob_s, p2, ob_s, a3, a4, C_isJoin h hq (by omega), ob_s]
  by_cases ha : M0 3 (pa M0 k) = 4
  · rw [decide_eq_true ha, if_neg (show ¬ bi true = 0 by decide), if_pos ha]
  · rw [decide_eq_false ha, if_pos (show bi false = 0 from rfl), C_isJoin h hq (by omega), ob_s, if_neg ha]
    by_cases hb : M0 3 (pb M0 k) = 4
    · rw [decide_eq_true hb, if_neg (show ¬ bi true = 0 by decide), if_pos hb]
    · rw [decide_eq_false hb, if_pos (show bi false = 0 from rfl), if_neg hb]
theorem K_kind {n N k : Nat} {v : Nat → Nat} {M0 K0 K : Mem} (h : RF n N v M0 K0) (hq : ∀ q, 1 ≤ q → q ≤ 8 → K q = K0 q) (hk : k < N) : K 2 k = 4 ↔ M0 3 k = 4 := by
  rw [hq 2 (by omega) (by omega)]
  rcases kind_of h hk with ⟨e1, e2⟩ | ⟨d, -, -, -, e1, e2⟩
  · exact ⟨fun _ => e1, fun _ => e2⟩
  · exact ⟨fun e => absurd e e2, fun e => absurd e e1⟩
theorem K_isSimple {n N k : Nat} {v : Nat → Nat} {M0 K0 K : Mem} (h : RF n N v M0 K0) (hq : ∀ q, 1 ≤ q → q ≤ 8 → K q = K0 q) (hk : k < N) : f_K_isSimple (nI k) K = some (bi (isS M0 k), K) := by
  have hN := h.2.1
  have kk := K_kind h hq hk
  rw [f_K_isSimple, gd_nI (by omega) (by decide), nI_clamp (by omega), isS]
  by_cases h4 : M0 3 k = 4
  · obtain ⟨a1, a2, -, -, a3, a4⟩ := parts_of h hk h4
    have ka := K_kind h hq (show pa M0 k < N by omega)
    have kb := K_kind h hq (show pb M0 k < N by omega)
    rw [if_pos (kk.mpr h4), gd_nI (by omega) (by decide), hq 3 (by omega) (by omega), a3, gd_nI (by omega) (by decide), nI_clamp (by omega), decide_eq_true h4, Bool.true_and]
    by_cases ha : M0 3 (pa M0 k) = 4
    · rw [if_pos (ka.mpr ha), decide_eq_true ha]; rfl
    · rw [if_neg (fun e => ha (ka.mp e)), gd_nI (by omega) (by decide), hq 5 (by omega) (by omega), a4, gd_nI (by omega) (by decide), nI_clamp (by omega), decide_eq_false ha]
      by_cases hb : M0 3 (pb M0 k) = 4
      · rw [if_pos (kb.mpr hb), decide_eq_true hb]; rfl
      · rw [if_neg (fun e => hb (kb.mp e)), decide_eq_false hb]; rfl
  · rw [if_neg (fun e => h4 (kk.mp e)), decide_eq_false h4, Bool.false_and]; rfl
/-- the class at a leaf and a join -/
theorem C_mixed {n N x lf jn : Nat} {v num us : Nat → Nat} {M0 K0 M : Mem} (h : RF n N v M0 K0) (hq : ∀ q, 1 ≤ q → q ≤ 10 → M q = M0 q) (hn : ∀ k, k < 120 → M 13 k = nI (num k) ∧ num k < 1000) (hu : ∀ k, k < 120 → M 12 k = nI (us k) ∧ us k ≤ 240) (hj : jn < N) (hj4 : M0 3 jn = 4) : f_W_openOfLeafAndJoin (nI x) (nI lf) (nI jn) M =
    if num jn ≠ 0 then f_W_close (1 : Int32) (nI lf) (nI jn) (nI x) M else
    if us jn < 2 ∧ (decide (M0 3 (pa M0 jn) = 4) != decide (M0 3 (pb M0 jn) = 4)) = true ∧ num (jnp M0 jn) = 0 then om (f_W_await (2 : Int32) (nI x) (nI (lfp M0 jn)) (nI lf) M) fun M1 => om (f_W_await (0 : Int32) (nI (jnp M0 jn)) (-1 : Int32) (-1 : Int32) M1) fun M2 => some M2 else
    om (f_W_await (2 : Int32) (nI x) (nI lf) (-1 : Int32) M) fun M1 => om (f_W_await (0 : Int32) (nI jn) (-1 : Int32) (-1 : Int32) M1) fun M2 => some M2 := by
  have hN := h.2.1
  have h10 : M 1 10 = nI N := by rw [hq 1 (by omega) (by omega)]; exact h.2.2.2.2.1
  obtain ⟨a1, a2, -, -, -, -⟩ := parts_of h hj hj4
  have hnum := W_hasNumber (g := jn) hN h10 hj (hn jn (by omega)).1 (hn jn (by omega)).2
  have m1 : ∀ k, k < N → nI k ≠ -1 := fun k hk => nI_m1 (by omega)
  have e37 : ∀ (x4 x5 y0 : Int32), f_W_openOfLeafAndJoin_37 (nI x) (nI lf) (nI jn) x4 x5 y0 M = if num jn ≠ 0 then f_W_close (1 : Int32) (nI lf) (nI jn) (nI x) M else if y0 = 0 then f_W_openOfLeafAndJoin_101 (nI x) (nI lf) (nI jn) M else ob (f_W_isShared (nI jn) M) fun r65 M65 => if r65 = 0 then ob (f_W_hasNumber x5 M65) fun r74 M74 => if r74 = 0 then om (f_W_await (2 : Int32) (nI x) x4 (nI lf) M74) fun M86 => om (f_W_await (0 : Int32) x5 (-1 : Int32) (-1 : Int32) M86) fun M95 => some M95 else f_W_openOfLeafAndJoin_101 (nI x) (nI lf) (nI jn) M74 else f_W_openOfLeafAndJoin_101 (nI x) (nI lf) (nI jn) M65 := fun x4 x5 y0 => by
    rw [f_W_openOfLeafAndJoin_37, hnum, ob_s]
    by_cases h0 : num jn = 0
    · rw [decide_eq_true h0, if_pos (show bi (!true) = 0 from rfl), if_neg (show ¬ num jn ≠ 0 from fun e => e h0)]
    · rw [decide_eq_false h0, if_neg (show ¬ bi (!false) = 0 by decide), if_pos (show num jn ≠ 0 from h0), om_id]
  have plain : f_W_openOfLeafAndJoin_37 (nI x) (nI lf) (nI jn) (if M0 3 (pa M0 jn) = 4 then (if M0 3 (pb M0 jn) = 4 then (-1 : Int32) else nI (pb M0 jn)) else nI (pa M0 jn)) (if M0 3 (pa M0 jn) = 4 then nI (pa M0 jn) else (if M0 3 (pb M0 jn) = 4 then nI (pb M0 jn) else (-1 : Int32))) 0 M = if num jn ≠ 0 then f_W_close (1 : Int32) (nI lf) (nI jn) (nI x) M else f_W_openOfLeafAndJoin_101 (nI x) (nI lf) (nI jn) M := by
    rw [e37, if_pos (show (0 : Int32) = 0 from rfl)]
  rw [f_W_openOfLeafAndJoin, C_leafPart h hq hj hj4, ob_s, C_joinPart h hq hj hj4, ob_s, plain, e37, if_neg (show ¬ (1 : Int32) = 0 by decide)]
  have s101 : f_W_openOfLeafAndJoin_101 (nI x) (nI lf) (nI jn) M = om (f_W_await (2 : Int32) (nI x) (nI lf) (-1 : Int32) M) fun M1 => om (f_W_await (0 : Int32) (nI jn) (-1 : Int32) (-1 : Int32) M1) fun M2 => some M2 := rfl
  rw [s101]
  by_cases h0 : num jn = 0
  · rw [if_neg (show ¬ num jn ≠ 0 from fun e => e h0), if_neg (show ¬ num jn ≠ 0 from fun e => e h0), if_neg (show ¬ num jn ≠ 0 from fun e => e h0)]
    have sh := W_isShared (g := jn) hN h10 hj (hu jn (by omega)).1 (hu jn (by omega)).2
    have last : ∀ (z : Nat) (x4 : Int32), z < N → (ob (f_W_isShared (nI jn) M) fun r65 M65 => if r65 = 0 then ob (f_W_hasNumber (nI z) M65) fun r74 M74 => if r74 = 0 then om (f_W_await (2 : Int32) (nI x) x4 (nI lf) M74) fun M86 => om (f_W_await (0 : Int32) (nI z) (-1 : Int32) (-1 : Int32) M86) fun M95 => some M95 else f_W_openOfLeafAndJoin_101 (nI x) (nI lf) (nI jn) M74 else f_W_openOfLeafAndJoin_101 (nI x) (nI lf) (nI jn) M65) = if us jn < 2 ∧ num z = 0 then om (f_W_await (2 : Int32) (nI x) x4 (nI lf) M) fun M86 => om (f_W_await (0 : Int32) (nI z) (-1 : Int32) (-1 : Int32) M86) fun M95 => some M95 else f_W_openOfLeafAndJoin_101 (nI x) (nI lf) (nI jn) M := fun z x4 hz => by
      rw [sh, ob_s]
      by_cases h2 : 2 ≤ us jn
      · rw [decide_eq_true h2, if_neg (show ¬ bi true = 0 by decide), if_neg (fun e => absurd e.1 (by omega))]
      · rw [decide_eq_false h2, if_pos (show bi false = 0 from rfl), W_hasNumber (g := z) hN h10 hz (hn z (by omega)).1 (hn z (by omega)).2, ob_s]
        by_cases hz0 : num z = 0
        · rw [decide_eq_true hz0, if_pos (show bi (!true) = 0 from rfl), if_pos (show us jn < 2 ∧ num z = 0 from ⟨by omega, hz0⟩)]
        · rw [decide_eq_false hz0, if_neg (show ¬ bi (!false) = 0 by decide), if_neg (show ¬ (us jn < 2 ∧ num z = 0) from fun e => hz0 e.2)]
    by_cases ha : M0 3 (pa M0 jn) = 4
    · by_cases hb : M0 3 (pb M0 jn) = 4
      · simp only [if_pos ha, if_pos hb, decide_eq_true ha, decide_eq_true hb]
        rw [if_pos True.intro, if_neg (fun e => absurd e.2.1 (by decide))]
      · simp only [if_pos ha, if_neg hb, decide_eq_true ha, decide_eq_false hb, lfp, jnp]
        rw [if_neg (m1 _ (by omega)), if_neg (m1 _ (by omega)), last _ _ (by omega)]
        by_cases hc : us jn < 2 ∧ num (pa M0 jn) = 0
        · rw [if_pos hc, if_pos ⟨hc.1, rfl, hc.2⟩]
        · rw [if_neg hc, if_neg (fun e => hc ⟨e.1, e.2.2⟩), s101]
    · by_cases hb : M0 3 (pb M0 jn) = 4
      · simp only [if_neg ha, if_pos hb, decide_eq_false ha, decide_eq_true hb, lfp, jnp]
        rw [if_neg (m1 _ (by omega)), if_neg (m1 _ (by omega)), last _ _ (by omega)]
        by_cases hc : us jn < 2 ∧ num (pb M0 jn) = 0
        · rw [if_pos hc, if_pos ⟨hc.1, rfl, hc.2⟩]
        · rw [if_neg hc, if_neg (fun e => hc ⟨e.1, e.2.2⟩), s101]
      · simp only [if_neg ha, if_neg hb, decide_eq_false ha, decide_eq_false hb]
        rw [if_neg (m1 _ (by omega)), if_pos True.intro, if_neg (fun e => absurd e.2.1 (by decide))]
  · simp only [if_pos (show num jn ≠ 0 from h0), ite_self]
/-- the reference at a leaf and a join -/
theorem K_mixed {n N x lf jn : Nat} {v num us : Nat → Nat} {M0 K0 K : Mem} (h : RF n N v M0 K0) (hq : ∀ q, 1 ≤ q → q ≤ 8 → K q = K0 q) (hn : ∀ k, k < 120 → K 12 k = nI (num k) ∧ num k < 1000) (hu : ∀ k, k < 120 → K 13 k = nI (us k) ∧ us k ≤ 240) (hj : jn < N) (hj4 : M0 3 jn = 4) : f_K_startOne (nI x) (nI lf) (nI jn) K =
    if num jn ≠ 0 then f_K_endWith (0 : Int32) (nI lf) (nI jn) (nI x) K else
    if us jn < 2 ∧ (decide (M0 3 (pa M0 jn) = 4) != decide (M0 3 (pb M0 jn) = 4)) = true ∧ num (jnp M0 jn) = 0 then f_K_later (1 : Int32) (nI (lfp M0 jn)) (nI (jnp M0 jn)) K else f_K_later (2 : Int32) (nI lf) (nI jn) K := by
  have hN := h.2.1
  obtain ⟨a1, a2, -, -, a3, a4⟩ := parts_of h hj hj4
  have ka := K_kind h hq (show pa M0 jn < N by omega)
  have kb := K_kind h hq (show pb M0 jn < N by omega)
  have k3 : K 3 jn = nI (pa M0 jn) := by rw [hq 3 (by omega) (by omega)]; exact a3
  have k5 : K 5 jn = nI (pb M0 jn) := by rw [hq 5 (by omega) (by omega)]; exact a4
  obtain ⟨n1, n2⟩ := hn jn (by omega)
  obtain ⟨u1, u2⟩ := hu jn (by omega)
  have s145 : f_K_startOne_145 (nI lf) (nI jn) K = f_K_later (2 : Int32) (nI lf) (nI jn) K := by rw [f_K_startOne_145, om_id]
  have s104 : ∀ z : Int32, f_K_startOne_104 (nI lf) (nI jn) (nI (pa M0 jn)) (nI (pb M0 jn)) (0 : Int32) z K = f_K_later (2 : Int32) (nI lf) (nI jn) K := fun z => by rw [f_K_startOne_104, if_pos rfl, s145]
  have s84 : f_K_startOne_84 (nI lf) (nI jn) (nI (pa M0 jn)) (nI (pb M0 jn)) (0 : Int32) K = f_K_later (2 : Int32) (nI lf) (nI jn) K := by
    rw [f_K_startOne_84, gd_nI (by omega) (by decide), s104, s104]
    split <;> rfl
  rw [f_K_startOne, gd_nI (by omega) (by decide), nI_clamp (by omega), n1, k3, k5, u1]
  by_cases h0 : num jn = 0
  · rw [if_pos (show nI (num jn) ≤ 0 by rw [h0]; decide), if_neg (show ¬ num jn ≠ 0 from fun e => e h0), gd_nI (by omega) (by decide), gd_nI (by omega) (by decide), gd_nI (by omega) (by decide), s84]
    by_cases h2 : 2 ≤ us jn
    · rw [if_pos (show (2 : Int32) ≤ nI (us jn) from nI_le (a := 2) h2 (by omega)), if_neg (fun e => absurd e.1 (by omega))]
    · rw [if_neg (show ¬ (2 : Int32) ≤ nI (us jn) from nI_ge (b := 2) (by omega) (by decide)), gd_nI (by omega) (by decide), nI_clamp (by omega), f_K_startOne_60, f_K_startOne_60, gd_nI (by omega) (by decide), nI_clamp (by omega), s84, if_pos (show (1 : Int32) = 1 from rfl), if_pos (show (0 : Int32) = 0 from rfl), if_neg (show ¬ (0 : Int32) = 1 by decide), if_neg (show ¬ (1 : Int32) = 0 by decide), f_K_startOne_84, gd_nI (by omega) (by decide), nI_clamp (by omega), f_K_startOne_104, f_K_startOne_104, if_neg (show ¬ (1 : Int32) = 0 by decide), if_neg (show ¬ (1 : Int32) = 0 by decide), gd_nI (by omega) (by decide), gd_nI (by omega) (by decide), nI_clamp (by omega), nI_clamp (by omega), (hn (pa M0 jn) (by omega)).1, (hn (pb M0 jn) (by omega)).1, s145]
      have z0 : ∀ k, k < 120 → (nI (num k) = 0 ↔ num k = 0) := fun k hk => nI_eq0 (by have := (hn k hk).2; omega)
      by_cases ha : M0 3 (pa M0 jn) = 4
      · rw [if_pos (ka.mpr ha)]
        by_cases hb : M0 3 (pb M0 jn) = 4
        · rw [if_pos (kb.mpr hb), if_neg (fun e => absurd e.2.1 (by rw [decide_eq_true ha, decide_eq_true hb]; decide))]
        · rw [if_neg (fun e => hb (kb.mp e)), if_pos (ka.mpr ha), jnp, lfp, if_pos ha, if_pos ha]
          by_cases hz : num (pa M0 jn) = 0
          · rw [if_pos ((z0 _ (by omega)).mpr hz), if_pos rfl, if_pos ⟨by omega, by rw [decide_eq_true ha, decide_eq_false hb]; rfl, hz⟩, f_K_startOne_137, om_id]
          · rw [if_neg (fun e => hz ((z0 _ (by omega)).mp e)), if_neg (fun e => hz e.2.2)]
      · rw [if_neg (fun e => ha (ka.mp e))]
        by_cases hb : M0 3 (pb M0 jn) = 4
        · have hne : ¬ nI (pb M0 jn) = nI (pa M0 jn) := fun e => ha (by rw [← (nI_eq (by omega) (by omega)).mp e]; exact hb)
          rw [if_pos (kb.mpr hb), if_neg (fun e => ha (ka.mp e)), gd_nI (show pb M0 jn < 120 by omega) (by decide), jnp, lfp, if_neg ha, if_neg ha]
          by_cases hz : num (pb M0 jn) = 0
          · rw [if_pos ((z0 _ (by omega)).mpr hz), if_neg hne, if_pos ⟨by omega, by rw [decide_eq_false ha, decide_eq_true hb]; rfl, hz⟩, f_K_startOne_137, om_id]
          · rw [if_neg (fun e => hz ((z0 _ (by omega)).mp e)), if_neg (fun e => hz e.2.2)]
        · rw [if_neg (fun e => hb (kb.mp e)), if_neg (fun e => absurd e.2.1 (by rw [decide_eq_false ha, decide_eq_false hb]; decide)), gd_nI (show pb M0 jn < 120 by omega) (by decide)]
  · rw [if_neg (nI_nle (by omega) (by omega)), if_pos (show num jn ≠ 0 from h0), om_id]
