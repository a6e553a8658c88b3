/-! PURE: opening a join, going on with it -/
theorem C_two {n N x a b : Nat} {v num : Nat → Nat} {M0 K0 M : Mem} (h : RF n N v M0 K0) (hq : ∀ q, 1 ≤ q → q ≤ 10 → M q = M0 q) (hn : ∀ k, k < 120 → M 13 k = nI (num k) ∧ num k < 1000) (ha : a < N) (hb : b < N) : f_W_openOfJoins (nI x) (nI a) (nI b) M =
    if num a ≠ 0 ∧ num b ≠ 0 then f_W_close (1 : Int32) (nI a) (nI b) (nI x) M else
    if num a ≠ 0 then om (f_W_await (2 : Int32) (nI x) (nI a) (-1 : Int32) M) fun M1 => om (f_W_await (0 : Int32) (nI b) (-1 : Int32) (-1 : Int32) M1) fun M2 => some M2 else
    if num b ≠ 0 then om (f_W_await (2 : Int32) (nI x) (nI b) (-1 : Int32) M) fun M1 => om (f_W_await (0 : Int32) (nI a) (-1 : Int32) (-1 : Int32) M1) fun M2 => some M2 else
    if isS M0 a = true ∧ isS M0 b = false then om (f_W_await (1 : Int32) (nI x) (nI b) (nI a) M) fun M1 => om (f_W_await (0 : Int32) (nI b) (-1 : Int32) (-1 : Int32) M1) fun M2 => some M2 else
    om (f_W_await (1 : Int32) (nI x) (nI a) (nI b) M) fun M1 => om (f_W_await (0 : Int32) (nI a) (-1 : Int32) (-1 : Int32) M1) fun M2 => some M2 := by
  have hN := h.2.1
  have h10 : M 1 10 = nI N := by rw [hq 1 (by omega) (by omega)]; exact h.2.2.2.2.1
  have na := W_hasNumber (g := a) hN h10 ha (hn a (by omega)).1 (hn a (by omega)).2
  have nb := W_hasNumber (g := b) hN h10 hb (hn b (by omega)).1 (hn b (by omega)).2
  have sa := C_isSimple h hq ha
  have sb := C_isSimple h hq hb
  have s122 : f_W_openOfJoins_122 (nI x) (nI a) (nI b) M = om (f_W_await (1 : Int32) (nI x) (nI a) (nI b) M) fun M1 => om (f_W_await (0 : Int32) (nI a) (-1 : Int32) (-1 : Int32) M1) fun M2 => some M2 := rfl
  rw [f_W_openOfJoins, na, ob_s, nb, ob_s, om_id, f_W_openOfJoins_27, na, ob_s, nb, ob_s, sa, ob_s, sb, ob_s, s122]
  by_cases a0 : num a = 0
  · rw [decide_eq_true a0, if_pos (show bi (!true) = 0 from rfl), if_pos (show bi (!true) = 0 from rfl), if_neg (show ¬ (num a ≠ 0 ∧ num b ≠ 0) from fun e => e.1 a0), if_neg (show ¬ num a ≠ 0 from fun e => e a0)]
    by_cases b0 : num b = 0
    · rw [decide_eq_true b0, if_pos (show bi (!true) = 0 from rfl), if_neg (show ¬ num b ≠ 0 from fun e => e b0)]
      cases isS M0 a
      · rw [if_pos (show bi false = 0 from rfl), if_neg (show ¬ (false = true ∧ isS M0 b = false) from fun e => absurd e.1 (by decide))]
      · rw [if_neg (show ¬ bi true = 0 by decide)]
        cases isS M0 b
        · rw [if_pos (show bi false = 0 from rfl), if_pos ⟨rfl, rfl⟩]
        · rw [if_neg (show ¬ bi true = 0 by decide), if_neg (fun e => absurd e.2 (by decide))]
    · rw [decide_eq_false b0, if_neg (show ¬ bi (!false) = 0 by decide), if_pos (show num b ≠ 0 from b0)]
  · rw [decide_eq_false a0, if_neg (show ¬ bi (!false) = 0 by decide), if_neg (show ¬ bi (!false) = 0 by decide)]
    by_cases b0 : num b = 0
    · rw [decide_eq_true b0, if_pos (show bi (!true) = 0 from rfl), if_neg (show ¬ (num a ≠ 0 ∧ num b ≠ 0) from fun e => e.2 b0), if_pos (show num a ≠ 0 from a0)]
    · rw [decide_eq_false b0, if_neg (show ¬ bi (!false) = 0 by decide), if_pos (show num a ≠ 0 ∧ num b ≠ 0 from ⟨a0, b0⟩)]
theorem K_two {n N x a b : Nat} {v num : Nat → Nat} {M0 K0 K : Mem} (h : RF n N v M0 K0) (hq : ∀ q, 1 ≤ q → q ≤ 8 → K q = K0 q) (hn : ∀ k, k < 120 → K 12 k = nI (num k) ∧ num k < 1000) (ha : a < N) (hb : b < N) : f_K_startTwo (nI x) (nI a) (nI b) K =
    if num a ≠ 0 ∧ num b ≠ 0 then f_K_endWith (0 : Int32) (nI a) (nI b) (nI x) K else
    if num a ≠ 0 then f_K_later (2 : Int32) (nI a) (nI b) K else
    if num b ≠ 0 then f_K_later (2 : Int32) (nI b) (nI a) K else
    if isS M0 a = true ∧ isS M0 b = false then f_K_later (3 : Int32) (nI b) (nI b) K else f_K_later (3 : Int32) (nI a) (nI a) K := by
  have hN := h.2.1
  have sa := K_isSimple h hq ha
  have sb := K_isSimple h hq hb
  have le0 : ∀ k, k < 120 → num k = 0 → nI (num k) ≤ 0 := fun k _ e => by rw [e]; decide
  have nle0 : ∀ k, k < 120 → num k ≠ 0 → ¬ nI (num k) ≤ 0 := fun k hk e => nI_nle (by omega) (by have := (hn k hk).2; omega)
  have ha2 : a < 120 := by omega
  have hb2 : b < 120 := by omega
  rw [f_K_startTwo, gd_nI ha2 (by decide), gd_nI hb2 (by decide), nI_clamp (by omega), nI_clamp (by omega), (hn a ha2).1, (hn b hb2).1, om_id, f_K_startTwo_29, gd_nI ha2 (by decide), gd_nI hb2 (by decide), nI_clamp (by omega), nI_clamp (by omega), (hn a ha2).1, (hn b hb2).1, sb, ob_s, sa, ob_s, f_K_startTwo_93, om_id, om_id, om_id, om_id]
  by_cases a0 : num a = 0
  · rw [if_pos (le0 a ha2 a0), if_pos (le0 a ha2 a0), if_neg (show ¬ (num a ≠ 0 ∧ num b ≠ 0) from fun e => e.1 a0), if_neg (show ¬ num a ≠ 0 from fun e => e a0)]
    by_cases b0 : num b = 0
    · rw [if_pos (le0 b hb2 b0), if_neg (show ¬ num b ≠ 0 from fun e => e b0)]
      cases isS M0 b
      · rw [if_pos (show bi false = 0 from rfl)]
        cases isS M0 a
        · rw [if_pos (show bi false = 0 from rfl), if_neg (fun e => absurd e.1 (by decide))]
        · rw [if_neg (show ¬ bi true = 0 by decide), if_pos ⟨rfl, rfl⟩]
      · rw [if_neg (show ¬ bi true = 0 by decide), if_neg (show ¬ (isS M0 a = true ∧ true = false) from fun e => absurd e.2 (by decide))]
    · rw [if_neg (nle0 b hb2 b0), if_pos (show num b ≠ 0 from b0)]
  · rw [if_neg (nle0 a ha2 a0), if_neg (nle0 a ha2 a0)]
    by_cases b0 : num b = 0
    · rw [if_pos (le0 b hb2 b0), if_neg (show ¬ (num a ≠ 0 ∧ num b ≠ 0) from fun e => e.2 b0), if_pos (show num a ≠ 0 from a0)]
    · rw [if_neg (nle0 b hb2 b0), if_pos (show num a ≠ 0 ∧ num b ≠ 0 from ⟨a0, b0⟩)]
theorem C_open {n N x : Nat} {v : Nat → Nat} {M0 K0 M : Mem} (h : RF n N v M0 K0) (hq : ∀ q, 1 ≤ q → q ≤ 10 → M q = M0 q) (hx : x < N) (hx4 : M0 3 x = 4) : f_W_open (nI x) M =
    if M0 3 (pa M0 x) = 4 then (if M0 3 (pb M0 x) = 4 then f_W_openOfJoins (nI x) (nI (pa M0 x)) (nI (pb M0 x)) M else f_W_openOfLeafAndJoin (nI x) (nI (pb M0 x)) (nI (pa M0 x)) M) else
    (if M0 3 (pb M0 x) = 4 then f_W_openOfLeafAndJoin (nI x) (nI (pa M0 x)) (nI (pb M0 x)) M else f_W_close (1 : Int32) (nI (pa M0 x)) (nI (pb M0 x)) (nI x) M) := by
  have hN := h.2.1
  obtain ⟨a1, a2, a3, a4, -, -⟩ := parts_of h hx hx4
  obtain ⟨p1, p2⟩ := C_part h hq hx
  have ja := C_isJoin h hq (show pa M0 x < N by omega)
  have jb := C_isJoin h hq (show pb M0 x < N by omega)
  rw [f_W_open, p1, ob_s, p2, ob_s, C_isJoin h hq hx, ob_s, decide_eq_true hx4, if_neg (show ¬ bi true = 0 by decide), a3, a4, ja, ob_s, jb, ob_s, om_id, f_W_open_72, ja, ob_s, jb, ob_s, om_id, om_id, om_id]
  by_cases h1 : M0 3 (pa M0 x) = 4
  · rw [decide_eq_true h1, if_neg (show ¬ bi true = 0 by decide), if_neg (show ¬ bi true = 0 by decide), if_pos h1]
    by_cases h2 : M0 3 (pb M0 x) = 4
    · rw [decide_eq_true h2, if_neg (show ¬ bi true = 0 by decide), if_pos h2]
    · rw [decide_eq_false h2, if_pos (show bi false = 0 from rfl), if_neg h2]
  · rw [decide_eq_false h1, if_pos (show bi false = 0 from rfl), if_pos (show bi false = 0 from rfl), if_neg h1]
    by_cases h2 : M0 3 (pb M0 x) = 4
    · rw [decide_eq_true h2, if_neg (show ¬ bi true = 0 by decide), if_pos h2]
    · rw [decide_eq_false h2, if_pos (show bi false = 0 from rfl), if_neg h2]
theorem K_go0 {n N x L : Nat} {v : Nat → Nat} {M0 K0 K : Mem} (h : RF n N v M0 K0) (hq : ∀ q, 1 ≤ q → q ≤ 8 → K q = K0 q) (hx : x < N) (hx4 : M0 3 x = 4) (h23 : K 0 23 = nI (L + 1)) (hL : L < 130) (h15 : K 15 L = nI x) (h16 : K 16 L = 0) (h12 : K 12 x = nI 0) : f_K_go K =
    if M0 3 (pa M0 x) = 4 then (if M0 3 (pb M0 x) = 4 then f_K_startTwo (nI x) (nI (pa M0 x)) (nI (pb M0 x)) K else f_K_startOne (nI x) (nI (pb M0 x)) (nI (pa M0 x)) K) else
    (if M0 3 (pb M0 x) = 4 then f_K_startOne (nI x) (nI (pa M0 x)) (nI (pb M0 x)) K else f_K_endWith (0 : Int32) (nI (pa M0 x)) (nI (pb M0 x)) (nI x) K) := by
  have hN := h.2.1
  obtain ⟨a1, a2, -, -, a3, a4⟩ := parts_of h hx hx4
  have ka := K_kind h hq (show pa M0 x < N by omega)
  have kb := K_kind h hq (show pb M0 x < N by omega)
  have k3 : K 3 x = nI (pa M0 x) := by rw [hq 3 (by omega) (by omega)]; exact a3
  have k5 : K 5 x = nI (pb M0 x) := by rw [hq 5 (by omega) (by omega)]; exact a4
  have hp : nI (L + 1) - 1 = nI L := nI_pred L
  have la : pa M0 x < 120 := by omega
  have lb : pb M0 x < 120 := by omega
  have g112 : f_K_go_112 (nI x) (nI (pa M0 x)) (nI (pb M0 x)) K = if M0 3 (pa M0 x) = 4 then f_K_startOne (nI x) (nI (pb M0 x)) (nI (pa M0 x)) K else (if M0 3 (pb M0 x) = 4 then f_K_startOne (nI x) (nI (pa M0 x)) (nI (pb M0 x)) K else f_K_endWith (0 : Int32) (nI (pa M0 x)) (nI (pb M0 x)) (nI x) K) := by
    rw [f_K_go_112, gd_nI la (by decide), gd_nI lb (by decide), nI_clamp (by omega), nI_clamp (by omega), om_id, f_K_go_134, gd_nI la (by decide), nI_clamp (by omega), f_K_go_154, f_K_go_154, gd_nI la (by decide), gd_nI la (by decide), nI_clamp (by omega), f_K_go_172, f_K_go_172, f_K_go_172, f_K_go_172, om_id, om_id, om_id, om_id]
    by_cases h1 : M0 3 (pa M0 x) = 4
    · rw [if_pos (ka.mpr h1), if_pos (ka.mpr h1), if_pos (ka.mpr h1), if_pos h1]
    · rw [if_neg (fun e => h1 (ka.mp e)), if_neg (fun e => h1 (ka.mp e)), if_neg (fun e => h1 (ka.mp e)), if_neg h1]
      by_cases h2 : M0 3 (pb M0 x) = 4
      · rw [if_pos (kb.mpr h2), if_pos h2]
      · rw [if_neg (fun e => h2 (kb.mp e)), if_neg h2]
  rw [f_K_go]
  simp only [h23, hp, nI_clamp (show L < 2 ^ 31 by omega), gd_nI hL (show 130 < 2 ^ 31 by decide), h15, h16, nI_clamp (show x < 2 ^ 31 by omega), gd_nI (show x < 120 by omega) (show 120 < 2 ^ 31 by decide), k3, k5, nI_clamp (show pa M0 x < 2 ^ 31 by omega), nI_clamp (show pb M0 x < 2 ^ 31 by omega), gd_nI la (show 120 < 2 ^ 31 by decide), gd_nI lb (show 120 < 2 ^ 31 by decide), h12]
  rw [if_pos True.intro, if_pos (show nI 0 ≤ (0 : Int32) by decide), om_id, g112]
  by_cases h1 : M0 3 (pa M0 x) = 4
  · rw [if_pos (ka.mpr h1), if_pos h1, if_pos h1]
    by_cases h2 : M0 3 (pb M0 x) = 4
    · rw [if_pos (kb.mpr h2), if_pos h2]
    · rw [if_neg (fun e => h2 (kb.mp e)), if_neg h2]
  · rw [if_neg (fun e => h1 (ka.mp e)), if_neg h1, if_neg h1]
theorem K_go1 {n N x L k s : Nat} {v : Nat → Nat} {M0 K0 K : Mem} (h : RF n N v M0 K0) (hq : ∀ q, 1 ≤ q → q ≤ 8 → K q = K0 q) (hx : x < N) (hx4 : M0 3 x = 4) (h23 : K 0 23 = nI (L + 1)) (hL : L < 130) (h15 : K 15 L = nI x) (h16 : K 16 L = nI s) (hs : 1 ≤ s ∧ s ≤ 4) (h17 : K 17 L = nI k) (hk : k < N) : f_K_go K =
    if s = 1 then f_K_endWith (1 : Int32) (nI k) (nI (lfp M0 x)) (nI x) K else
    if s = 2 then f_K_endWith (1 : Int32) (nI k) (-1 : Int32) (nI x) K else
    if s = 3 then f_K_goOn (nI x) (nI k) (nI (oth M0 x k)) K else
    if (isS M0 (pa M0 x) || isS M0 (pb M0 x)) = true then om (f_K_thus (nI x) K) fun M287 => f_K_go_301 (nI x) M287 else f_K_endWith (1 : Int32) (nI k) (-1 : Int32) (nI x) K := by
  have hN := h.2.1
  obtain ⟨a1, a2, -, -, a3, a4⟩ := parts_of h hx hx4
  have ka := K_kind h hq (show pa M0 x < N by omega)
  have k3 : K 3 x = nI (pa M0 x) := by rw [hq 3 (by omega) (by omega)]; exact a3
  have k5 : K 5 x = nI (pb M0 x) := by rw [hq 5 (by omega) (by omega)]; exact a4
  have hp : nI (L + 1) - 1 = nI L := nI_pred L
  have la : pa M0 x < 120 := by omega
  have lb : pb M0 x < 120 := by omega
  have sa := K_isSimple h hq (show pa M0 x < N by omega)
  have sb := K_isSimple h hq (show pb M0 x < N by omega)
  have c0 : ¬ nI s = 0 := fun e => absurd ((nI_eq0 (by omega)).mp e) (by omega)
  have c1 : nI s = 1 ↔ s = 1 := nI_eq (b := 1) (by omega) (by decide)
  have c2 : nI s = 2 ↔ s = 2 := nI_eq (b := 2) (by omega) (by decide)
  have c3 : nI s = 3 ↔ s = 3 := nI_eq (b := 3) (by omega) (by decide)
  rw [f_K_go]
  simp only [h23, hp, nI_clamp (show L < 2 ^ 31 by omega), gd_nI hL (show 130 < 2 ^ 31 by decide), h15, h16, h17, nI_clamp (show x < 2 ^ 31 by omega), gd_nI (show x < 120 by omega) (show 120 < 2 ^ 31 by decide), k3, k5, nI_clamp (show pa M0 x < 2 ^ 31 by omega), nI_clamp (show pb M0 x < 2 ^ 31 by omega), gd_nI la (show 120 < 2 ^ 31 by decide), gd_nI lb (show 120 < 2 ^ 31 by decide)]
  rw [if_neg c0]
  by_cases s1 : s = 1
  · rw [if_pos (c1.mpr s1), if_pos s1, f_K_go_217, f_K_go_217, om_id, om_id, lfp]
    by_cases h1 : M0 3 (pa M0 x) = 4
    · rw [if_pos (ka.mpr h1), if_pos h1]
    · rw [if_neg (fun e => h1 (ka.mp e)), if_neg h1]
  · rw [if_neg (fun e => s1 (c1.mp e)), if_neg s1]
    by_cases s2 : s = 2
    · rw [if_pos (c2.mpr s2), if_pos s2, om_id]
    · rw [if_neg (fun e => s2 (c2.mp e)), if_neg s2]
      by_cases s3 : s = 3
      · rw [if_pos (c3.mpr s3), if_pos s3, f_K_go_261, f_K_go_261, om_id, om_id, oth]
        by_cases hak : pa M0 x = k
        · rw [if_pos (show nI (pa M0 x) = nI k by rw [hak]), if_pos hak]
        · rw [if_neg (fun e => hak ((nI_eq (by omega) (by omega)).mp e)), if_neg hak]
      · rw [if_neg (fun e => s3 (c3.mp e)), if_neg s3, sa, ob_s, sb, ob_s]
        have e285 : f_K_go_285 (nI x) K = om (f_K_thus (nI x) K) fun M287 => f_K_go_301 (nI x) M287 := rfl
        have eE : (om (f_K_because (1 : Int32) (nI k) (-1 : Int32) (nI x) K) fun M298 => f_K_go_301 (nI x) M298) = f_K_endWith (1 : Int32) (nI k) (-1 : Int32) (nI x) K := rfl
        rw [e285, eE]
        cases isS M0 (pa M0 x)
        · rw [if_pos (show bi false = 0 from rfl), Bool.false_or]
          cases isS M0 (pb M0 x)
          · rw [if_pos (show bi false = 0 from rfl), if_neg (by decide)]
          · rw [if_neg (show ¬ bi true = 0 by decide), if_pos rfl]
        · rw [if_neg (show ¬ bi true = 0 by decide), Bool.true_or, if_pos rfl]
theorem C_47 {n N x k o : Nat} {y : Bool} {v num : Nat → Nat} {M0 K0 M : Mem} (h : RF n N v M0 K0) (hq : ∀ q, 1 ≤ q → q ≤ 10 → M q = M0 q) (hn : ∀ k, k < 120 → M 13 k = nI (num k) ∧ num k < 1000) (ho : o < N) : f_W_goOn_47 (nI x) (nI k) (nI o) (bi y) M =
    if num o ≠ 0 then f_W_close (2 : Int32) (nI o) (-1 : Int32) (nI x) M else
    om (f_W_await (2 : Int32) (nI x) (if y then (-1 : Int32) else nI k) (-1 : Int32) M) fun M1 => om (f_W_await (0 : Int32) (nI o) (-1 : Int32) (-1 : Int32) M1) fun M2 => some M2 := by
  have hN := h.2.1
  have h10 : M 1 10 = nI N := by rw [hq 1 (by omega) (by omega)]; exact h.2.2.2.2.1
  have no := W_hasNumber (g := o) hN h10 ho (hn o (by omega)).1 (hn o (by omega)).2
  rw [f_W_goOn_47, no, ob_s, om_id, f_W_goOn_79, f_W_goOn_79]
  by_cases o0 : num o = 0
  · rw [decide_eq_true o0, if_pos (show bi (!true) = 0 from rfl), if_neg (show ¬ num o ≠ 0 from fun e => e o0)]
    cases y
    · rw [if_pos (show bi false = 0 from rfl), if_neg (by decide)]
    · rw [if_neg (show ¬ bi true = 0 by decide), if_pos rfl]
  · rw [decide_eq_false o0, if_neg (show ¬ bi (!false) = 0 by decide), if_pos (show num o ≠ 0 from o0)]
theorem C_goOn {n N x k o : Nat} {v num : Nat → Nat} {M0 K0 M : Mem} (h : RF n N v M0 K0) (hq : ∀ q, 1 ≤ q → q ≤ 10 → M q = M0 q) (hn : ∀ k, k < 120 → M 13 k = nI (num k) ∧ num k < 1000) (hk : k < N) (ho : o < N) : f_W_goOn (nI x) (nI k) (nI o) M =
    if (isS M0 k || isS M0 o) = false ∧ num k = 0 then om (f_W_giveNumber (nI k) M) fun M44 => f_W_goOn_47 (nI x) (nI k) (nI o) (bi (isS M0 k || isS M0 o)) M44 else f_W_goOn_47 (nI x) (nI k) (nI o) (bi (isS M0 k || isS M0 o)) M := by
  have hN := h.2.1
  have h10 : M 1 10 = nI N := by rw [hq 1 (by omega) (by omega)]; exact h.2.2.2.2.1
  have nk := W_hasNumber (g := k) hN h10 hk (hn k (by omega)).1 (hn k (by omega)).2
  rw [f_W_goOn, C_isSimple h hq hk, ob_s, C_isSimple h hq ho, ob_s, f_W_goOn_27, f_W_goOn_27, nk, ob_s, if_pos (show (0 : Int32) = 0 from rfl), if_neg (show ¬ (1 : Int32) = 0 by decide)]
  cases isS M0 k
  · rw [if_pos (show bi false = 0 from rfl), Bool.false_or]
    cases isS M0 o
    · rw [if_pos (show bi false = 0 from rfl)]
      by_cases k0 : num k = 0
      · rw [decide_eq_true k0, if_pos (show bi (!true) = 0 from rfl), if_pos (show false = false ∧ num k = 0 from ⟨rfl, k0⟩)]; rfl
      · rw [decide_eq_false k0, if_neg (show ¬ bi (!false) = 0 by decide), if_neg (show ¬ (false = false ∧ num k = 0) from fun e => k0 e.2)]; rfl
    · rw [if_neg (show ¬ bi true = 0 by decide), if_neg (show ¬ (true = false ∧ num k = 0) from fun e => absurd e.1 (by decide))]; rfl
  · rw [if_neg (show ¬ bi true = 0 by decide), Bool.true_or, if_neg (show ¬ (true = false ∧ num k = 0) from fun e => absurd e.1 (by decide))]; rfl
theorem K_21 {n N x k o : Nat} {v num : Nat → Nat} {M0 K0 K : Mem} (h : RF n N v M0 K0) (hn : ∀ k, k < 120 → K 12 k = nI (num k) ∧ num k < 1000) (ho : o < N) : f_K_goOn_21 (nI x) (nI k) (nI o) K = if num o ≠ 0 then f_K_endWith (1 : Int32) (nI o) (-1 : Int32) (nI x) K else f_K_later (4 : Int32) (nI k) (nI o) K := by
  have hN := h.2.1
  have ho2 : o < 120 := by omega
  rw [f_K_goOn_21, gd_nI ho2 (by decide), nI_clamp (by omega), (hn o ho2).1, om_id, om_id]
  by_cases o0 : num o = 0
  · rw [if_pos (show nI (num o) ≤ 0 by rw [o0]; decide), if_neg (show ¬ num o ≠ 0 from fun e => e o0)]
  · rw [if_neg (nI_nle (by omega) (by have := (hn o ho2).2; omega)), if_pos (show num o ≠ 0 from o0)]
theorem K_goOn {n N x k o : Nat} {v : Nat → Nat} {M0 K0 K : Mem} (h : RF n N v M0 K0) (hq : ∀ q, 1 ≤ q → q ≤ 8 → K q = K0 q) (hk : k < N) (ho : o < N) : f_K_goOn (nI x) (nI k) (nI o) K = if (isS M0 k || isS M0 o) = false then om (f_K_give (nI k) K) fun M18 => f_K_goOn_21 (nI x) (nI k) (nI o) M18 else f_K_goOn_21 (nI x) (nI k) (nI o) K := by
  rw [f_K_goOn, K_isSimple h hq hk, ob_s, K_isSimple h hq ho, ob_s]
  cases isS M0 k
  · rw [if_pos (show bi false = 0 from rfl), Bool.false_or]
    cases isS M0 o
    · rw [if_pos (show bi false = 0 from rfl), if_pos rfl]
    · rw [if_neg (show ¬ bi true = 0 by decide), if_neg (by decide)]
  · rw [if_neg (show ¬ bi true = 0 by decide), Bool.true_or, if_neg (by decide)]
