def okW (n N : Nat) (M : Mem) (act : Nat → Prop) (u : Nat → Nat) : Prop := ∀ k, k < N → M 3 k ≠ 4 → act k → kept n (M 4 k) (fun i => ow (u i))
theorem K_can31 {n N : Nat} {v u : Nat → Nat} {M K : Mem} {x1 : Int32} {k22 : Int32 → Int32 → Mem → Option (Int32 × Mem)} (h : RF n N v M K) (hu : ∀ i, i < n → u i ≤ v i ∧ K 18 i = nI (u i) - 1) :
    ∃ g : Bool, f_K_can_31 k22 100000 x1 1 0 K = f_K_can_92 k22 x1 (bi g) K ∧ (g = true ↔ okW n N M (fun k => K 19 k = 0 ∧ nI k ≠ x1) u) := by
  obtain ⟨h1, h2, h3, h4, h5, h6, h7, h8⟩ := id h
  have loop : ∀ (c k m : Nat) (z : Bool), k + c = N → c < m → (z = true ↔ okW n k M (fun k => K 19 k = 0 ∧ nI k ≠ x1) u) → ∃ g : Bool, f_K_can_31 k22 m x1 (bi z) (nI k) K = f_K_can_92 k22 x1 (bi g) K ∧ (g = true ↔ okW n N M (fun k => K 19 k = 0 ∧ nI k ≠ x1) u) := by
    intro c
    induction c with
    | zero =>
      intro k m z hk hm hz
      obtain ⟨m, rfl⟩ : ∃ m', m = m' + 1 := ⟨m - 1, by omega⟩
      have : k = N := by omega
      subst this
      exact ⟨z, by rw [f_K_can_31, h6, if_pos (nI_le (Nat.le_refl _) (by omega))], hz⟩
    | succ c ih =>
      intro k m z hk hm hz
      obtain ⟨m, rfl⟩ : ∃ m', m = m' + 1 := ⟨m - 1, by omega⟩
      have hkN : k < N := by omega
      have hR := h8 k hkN
      obtain ⟨d, hd, hd3, hk2, -⟩ := id hR
      rw [f_K_can_31, h6, if_neg (nI_ge hkN (by omega)), nI_1]
      cases z
      · refine ⟨false, by rw [if_pos (by rfl)], ?_⟩
        constructor
        · intro e; cases e
        · intro e
          exact hz.mpr (fun j hj => e j (by omega))
      · have hz' := hz.mp rfl
        rw [if_neg (by decide), gd_nI (by omega) (by decide), gd_nI (by omega) (by decide), nI_clamp (by omega), hk2]
        have next : (M 3 k ≠ 4 → (K 19 k = 0 ∧ nI k ≠ x1) → kept n (M 4 k) (fun i => ow (u i))) → (true = true ↔ okW n (k + 1) M (fun k => K 19 k = 0 ∧ nI k ≠ x1) u) := fun hx => ⟨fun _ j hj => by
          by_cases hjk : j = k
          · subst hjk; exact hx
          · exact hz' j (by omega), fun _ => rfl⟩
        have d4 : nI d = 4 ↔ d = 4 := nI_eq (b := 4) (by omega) (by decide)
        by_cases hd4 : d = 4
        · rw [if_pos (d4.mpr hd4)]
          exact ih (k + 1) m true (by omega) (by omega) (next (fun e => absurd (hd3.trans (d4.mpr hd4)) e))
        · rw [if_neg (fun e => hd4 (d4.mp e))]
          by_cases ha : K 19 k = 0
          · rw [if_pos ha]
            by_cases hx : nI k = x1
            · rw [if_pos hx]
              exact ih (k + 1) m true (by omega) (by omega) (next (fun _ e => absurd hx e.2))
            · rw [if_neg hx]
              obtain ⟨z, z1, z2⟩ := K_isKept hR h1 h4 (by omega) (fun i hi => (h7 i hi).1) hu
              rw [z1, ob_s]
              cases z
              · rw [if_pos (by rfl)]
                refine ih (k + 1) m false (by omega) (by omega) ⟨fun e => (by cases e), fun e => ?_⟩
                exact z2.mpr (e k (by omega) (by rw [hd3]; exact fun e => hd4 (d4.mp e)) ⟨ha, hx⟩)
              · rw [if_neg (by decide)]
                exact ih (k + 1) m true (by omega) (by omega) (next (fun _ _ => z2.mp rfl))
          · rw [if_neg ha]
            exact ih (k + 1) m true (by omega) (by omega) (next (fun _ e => absurd e.1 ha))
  exact loop N 0 100000 true (by omega) (by omega) ⟨fun _ j hj => (by omega), fun _ => rfl⟩
theorem K_can {n N : Nat} {v : Nat → Nat} {M K : Mem} (h : RF n N v M K) (x1 : Int32) : ∃ (z : Bool) (K' : Mem), f_K_can x1 K = some (bi z, K') ∧ (∀ q, q ≠ 18 → K' q = K q) ∧ (z = true ↔ Solv n N v M (fun k => K 19 k = 0 ∧ nI k ≠ x1)) := by
  obtain ⟨h1, h2, h3, h4, h5, h6, h7, h8⟩ := id h
  have hsolv : Solv n N v M (fun k => K 19 k = 0 ∧ nI k ≠ x1) ↔ ∃ c, c < tot v n ∧ okW n N M (fun k => K 19 k = 0 ∧ nI k ≠ x1) (dg v n c) := by
    constructor
    · intro ⟨w, w1, w2⟩
      have ho : ∀ i, i < n → ow (if w i = 4 then 0 else w i + 1) = w i := fun i hi => by
        unfold ow
        by_cases h4 : w i = 4
        · rw [if_pos h4, if_pos rfl, h4]
        · rw [if_neg h4, if_neg (by omega)]; omega
      obtain ⟨c, c1, c2⟩ := dg_of (v := v) n (fun i => if w i = 4 then 0 else w i + 1) (fun i hi => by
        have := w1 i hi
        show (if w i = 4 then 0 else w i + 1) ≤ v i
        split <;> omega)
      refine ⟨c, c1, fun k hk hk4 ha => ?_⟩
      obtain ⟨i, i1, i2⟩ := w2 k hk hk4 ha
      refine ⟨i, i1, ?_⟩
      show ib (M 4 k) (5 * i + ow (dg v n c i)) = false
      rw [c2 i i1, ho i i1]
      exact i2
    · intro ⟨c, c1, c2⟩
      refine ⟨fun i => ow (dg v n c i), fun i hi => ?_, c2⟩
      have := dg_le (v := v) n c i hi
      show ow (dg v n c i) < v i ∨ ow (dg v n c i) = 4
      unfold ow
      split <;> omega
  have htot := tot_le (v := v) n h1 (fun i hi => (h7 i hi).1)
  have h5n : 5 ^ n ≤ 5 ^ 5 := Nat.pow_le_pow_right (by decide) h1
  have h55 : 5 ^ 5 = 3125 := by decide
  have loop : ∀ (r c f : Nat) (K1 : Mem), c + r + 1 = tot v n → r + 2 ≤ f → (∀ q, q ≠ 18 → K1 q = K q) → (∀ i, i < n → K1 18 i = nI (dg v n c i) - 1) → (∀ c', c' < c → ¬ okW n N M (fun k => K 19 k = 0 ∧ nI k ≠ x1) (dg v n c')) →
      ∃ (z : Bool) (K' : Mem), f_K_can_22 f x1 1 K1 = some (bi z, K') ∧ (∀ q, q ≠ 18 → K' q = K q) ∧ (z = true ↔ ∃ c, c < tot v n ∧ okW n N M (fun k => K 19 k = 0 ∧ nI k ≠ x1) (dg v n c)) := by
    intro r
    induction r with
    | zero =>
      intro c f K1 hc hf hq hw hno
      obtain ⟨f, rfl⟩ : ∃ m', f = m' + 2 := ⟨f - 2, by omega⟩
      have hR1 : RF n N v M K1 := RF_keep h (fun _ _ _ => rfl) (fun q _ _ => hq q (by omega)) (by rw [hq 0 (by decide)]) (by rw [hq 0 (by decide)])
      obtain ⟨g, g1, g2⟩ := K_can31 (u := dg v n c) (x1 := x1) (k22 := f_K_can_22 (f + 1)) hR1 (fun i hi => ⟨dg_le n c i hi, hw i hi⟩)
      rw [hq 19 (by decide)] at g2
      rw [f_K_can_22, if_neg (by decide), g1, f_K_can_92]
      cases g
      · rw [if_pos (by rfl), f_K_advance, hq 0 (by decide), h4]
        obtain ⟨K', a1, a2, a3, a4⟩ := K_advance (v := v) (K := K) n c 100000 K1 h1 (by omega) (by omega) (fun i hi => ⟨(h7 i hi).1, by rw [hq 1 (by decide)]; exact (h7 i hi).2.2, hw i hi⟩) hq
        rw [a1, ob_s, decide_eq_false (by omega), f_K_can_22, if_pos (by rfl)]
        refine ⟨false, K', rfl, a2, ⟨fun e => (by cases e), fun ⟨c', e1, e2⟩ => ?_⟩⟩
        by_cases hcc : c' = c
        · subst hcc; exact g2.mpr e2
        · exact absurd e2 (hno c' (by omega))
      · rw [if_neg (by decide)]
        exact ⟨true, K1, rfl, hq, ⟨fun _ => ⟨c, by omega, g2.mp rfl⟩, fun _ => rfl⟩⟩
    | succ r ih =>
      intro c f K1 hc hf hq hw hno
      obtain ⟨f, rfl⟩ : ∃ m', f = m' + 1 := ⟨f - 1, by omega⟩
      have hR1 : RF n N v M K1 := RF_keep h (fun _ _ _ => rfl) (fun q _ _ => hq q (by omega)) (by rw [hq 0 (by decide)]) (by rw [hq 0 (by decide)])
      obtain ⟨g, g1, g2⟩ := K_can31 (u := dg v n c) (x1 := x1) (k22 := f_K_can_22 f) hR1 (fun i hi => ⟨dg_le n c i hi, hw i hi⟩)
      rw [hq 19 (by decide)] at g2
      rw [f_K_can_22, if_neg (by decide), g1, f_K_can_92]
      cases g
      · rw [if_pos (by rfl), f_K_advance, hq 0 (by decide), h4]
        obtain ⟨K', a1, a2, a3, a4⟩ := K_advance (v := v) (K := K) n c 100000 K1 h1 (by omega) (by omega) (fun i hi => ⟨(h7 i hi).1, by rw [hq 1 (by decide)]; exact (h7 i hi).2.2, hw i hi⟩) hq
        rw [a1, ob_s, decide_eq_true (by omega)]
        refine ih (c + 1) f K' (by omega) (by omega) a2 (a4 (by omega)) (fun c' hc' => ?_)
        by_cases hcc : c' = c
        · subst hcc
          intro e
          cases g2.mpr e
        · exact hno c' (by omega)
      · rw [if_neg (by decide)]
        exact ⟨true, K1, rfl, hq, ⟨fun _ => ⟨c, by omega, g2.mp rfl⟩, fun _ => rfl⟩⟩
  have start : ∀ (c i f : Nat) (K1 : Mem), i + c = 5 → c < f → (∀ q, q ≠ 18 → K1 q = K q) → (∀ j, j < i → K1 18 j = -1) → ∃ K2 : Mem, f_K_can_2 f x1 (nI i) K1 = f_K_can_22 100000 x1 1 K2 ∧ (∀ q, q ≠ 18 → K2 q = K q) ∧ ∀ j, j < 5 → K2 18 j = -1 := by
    intro c
    induction c with
    | zero =>
      intro i f K1 hi hf hq hw
      obtain ⟨f, rfl⟩ : ∃ m', f = m' + 1 := ⟨f - 1, by omega⟩
      have : i = 5 := by omega
      subst this
      exact ⟨K1, by rw [f_K_can_2, if_pos (by decide)], hq, hw⟩
    | succ c ih =>
      intro i f K1 hi hf hq hw
      obtain ⟨f, rfl⟩ : ∃ m', f = m' + 1 := ⟨f - 1, by omega⟩
      rw [f_K_can_2, if_neg (show ¬ (5 : Int32) ≤ nI i from nI_ge (b := 5) (by omega) (by decide)), gd_nI (by omega) (by decide), nI_1, nI_clamp (by omega)]
      refine ih (i + 1) f _ (by omega) (by omega) (fun q hqq => by rw [ms_q hqq, hq q hqq]) (fun j hj => ?_)
      by_cases hji : j = i
      · subst hji; exact ms_s _ _ _ _
      · rw [ms_i hji]; exact hw j (by omega)
  obtain ⟨K2, s1, s2, s3⟩ := start 5 0 100000 K (by omega) (by omega) (fun _ _ => rfl) (fun j hj => (by omega))
  have htp : ∀ m, 0 < tot v m := by
    intro m
    induction m with
    | zero => exact Nat.one_pos
    | succ m ih => rw [tot]; exact Nat.mul_pos (by omega) ih
  have := htp n
  rw [hsolv, f_K_can, show (0 : Int32) = nI 0 from rfl, s1]
  exact loop (tot v n - 1) 0 100000 K2 (by omega) (by omega) s2 (fun i hi => by rw [s3 i (by omega), dg_0]; rfl) (fun c' hc' => (by omega))
theorem K_none {K : Mem} : ∃ K' : Mem, f_K_none K = some K' ∧ (∀ q, q ≠ 19 → K' q = K q) ∧ ∀ j, j < 120 → K' 19 j = 0 := by
  have loop : ∀ (c i f : Nat) (K1 : Mem), i + c = 120 → c < f → (∀ q, q ≠ 19 → K1 q = K q) → (∀ j, j < i → K1 19 j = 0) → ∃ K' : Mem, f_K_none_2 f (nI i) K1 = some K' ∧ (∀ q, q ≠ 19 → K' q = K q) ∧ ∀ j, j < 120 → K' 19 j = 0 := by
    intro c
    induction c with
    | zero =>
      intro i f K1 hi hf hq hw
      obtain ⟨f, rfl⟩ : ∃ m', f = m' + 1 := ⟨f - 1, by omega⟩
      have : i = 120 := by omega
      subst this
      exact ⟨K1, by rw [f_K_none_2, if_pos (by decide)], hq, hw⟩
    | succ c ih =>
      intro i f K1 hi hf hq hw
      obtain ⟨f, rfl⟩ : ∃ m', f = m' + 1 := ⟨f - 1, by omega⟩
      rw [f_K_none_2, if_neg (show ¬ (120 : Int32) ≤ nI i from nI_ge (b := 120) (by omega) (by decide)), gd_nI (by omega) (by decide), nI_1, nI_clamp (by omega), show vp_nar .boolean (0 : Int32) = 0 from nar01 false]
      refine ih (i + 1) f _ (by omega) (by omega) (fun q hqq => by rw [ms_q hqq, hq q hqq]) (fun j hj => ?_)
      by_cases hji : j = i
      · subst hji; exact ms_s _ _ _ _
      · rw [ms_i hji]; exact hw j (by omega)
  exact loop 120 0 100000 K (by omega) (by omega) (fun _ _ => rfl) (fun j hj => (by omega))
