theorem nar1 : vp_nar .boolean (1 : Int32) = 1 := nar01 true
theorem nar0 : vp_nar .boolean (0 : Int32) = 0 := nar01 false
theorem st_hint {n N s : Nat} {v : Nat → Nat} {M K : Mem} (h : RF n N v M K) (hs : SR s M K) (x : Int32) : ∃ (r : Int32) (M' K' : Mem), f_N_hint x M = some (r, M') ∧ f_K_hint x K = some (r, K') ∧ SR s M' K' ∧ FM M M' ∧ FK K K' := by
  obtain ⟨K6, e1, e2, e3, e4, e5⟩ := first_can h hs
  have hR := FM_rf h (M' := M) (fun _ _ _ _ _ => rfl) e2
  have hN : N ≤ 120 := h.2.1
  have hs0 := hs
  obtain ⟨s1, s2, s3, s4, s5⟩ := hs
  obtain ⟨z, M5, K5, a1, a2, a3, a4⟩ := both_can (x := -1) hR (fun k hk => ⟨fun _ => ⟨e5 k (by omega), nI_m1 (by omega)⟩, fun _ => s4 k (by omega)⟩)
  have loop : ∀ (c k m cn : Nat) (M1 K1 : Mem), k + c = N → c < m → cn ≤ k → (∀ q, q ≠ 26 → q ≠ 27 → M1 q = M q) → (∀ j, j < 120 → M1 26 j = 0) → (∀ q, q ≠ 18 → K1 q = K6 q) →
      ∃ (r : Int32) (M' K' : Mem), f_S_release_17 m x (nI cn) (nI k) M1 = some (r, M') ∧ f_K_hint_23 m (x - nI cn) (nI k) K1 = some (r, K') ∧ (∀ q, q ≠ 26 → q ≠ 27 → M' q = M q) ∧ (∀ j, j < 120 → M' 26 j = 0) ∧ (∀ q, q ≠ 18 → K' q = K6 q) ∧ (x < 0 → r = -1) := by
    intro c
    induction c with
    | zero =>
      intro k m cn M1 K1 hk hm hcn g1 g2 g3
      obtain ⟨m, rfl⟩ : ∃ m', m = m' + 1 := ⟨m - 1, by omega⟩
      obtain ⟨h1, h2, h3, h4, h5, h6, h7, h8⟩ := id hR
      refine ⟨-1, M1, K1, ?_, ?_, g1, g2, g3, fun _ => rfl⟩
      · rw [f_S_release_17, f_F_countNodes, ob_s, g1 1 (by decide) (by decide), h5, if_pos (nI_le (by omega) (by omega))]
      · rw [f_K_hint_23, g3 0 (by decide), h6, if_pos (nI_le (by omega) (by omega))]
    | succ c ih =>
      intro k m cn M1 K1 hk hm hcn g1 g2 g3
      obtain ⟨m, rfl⟩ : ∃ m', m = m' + 1 := ⟨m - 1, by omega⟩
      have hkN : k < N := by omega
      have hR1 : RF n N v M1 K1 := RF_keep hR (fun q _ _ => g1 q (by omega) (by omega)) (fun q _ _ => g3 q (by omega)) (by rw [g3 0 (by decide)]) (by rw [g3 0 (by decide)])
      obtain ⟨h1, h2, h3, h4, h5, h6, h7, h8⟩ := id hR1
      obtain ⟨d, hd, hd3, hk2, -⟩ := id (h8 k hkN)
      have d4 : nI d = 4 ↔ d = 4 := nI_eq (b := 4) (by omega) (by decide)
      have d1 : nI d = 1 ↔ d = 1 := nI_eq (b := 1) (by omega) (by decide)
      rw [f_S_release_17, f_F_countNodes, ob_s, h5, if_neg (nI_ge hkN (by omega)), F_isLeaf (d := d) h2 h5 hkN hd hd3, ob_s, f_K_hint_23, h6, if_neg (nI_ge hkN (by omega)), gd_nI (by omega) (by decide), gd_nI (by omega) (by decide), nI_clamp (by omega), hk2, show nI k + 1 = nI (k + 1) by rw [nI_1]]
      by_cases hd4 : d = 4
      · rw [if_pos (show bi (!decide (d = 4)) = 0 by rw [decide_eq_true hd4]; rfl), if_pos (d4.mpr hd4)]
        exact ih (k + 1) m cn M1 K1 (by omega) (by omega) (by omega) g1 g2 g3
      · rw [if_neg (show ¬ bi (!decide (d = 4)) = 0 by rw [decide_eq_false hd4]; decide), if_neg (fun e => hd4 (d4.mp e)), F_kindOf h2 h5 hkN hd3, ob_s]
        by_cases hd1 : d = 1
        · rw [if_pos (d1.mpr hd1), if_pos (d1.mpr hd1)]
          exact ih (k + 1) m cn M1 K1 (by omega) (by omega) (by omega) g1 g2 g3
        · rw [if_neg (fun e => hd1 (d1.mp e)), if_neg (fun e => hd1 (d1.mp e)), f_S_findsWorldWithout, gd_nI (by omega) (by decide), nI_clamp (by omega), nar1, nar0]
          have hR2 : RF n N v (ms M1 26 k 1) K1 := RF_keep hR1 (fun q _ _ => ms_q (by omega)) (fun _ _ _ => rfl) rfl rfl
          obtain ⟨z, M2, K2, b1, b2, b3, b4⟩ := both_can (x := nI k) hR2 (fun j hj => by
            rw [ms_qi]
            by_cases hjk : j = k
            · subst hjk
              rw [if_pos ⟨rfl, rfl⟩]
              exact ⟨fun e => absurd e (by decide), fun e => absurd rfl e.2⟩
            · rw [if_neg (fun e => hjk e.2), g2 j (by omega), g3 19 (by decide), e5 j (by omega)]
              exact ⟨fun _ => ⟨rfl, fun e => hjk ((nI_eq (by omega) (by omega)).mp e)⟩, fun _ => rfl⟩)
          rw [b1, ob_s, b2, ob_s, gd_nI (by omega) (by decide), ob_s, nar01]
          have f1 : ∀ q, q ≠ 26 → q ≠ 27 → (ms M2 26 k 0) q = M q := fun q qa qb => by rw [ms_q qa, b3 q qb, ms_q qa, g1 q qa qb]
          have f2 : ∀ j, j < 120 → (ms M2 26 k 0) 26 j = 0 := fun j hj => by
            by_cases hjk : j = k
            · subst hjk; exact ms_s _ _ _ _
            · rw [ms_i hjk, b3 26 (by decide), ms_i hjk]; exact g2 j hj
          have f3 : ∀ q, q ≠ 18 → K2 q = K6 q := fun q hq => by rw [b4 q hq, g3 q hq]
          cases z
          · rw [if_pos (show bi false = 0 from rfl), if_pos (show bi false = 0 from rfl)]
            exact ih (k + 1) m cn _ K2 (by omega) (by omega) (by omega) f1 f2 f3
          · rw [if_neg (show ¬ bi true = 0 by decide), if_neg (show ¬ bi true = 0 by decide)]
            by_cases hx : nI cn = x
            · rw [if_pos hx, if_pos (show x - nI cn = 0 by rw [hx]; exact Int32.sub_self x)]
              exact ⟨nI k, _, K2, rfl, rfl, f1, f2, f3, fun hneg => absurd (by rw [hx]; exact hneg) (nI_lt0 (k := cn) (by omega))⟩
            · rw [if_neg hx, if_neg (fun e => hx (i_sub0 e).symm), nI_1, i_sub1]
              exact ih (k + 1) m (cn + 1) _ K2 (by omega) (by omega) (by omega) f1 f2 f3
  have hK : f_K_hint x K = (if bi z = 0 then f_K_hint_23 100000 x (nI 0) K5 else some (-1, K5)) := by
    rw [f_K_hint, e1, om_s, a2, ob_s]; rfl
  have hfin : ∀ (M' K' : Mem), (∀ q, q ≠ 26 → q ≠ 27 → M' q = M q) → (∀ j, j < 120 → M' 26 j = 0) → (∀ q, q ≠ 18 → K' q = K6 q) → SR s M' K' ∧ FM M M' ∧ FK K K' := fun M' K' f1 f2 f3 =>
    ⟨⟨s1, by rw [f1 25 (by decide) (by decide)]; exact s2, by rw [f3 0 (by decide), e3]; exact s3, f2, fun j hj => by rw [f1 28 (by decide) (by decide), f3 20 (by decide), e4]; exact s5 j hj⟩, fun q _ b c _ => f1 q b c, FK_t e2 ⟨fun q _ b _ _ => f3 q b, fun j _ _ => by rw [f3 0 (by decide)]⟩⟩
  have l0 := loop N 0 100000 0 M5 K5 (by omega) (by omega) (by omega) (fun q qa qb => a3 q qb) (fun j hj => by rw [a3 26 (by decide)]; exact s4 j hj) a4
  rw [show x - nI 0 = x from Int32.sub_zero x] at l0
  obtain ⟨r, M', K', l1, l2, l3, l4, l5, l6⟩ := l0
  by_cases hx : x < 0
  · cases z
    · exact ⟨-1, M, K', by rw [f_N_hint, f_S_release, if_pos hx]; rfl, by rw [hK, if_pos (show bi false = 0 from rfl), l2, l6 hx], hfin M K' (fun _ _ _ => rfl) s4 l5⟩
    · exact ⟨-1, M, K5, by rw [f_N_hint, f_S_release, if_pos hx]; rfl, by rw [hK, if_neg (by decide)], hfin M K5 (fun _ _ _ => rfl) s4 a4⟩
  · cases z
    · refine ⟨r, M', K', ?_, by rw [hK, if_pos (show bi false = 0 from rfl), l2], hfin M' K' l3 l4 l5⟩
      rw [f_N_hint, f_S_release, if_neg hx, a1, ob_s, if_pos (show bi false = 0 from rfl), show (0 : Int32) = nI 0 from rfl, l1]; rfl
    · refine ⟨-1, M5, K5, ?_, by rw [hK, if_neg (by decide)], hfin M5 K5 (fun q qa qb => a3 q qb) (fun j hj => by rw [a3 26 (by decide)]; exact s4 j hj) a4⟩
      rw [f_N_hint, f_S_release, if_neg hx, a1, ob_s, if_neg (by decide)]; rfl
theorem st_least {n N s : Nat} {v : Nat → Nat} {M K : Mem} (h : RF n N v M K) (hs : SR s M K) : ∃ (r : Int32) (M' K' : Mem) (s' : Nat), f_N_least M = some (r, M') ∧ f_K_least K = some (r, K') ∧ SR s' M' K' ∧ FM M M' ∧ FK K K' := by
  obtain ⟨K6, e1, e2, e3, e4, e5⟩ := first_can h hs
  have hN : N ≤ 120 := h.2.1
  obtain ⟨s1, s2, s3, s4, s5⟩ := hs
  have hM0 : FM M (ms M 25 4 0) := fun q a _ _ _ => ms_q a
  have hK0 : FK K (ms K6 0 27 0) := FK_t e2 ⟨fun q a _ _ _ => ms_q a, fun j _ b => ms_i b⟩
  have hR := FM_rf h hM0 hK0
  obtain ⟨z, M5, K5, a1, a2, a3, a4⟩ := both_can (x := -1) hR (fun k hk => ⟨fun _ => ⟨by rw [ms_q (by decide)]; exact e5 k (by omega), nI_m1 (by omega)⟩, fun _ => by rw [ms_q (by decide)]; exact s4 k (by omega)⟩)
  have loop : ∀ (c k m t : Nat) (M1 K1 : Mem), k + c = N → c < m → t ≤ k → FM M M1 → FK K K1 → M1 25 4 = nI t → K1 0 27 = nI t → (∀ j, j < 120 → M1 26 j = K1 19 j) → (∀ j, k ≤ j → j < 120 → M1 26 j = 0) → (∀ j, j < t → M1 28 j = K1 20 j) →
      ∃ (r : Int32) (M' K' : Mem) (t' : Nat), f_S_keepBlamed_16 m (nI k) M1 = some (r, M') ∧ f_K_least_26 m (nI k) K1 = some (r, K') ∧ SR t' M' K' ∧ FM M M' ∧ FK K K' := by
    intro c
    induction c with
    | zero =>
      intro k m t M1 K1 hk hm ht g1 g2 g3 g4 g5 g6 g7
      obtain ⟨m, rfl⟩ : ∃ m', m = m' + 1 := ⟨m - 1, by omega⟩
      obtain ⟨h1, h2, h3, h4, h5, h6, h7, h8⟩ := id (FM_rf h g1 g2)
      obtain ⟨M', b1, b2, b3⟩ := S_takeAllBack (K := M1)
      refine ⟨nI t, M', K1, t, ?_, ?_, ⟨by omega, by rw [b2 25 (by decide)]; exact g3, g4, b3, fun j hj => by rw [b2 28 (by decide)]; exact g7 j hj⟩, FM_t g1 (fun q _ b _ _ => b2 q b), g2⟩
      · rw [f_S_keepBlamed_16, f_F_countNodes, ob_s, h5, if_pos (nI_le (by omega) (by omega)), b1, om_s, b2 25 (by decide), g3]
      · rw [f_K_least_26, h6, if_pos (nI_le (by omega) (by omega)), g4]
    | succ c ih =>
      intro k m t M1 K1 hk hm ht g1 g2 g3 g4 g5 g6 g7
      obtain ⟨m, rfl⟩ : ∃ m', m = m' + 1 := ⟨m - 1, by omega⟩
      have hkN : k < N := by omega
      have hR1 := FM_rf h g1 g2
      obtain ⟨h1, h2, h3, h4, h5, h6, h7, h8⟩ := id hR1
      obtain ⟨d, hd, hd3, hk2, -⟩ := id (h8 k hkN)
      rw [f_S_keepBlamed_16, f_F_countNodes, ob_s, h5, if_neg (nI_ge hkN (by omega)), F_kindOf h2 h5 hkN hd3, ob_s, nI_1, f_K_least_26, h6, if_neg (nI_ge hkN (by omega)), gd_nI (by omega) (by decide), gd_nI (by omega) (by decide), nI_clamp (by omega), hk2, nI_1]
      by_cases hd0 : nI d = 0
      · rw [if_pos hd0, if_pos hd0, nar1, nar0]
        have hR2 : RF n N v (ms M1 26 k 1) K1 := RF_keep hR1 (fun q _ _ => ms_q (by omega)) (fun _ _ _ => rfl) rfl rfl
        obtain ⟨z, M2, K2, b1, b2, b3, b4⟩ := both_can (x := nI k) hR2 (fun j hj => by
            rw [ms_qi]
            by_cases hjk : j = k
            · subst hjk
              rw [if_pos ⟨rfl, rfl⟩]
              exact ⟨fun e => absurd e (by decide), fun e => absurd rfl e.2⟩
            · rw [if_neg (fun e => hjk e.2), g5 j (by omega)]
              exact ⟨fun e => ⟨e, fun e => hjk ((nI_eq (by omega) (by omega)).mp e)⟩, fun e => e.1⟩)
        rw [b1, ob_s, b2, ob_s]
        have w1 : FM M M2 := FM_t g1 (fun q a b c d => by rw [b3 q c, ms_q b])
        have w2 : FK K K2 := FK_t g2 ⟨fun q a b c d => b4 q b, fun j _ _ => by rw [b4 0 (by decide)]⟩
        cases z
        · rw [if_pos (show bi false = 0 from rfl), if_pos (show bi false = 0 from rfl), gd_nI (by omega) (by decide)]
          refine ih (k + 1) m t M2 _ (by omega) (by omega) (by omega) w1 (FK_t w2 ⟨fun q a b c d => ms_q c, fun j _ _ => by rw [ms_q (by decide)]⟩) (by rw [b3 25 (by decide), ms_q (by decide)]; exact g3) (by rw [ms_q (by decide), b4 0 (by decide)]; exact g4) (fun j hj => ?_) (fun j hj hj2 => by rw [b3 26 (by decide), ms_i (by omega)]; exact g6 j (by omega) hj2) (fun j hj => by rw [b3 28 (by decide), ms_q (by decide), ms_q (by decide), b4 20 (by decide)]; exact g7 j hj)
          rw [b3 26 (by decide)]
          by_cases hjk : j = k
          · subst hjk; rw [ms_s, ms_s]
          · rw [ms_i hjk, ms_i hjk, b4 19 (by decide)]; exact g5 j hj
        · have m25 : (ms M2 26 k 0) 25 4 = nI t := by rw [ms_q (by decide), b3 25 (by decide), ms_q (by decide)]; exact g3
          have k27 : K2 0 27 = nI t := by rw [b4 0 (by decide)]; exact g4
          rw [if_neg (show ¬ bi true = 0 by decide), if_neg (show ¬ bi true = 0 by decide), gd_nI (by omega) (by decide), f_S_keep, m25, if_neg (show ¬ (120 : Int32) ≤ nI t from nI_ge (show t < 120 by omega) (by decide)), k27, gd_nI (by omega) (by decide), om_s, gd_nI (by omega) (by decide), nI_clamp (by omega), ms_q (show 25 ≠ 28 by decide), m25, ms_q (show 0 ≠ 20 by decide), k27, nI_1]
          refine ih (k + 1) m (t + 1) _ _ (by omega) (by omega) (by omega) (FM_t w1 (fun q a b c d => by rw [ms_q a, ms_q d, ms_q b])) (FK_t w2 ⟨fun q a b c d => by rw [ms_q a, ms_q d], fun j a b => by rw [ms_i b, ms_q (by decide)]⟩) (ms_s _ _ _ _) (ms_s _ _ _ _) (fun j hj => ?_) (fun j hj hj2 => ?_) (fun j hj => ?_)
          · rw [ms_q (show 26 ≠ 25 by decide), ms_q (show 26 ≠ 28 by decide), ms_q (show 19 ≠ 0 by decide), ms_q (show 19 ≠ 20 by decide), b4 19 (by decide)]
            by_cases hjk : j = k
            · subst hjk; rw [ms_s, ← g5 j hj, g6 j (Nat.le_refl j) hj]
            · rw [ms_i hjk, b3 26 (by decide), ms_i hjk]; exact g5 j hj
          · rw [ms_q (by decide), ms_q (by decide), ms_i (by omega), b3 26 (by decide), ms_i (by omega)]; exact g6 j (by omega) hj2
          · rw [ms_q (by decide), ms_q (show 20 ≠ 0 by decide)]
            by_cases hjt : j = t
            · subst hjt; rw [ms_s, ms_s]
            · rw [ms_i hjt, ms_i hjt, ms_q (by decide), b3 28 (by decide), ms_q (by decide), b4 20 (by decide)]; exact g7 j (by omega)
      · rw [if_neg hd0, if_neg hd0]
        exact ih (k + 1) m t M1 K1 (by omega) (by omega) (by omega) g1 g2 g3 g4 g5 (fun j hj => g6 j (by omega)) g7
  have x1 : FM M M5 := FM_t hM0 (fun q _ _ c _ => a3 q c)
  have x2 : FK K K5 := FK_t hK0 ⟨fun q _ b _ _ => a4 q b, fun j _ _ => by rw [a4 0 (by decide)]⟩
  have x3 : M5 25 4 = nI 0 := by rw [a3 25 (by decide), ms_s]; rfl
  have x4 : K5 0 27 = nI 0 := by rw [a4 0 (by decide), ms_s]; rfl
  have x5 : ∀ j, j < 120 → M5 26 j = 0 := fun j hj => by rw [a3 26 (by decide), ms_q (by decide)]; exact s4 j hj
  rw [f_N_least, f_S_keepBlamed, a1, ob_s, f_K_least, e1, om_s, a2, ob_s]
  cases z
  · rw [if_pos (show bi false = 0 from rfl), if_pos (show bi false = 0 from rfl)]
    obtain ⟨r, M', K', t', l1, l2, l3⟩ := loop N 0 100000 0 M5 K5 (by omega) (by omega) (by omega) x1 x2 x3 x4 (fun j hj => by rw [x5 j hj, a4 19 (by decide), ms_q (by decide), e5 j hj]) (fun j _ hj => x5 j hj) (fun j hj => (by omega))
    refine ⟨r, M', K', t', ?_, l2, l3⟩
    rw [show (0 : Int32) = nI 0 from rfl, l1, ob_s]
  · rw [if_neg (show ¬ bi true = 0 by decide), if_neg (show ¬ bi true = 0 by decide)]
    exact ⟨0, M5, K5, 0, rfl, rfl, ⟨by omega, x3, x4, x5, fun j hj => (by omega)⟩, x1, x2⟩
