/-- what a step that adds keeps -/
def Grow (n N : Nat) (v : Nat → Nat) (n' N' : Nat) (v' : Nat → Nat) (M K M' K' : Mem) : Prop :=
  n ≤ n' ∧ N ≤ N' ∧ (∀ i, i < n → v' i = v i) ∧ (∀ q, 11 ≤ q → M' q = M q) ∧ (∀ q k, 3 ≤ q → q ≤ 10 → k < N → M' q k = M q k) ∧ (∀ q, 9 ≤ q → K' q = K q) ∧ (∀ j, j ≠ 0 → j ≠ 2 → j ≠ 3 → K' 0 j = K 0 j)
theorem Grow_rf {n N : Nat} {v : Nat → Nat} {M K : Mem} : Grow n N v n N v M K M (ms K 0 0 0) := ⟨Nat.le_refl _, Nat.le_refl _, fun _ _ => rfl, fun _ _ => rfl, fun _ _ _ _ _ => rfl, fun q hq => ms_q (by omega), fun j h0 _ _ => ms_i h0⟩
theorem RF_code {n N : Nat} {v : Nat → Nat} {M K : Mem} (h : RF n N v M K) : RF n N v M (ms K 0 0 0) := RF_keep h (fun _ _ _ => rfl) (fun q a _ => ms_q (by omega)) (by rw [ms_i (by decide)]) (by rw [ms_i (by decide)])
/-- one node more -/
theorem RF_add {n N d a s : Nat} {v : Nat → Nat} {M K M' K' : Mem} (h : RF n N v M K) (hN : N < 120) (hM1 : M' 1 1 = M 1 1) (hM10 : M' 1 10 = nI (N + 1)) (hM2 : M' 2 = M 2) (hMk : ∀ q k, 3 ≤ q → q ≤ 10 → k < N → M' q k = M q k)
    (hP : lfPost N d a s (ms K 0 0 0) K') (hnew : NR n v M' K' N) : RF n (N + 1) v M' K' := by
  obtain ⟨h1, h2, h3, h4, h5, h6, h7, h8⟩ := h
  obtain ⟨p1, p2, p3, p4, p5, p6, -, -, -⟩ := hP
  refine ⟨h1, hN, by rw [hM1]; exact h3, by rw [p2 2 (by decide) (by decide), ms_i (by decide)]; exact h4, hM10, p3, fun i hi => ?_, fun k hk => ?_⟩
  · rw [hM2, p1 1 (Or.inl rfl), ms_q (by decide)]
    exact h7 i hi
  · by_cases hkN : k = N
    · subst hkN; exact hnew
    · refine NR_keep (h8 k (by omega)) (Nat.le_refl n) (fun _ _ => rfl) (fun i hi => (h7 i hi).1) (fun q a b => hMk q k a b (by omega)) (fun q a b => ?_) (fun i hi => ?_) (fun j hj => ?_)
      · rw [p4 q k a b hkN, ms_q (by omega)]
      · rw [p5 _ (by omega), ms_q (by decide)]
      · rw [p6 _ (by omega), ms_q (by decide)]
theorem K_leaf_1 {d : Nat} (hd : d = 0 ∨ d = 2) {x2 x3 x4 x5 : Int32} {K : Mem} : f_K_leaf (nI d) x2 x3 x4 x5 K = ob (f_K_isName x2 (ms K 0 0 0)) fun r33 M33 => if r33 = 0 then some ((-1 : Int32), M33) else f_K_leaf_59 (nI d) x2 x3 x4 x5 0 M33 := by
  unfold f_K_leaf f_K_leaf_20
  rcases hd with rfl | rfl
  · rw [if_neg (by decide), if_neg (by decide), if_neg (by decide), if_neg (by decide)]; rfl
  · rw [if_neg (by decide), if_neg (by decide), if_neg (by decide), if_neg (by decide)]; rfl
theorem K_leaf_2 {d : Nat} (hd : d = 1 ∨ d = 3) {x2 x3 x4 x5 : Int32} {K : Mem} : f_K_leaf (nI d) x2 x3 x4 x5 K = ob (f_K_isName x2 (ms K 0 0 0)) fun r33 M33 => if r33 = 0 then some ((-1 : Int32), M33) else ob (f_K_isName x4 M33) fun r47 M47 => if r47 = 0 then some ((-1 : Int32), M47) else if x4 = x2 then some ((-1 : Int32), M47) else f_K_leaf_59 (nI d) x2 x3 x4 x5 1 M47 := by
  unfold f_K_leaf f_K_leaf_20
  rcases hd with rfl | rfl
  · rw [if_pos (by decide), if_neg (by decide), if_neg (by decide)]; rfl
  · rw [if_neg (by decide), if_pos (by decide), if_neg (by decide), if_neg (by decide)]; rfl
theorem K_leaf59_f {x1 x2 x3 x4 x5 x6 : Int32} {K : Mem} (h : K 0 3 = nI 120) : f_K_leaf_59 x1 x2 x3 x4 x5 x6 K = some (-1, K) := by
  rw [f_K_leaf_59, h, if_pos (by decide)]
theorem TR_congr {ver : Nat} {t t' : Nat → Bool} {hs s0 : Int32} {s s' : Nat → Int32} (hv : ver ≤ 4) (ht : ∀ b, b < 5 → t' b = t b) (hss : ∀ b, b < ver → s' b = s b) (h : TR ver t hs s0 s) : TR ver t' hs s0 s' := by
  obtain ⟨t1, t2, t3⟩ := h
  refine ⟨?_, fun b g1 g2 => by rw [ht b (by omega), ht 4 (by omega)]; exact t2 b g1 g2, fun hh => ⟨by rw [ht 4 (by omega)]; exact (t3 hh).1, fun b hb => by rw [hss b hb, ht b (by omega)]; exact (t3 hh).2 b hb⟩⟩
  rcases t1 with ⟨e1, e2⟩ | ⟨e1, b, hb, e2⟩
  · exact Or.inl ⟨e1, fun b hb => by rw [ht b hb]; exact e2 b hb⟩
  · exact Or.inr ⟨e1, b, hb, by rw [ht b hb]; exact e2⟩
theorem st_leaf {n N : Nat} {v : Nat → Nat} {M K : Mem} (h : RF n N v M K) (hl : RL N M) (x1 x2 x3 x4 x5 : Int32) : ∃ (r : Int32) (M' K' : Mem) (N' : Nat), f_N_leaf x1 x2 x3 x4 x5 M = some (r, M') ∧ f_K_leaf x1 x2 x3 x4 x5 K = some (r, K') ∧ RF n N' v M' K' ∧ RL N' M' ∧ Grow n N v n N' v M K M' K' := by
  obtain ⟨h1, h2, h3, h4, h5, h6, h7, h8⟩ := id h
  have k4 : ms K 0 0 0 0 2 = nI n := by rw [ms_i (by decide)]; exact h4
  have k6 : ms K 0 0 0 0 3 = nI N := by rw [ms_i (by decide)]; exact h6
  have none : f_N_leaf x1 x2 x3 x4 x5 M = some (-1, M) → f_K_leaf x1 x2 x3 x4 x5 K = some (-1, ms K 0 0 0) → ∃ (r : Int32) (M' K' : Mem) (N' : Nat), f_N_leaf x1 x2 x3 x4 x5 M = some (r, M') ∧ f_K_leaf x1 x2 x3 x4 x5 K = some (r, K') ∧ RF n N' v M' K' ∧ RL N' M' ∧ Grow n N v n N' v M K M' K' :=
    fun a b => ⟨-1, M, ms K 0 0 0, N, a, b, RF_code h, hl, Grow_rf⟩
  rcases nm_cases x1 (n := 4) (by omega) with ⟨d, hd, rfl⟩ | ⟨hx, hno⟩
  · by_cases hone : d = 0 ∨ d = 2
    · have hN1 : f_N_leaf (nI d) x2 x3 x4 x5 M = f_F_addLeaf (nI d) x2 x3 M := by
        unfold f_N_leaf
        rcases hone with rfl | rfl
        · rw [if_pos (by decide), f_N_leaf_32]
          cases f_F_addLeaf (nI 0) x2 x3 M <;> rfl
        · rw [if_neg (by decide), if_neg (by decide), if_pos (by decide), f_N_leaf_32]
          cases f_F_addLeaf (nI 2) x2 x3 M <;> rfl
      rcases nm_cases x2 (n := n) (by omega) with ⟨a, ha, rfl⟩ | ⟨hx, -⟩
      · by_cases hN : N = 120
        · subst hN
          exact none (by rw [hN1, F_addLeaf_f h1 h3 (by omega) h5 (Or.inr rfl)]) (by rw [K_leaf_1 hone, K_isName_t (by omega) k4 ha, ob_s, if_neg (by decide), K_leaf59_f k6])
        · obtain ⟨w1, w2, w3⟩ := h7 a ha
          obtain ⟨s, s1, s2, s3⟩ := told_eq x3 (v a) w1
          obtain ⟨K', e1, e2, e3, e4⟩ := K_leaf59_1 (n := n) (N := N) (a := a) (d := d) (w := v a) (s := s) (set := x3) (x4 := x4) (x5 := x5) (K := ms K 0 0 0) h1 (by omega) k6 ha w1 (by rw [ms_q (by decide)]; exact w3) s2 s3 (by omega)
          have eM := F_addLeaf_t (d := d) (s := s) (set := x3) h1 h3 (show N < 120 by omega) h5 ha w1 w2 s2 (by omega)
          have hb : (∀ i b, i < 5 → b < 5 → ib (if d = 0 then TN a (nI s) else TW a (nI s)) (5 * i + b) = if i = a then (if d = 0 then !(ib (nI s) b) else ib (nI s) b) else true) ∧ ∀ j, 25 ≤ j → ib (if d = 0 then TN a (nI s) else TW a (nI s)) j = false := by
            by_cases h0 : d = 0
            · simp only [if_pos h0]; exact TN_b (by omega) s1 w1
            · simp only [if_neg h0]; exact TW_b (by omega) s1 w1
          generalize hT : (if d = 0 then TN a (nI s) else TW a (nI s)) = T at eM hb
          refine ⟨nI N, _, K', N + 1, by rw [hN1]; exact eM, by rw [K_leaf_1 hone, K_isName_t (by omega) k4 ha, ob_s, if_neg (by decide)]; exact e1, ?_, ?_, ?_⟩
          · refine RF_add h (by omega) ?_ (ms_s _ _ _ _) ?_ ?_ e2 ?_
            · rw [ms_i (by decide), ms_q (by decide), ms_q (by decide), ms_q (by decide), ms_q (by decide)]
            · rw [ms_q (by decide), ms_q (by decide), ms_q (by decide), ms_q (by decide), ms_q (by decide)]
            · intro q k q1 q2 hk
              rw [ms_q (by omega), ms_qi, ms_qi, ms_qi, ms_qi, if_neg (by omega), if_neg (by omega), if_neg (by omega), if_neg (by omega)]
            · obtain ⟨-, -, -, -, -, -, z1, z2, z3⟩ := e2
              refine ⟨d, by omega, ?_, z1, ?_, fun hd4 => by omega, fun _ => ⟨?_, ?_, a, s, ha, s1, ?_, z2, ?_, z3, ?_, fun hd13 => by omega⟩⟩
              · rw [ms_q (by decide), ms_q (by decide), ms_s]
              · rw [ms_q (q2 := 4) (by decide), ms_s]
                refine NRb_of hb.2 (fun i hi => ?_)
                by_cases hia : i = a
                · subst hia
                  refine Or.inr ⟨ha, ?_⟩
                  exact TR_congr w1 (fun b hb5 => by rw [hb.1 i b hi hb5, if_pos rfl]) (s := fun b => K' 8 (25 * N + 5 * i + b + 1)) (fun b _ => congrArg (K' 8) (show 25 * N + (5 * i + b + 1) = 25 * N + 5 * i + b + 1 by omega)) e4
                · refine Or.inl ⟨e3 i hi hia, fun b hb5 => ?_⟩
                  rw [hb.1 i b hi hb5, if_neg hia]
              · rw [ms_q (by decide), ms_q (by decide), ms_q (by decide), ms_q (by decide), ms_q (by decide)]
                exact (hl N (Nat.le_refl N) (by omega)).1
              · rw [ms_q (by decide), ms_q (by decide), ms_q (by decide), ms_q (by decide), ms_q (by decide)]
                exact (hl N (Nat.le_refl N) (by omega)).2
              · rw [ms_q (by decide), ms_q (by decide), ms_q (by decide), ms_q (by decide), ms_s]
              · rw [ms_q (by decide), ms_q (by decide), ms_q (by decide), ms_s]
              · intro _ i hi hia b hb5
                rw [ms_q (q2 := 4) (by decide), ms_s, hb.1 i b hi hb5, if_neg hia]
          · intro k g1 g2
            rw [ms_q (q2 := 9) (by decide), ms_q (q2 := 9) (by decide), ms_q (q2 := 9) (by decide), ms_q (q2 := 9) (by decide), ms_q (q2 := 9) (by decide), ms_q (q2 := 10) (by decide), ms_q (q2 := 10) (by decide), ms_q (q2 := 10) (by decide), ms_q (q2 := 10) (by decide), ms_q (q2 := 10) (by decide)]
            exact hl k (by omega) g2
          · obtain ⟨p1, p2, -⟩ := e2
            refine ⟨Nat.le_refl _, by omega, fun _ _ => rfl, fun q hq => ?_, fun q k q1 q2 hk => ?_, fun q hq => ?_, fun j j0 j2 j3 => ?_⟩
            · rw [ms_q (by omega), ms_q (by omega), ms_q (by omega), ms_q (by omega), ms_q (by omega)]
            · rw [ms_q (by omega), ms_qi, ms_qi, ms_qi, ms_qi, if_neg (by omega), if_neg (by omega), if_neg (by omega), if_neg (by omega)]
            · rw [p1 q (by omega), ms_q (by omega)]
            · rw [p2 j j0 j3, ms_i j0]
      · exact none (by rw [hN1, F_addLeaf_f h1 h3 h2 h5 (Or.inl hx)]) (by rw [K_leaf_1 hone, K_isName_f k4 hx, ob_s, if_pos rfl])
    · have hd13 : d = 1 ∨ d = 3 := by omega
      have hN1 : f_N_leaf (nI d) x2 x3 x4 x5 M = f_F_addPairLeaf (nI d) x2 x3 x4 x5 M := by
        unfold f_N_leaf
        rcases hd13 with rfl | rfl
        · rw [if_neg (by decide), if_pos (by decide), f_N_leaf_43]
          cases f_F_addPairLeaf (nI 1) x2 x3 x4 x5 M <;> rfl
        · rw [if_neg (by decide), if_neg (by decide), if_neg (by decide), if_pos (by decide), f_N_leaf_43]
          cases f_F_addPairLeaf (nI 3) x2 x3 x4 x5 M <;> rfl
      rcases nm_cases x2 (n := n) (by omega) with ⟨a, ha, rfl⟩ | ⟨hx, -⟩
      · rcases nm_cases x4 (n := n) (by omega) with ⟨a2, ha2, rfl⟩ | ⟨hx2, -⟩
        · by_cases he : a = a2
          · subst he
            exact none (by rw [hN1, F_addPair_f h1 h3 h2 h5 (Or.inr (Or.inr (Or.inl rfl)))]) (by rw [K_leaf_2 hd13, K_isName_t (by omega) k4 ha, ob_s, if_neg (by decide), K_isName_t (by omega) k4 ha, ob_s, if_neg (by decide), if_pos rfl])
          · by_cases hN : N = 120
            · subst hN
              exact none (by rw [hN1, F_addPair_f h1 h3 (by omega) h5 (Or.inr (Or.inr (Or.inr rfl)))]) (by rw [K_leaf_2 hd13, K_isName_t (by omega) k4 ha, ob_s, if_neg (by decide), K_isName_t (by omega) k4 ha2, ob_s, if_neg (by decide), if_neg (fun e => he ((nI_eq (by omega) (by omega)).mp e.symm)), K_leaf59_f k6])
            · obtain ⟨w1, w2, w3⟩ := h7 a ha
              obtain ⟨u1, u2, u3⟩ := h7 a2 ha2
              obtain ⟨s, s1, s2, s3⟩ := told_eq x3 (v a) w1
              obtain ⟨s', s1', s2', s3'⟩ := told_eq x5 (v a2) u1
              obtain ⟨K', e1, e2, e5, e6, e3, e4, e4'⟩ := K_leaf59_2 (n := n) (N := N) (a := a) (a2 := a2) (d := d) (w := v a) (w2 := v a2) (s := s) (s2 := s') (set := x3) (set2 := x5) (K := ms K 0 0 0) h1 (by omega) k6 ha ha2 he w1 (by rw [ms_q (by decide)]; exact w3) u1 (by rw [ms_q (by decide)]; exact u3) s2 s3 s2' s3' hd13
              have eM := F_addPair_t (d := d) (s := s) (s2 := s') (set := x3) (set2 := x5) h1 h3 (show N < 120 by omega) h5 ha ha2 he w1 w2 u1 u2 s2 s2' (by omega)
              have hb1 := TW_b (a := a) (s := s) (w := v a) (by omega) s1 w1
              have hb2 : (∀ i b, i < 5 → b < 5 → ib (if d = 1 then TN a2 (nI s') else TW a2 (nI s')) (5 * i + b) = if i = a2 then (if d = 1 then !(ib (nI s') b) else ib (nI s') b) else true) ∧ ∀ j, 25 ≤ j → ib (if d = 1 then TN a2 (nI s') else TW a2 (nI s')) j = false := by
                by_cases h0 : d = 1
                · simp only [if_pos h0]; exact TN_b (by omega) s1' u1
                · simp only [if_neg h0]; exact TW_b (by omega) s1' u1
              have hb : (∀ i b, i < 5 → b < 5 → ib (TW a (nI s) &&& (if d = 1 then TN a2 (nI s') else TW a2 (nI s'))) (5 * i + b) = ((if i = a then ib (nI s) b else true) && (if i = a2 then (if d = 1 then !(ib (nI s') b) else ib (nI s') b) else true))) ∧ ∀ j, 25 ≤ j → ib (TW a (nI s) &&& (if d = 1 then TN a2 (nI s') else TW a2 (nI s'))) j = false :=
                ⟨fun i b hi hb => by rw [ib_and, hb1.1 i b hi hb, hb2.1 i b hi hb], fun j hj => by rw [ib_and, hb1.2 j hj]; rfl⟩
              generalize hT : (TW a (nI s) &&& (if d = 1 then TN a2 (nI s') else TW a2 (nI s'))) = T at eM hb
              refine ⟨nI N, _, K', N + 1, by rw [hN1]; exact eM, by rw [K_leaf_2 hd13, K_isName_t (by omega) k4 ha, ob_s, if_neg (by decide), K_isName_t (by omega) k4 ha2, ob_s, if_neg (by decide), if_neg (fun e => he ((nI_eq (by omega) (by omega)).mp e.symm))]; exact e1, ?_, ?_, ?_⟩
              · refine RF_add h (by omega) ?_ (ms_s _ _ _ _) ?_ ?_ e2 ?_
                · rw [ms_i (by decide), ms_q (by decide), ms_q (by decide), ms_q (by decide), ms_q (by decide), ms_q (by decide), ms_q (by decide)]
                · rw [ms_q (by decide), ms_q (by decide), ms_q (by decide), ms_q (by decide), ms_q (by decide), ms_q (by decide), ms_q (by decide)]
                · intro q k q1 q2 hk
                  rw [ms_q (by omega), ms_qi, ms_qi, ms_qi, ms_qi, ms_qi, ms_qi, if_neg (by omega), if_neg (by omega), if_neg (by omega), if_neg (by omega), if_neg (by omega), if_neg (by omega)]
                · obtain ⟨-, -, -, -, -, -, z1, z2, z3⟩ := e2
                  refine ⟨d, by omega, ?_, z1, ?_, fun hd4 => by omega, fun _ => ⟨?_, ?_, a, s, ha, s1, ?_, z2, ?_, z3, fun hd02 => by omega, fun _ => ⟨a2, s', ha2, fun e => he e.symm, s1', ?_, e5, ?_, e6, ?_⟩⟩⟩
                  · rw [ms_q (by decide), ms_q (by decide), ms_s]
                  · rw [ms_q (q2 := 4) (by decide), ms_s]
                    refine NRb_of hb.2 (fun i hi => ?_)
                    by_cases hia : i = a
                    · subst hia
                      exact Or.inr ⟨ha, TR_congr w1 (fun b hb5 => by rw [hb.1 i b hi hb5, if_pos rfl, if_neg he, Bool.and_true]) (s := fun b => K' 8 (25 * N + 5 * i + b + 1)) (fun b _ => congrArg (K' 8) (show 25 * N + (5 * i + b + 1) = 25 * N + 5 * i + b + 1 by omega)) e4⟩
                    · by_cases hia2 : i = a2
                      · subst hia2
                        exact Or.inr ⟨ha2, TR_congr u1 (fun b hb5 => by rw [hb.1 i b hi hb5, if_pos rfl, if_neg hia, Bool.true_and]) (s := fun b => K' 8 (25 * N + 5 * i + b + 1)) (fun b _ => congrArg (K' 8) (show 25 * N + (5 * i + b + 1) = 25 * N + 5 * i + b + 1 by omega)) e4'⟩
                      · refine Or.inl ⟨e3 i hi hia hia2, fun b hb5 => ?_⟩
                        rw [hb.1 i b hi hb5, if_neg hia, if_neg hia2]; rfl
                  · rw [ms_q (by decide), ms_q (by decide), ms_q (by decide), ms_q (by decide), ms_q (by decide), ms_q (by decide), ms_q (by decide)]
                    exact (hl N (Nat.le_refl N) (by omega)).1
                  · rw [ms_q (by decide), ms_q (by decide), ms_q (by decide), ms_q (by decide), ms_q (by decide), ms_q (by decide), ms_q (by decide)]
                    exact (hl N (Nat.le_refl N) (by omega)).2
                  · rw [ms_q (by decide), ms_q (by decide), ms_q (by decide), ms_q (by decide), ms_q (by decide), ms_q (by decide), ms_s]
                  · rw [ms_q (by decide), ms_q (by decide), ms_q (by decide), ms_q (by decide), ms_q (by decide), ms_s]
                  · rw [ms_q (by decide), ms_q (by decide), ms_q (by decide), ms_q (by decide), ms_s]
                  · rw [ms_q (by decide), ms_q (by decide), ms_q (by decide), ms_s]
                  · intro i hi hia hia2 b hb5
                    rw [ms_q (q2 := 4) (by decide), ms_s, hb.1 i b hi hb5, if_neg hia, if_neg hia2]; rfl
              · intro k g1 g2
                rw [ms_q (q2 := 9) (by decide), ms_q (q2 := 9) (by decide), ms_q (q2 := 9) (by decide), ms_q (q2 := 9) (by decide), ms_q (q2 := 9) (by decide), ms_q (q2 := 9) (by decide), ms_q (q2 := 9) (by decide), ms_q (q2 := 10) (by decide), ms_q (q2 := 10) (by decide), ms_q (q2 := 10) (by decide), ms_q (q2 := 10) (by decide), ms_q (q2 := 10) (by decide), ms_q (q2 := 10) (by decide), ms_q (q2 := 10) (by decide)]
                exact hl k (by omega) g2
              · obtain ⟨p1, p2, -⟩ := e2
                refine ⟨Nat.le_refl _, by omega, fun _ _ => rfl, fun q hq => ?_, fun q k q1 q2 hk => ?_, fun q hq => ?_, fun j j0 j2 j3 => ?_⟩
                · rw [ms_q (by omega), ms_q (by omega), ms_q (by omega), ms_q (by omega), ms_q (by omega), ms_q (by omega), ms_q (by omega)]
                · rw [ms_q (by omega), ms_qi, ms_qi, ms_qi, ms_qi, ms_qi, ms_qi, if_neg (by omega), if_neg (by omega), if_neg (by omega), if_neg (by omega), if_neg (by omega), if_neg (by omega)]
                · rw [p1 q (by omega), ms_q (by omega)]
                · rw [p2 j j0 j3, ms_i j0]
        · exact none (by rw [hN1, F_addPair_f h1 h3 h2 h5 (Or.inr (Or.inl hx2))]) (by rw [K_leaf_2 hd13, K_isName_t (by omega) k4 ha, ob_s, if_neg (by decide), K_isName_f k4 hx2, ob_s, if_pos rfl])
      · exact none (by rw [hN1, F_addPair_f h1 h3 h2 h5 (Or.inl hx)]) (by rw [K_leaf_2 hd13, K_isName_f k4 hx, ob_s, if_pos rfl])
  · refine none ?_ ?_
    · unfold f_N_leaf
      rw [if_neg (show ¬ x1 = 0 from hno 0 (by omega)), if_neg (show ¬ x1 = 1 from hno 1 (by omega)), if_neg (show ¬ x1 = 2 from hno 2 (by omega)), if_neg (show ¬ x1 = 3 from hno 3 (by omega))]
    · unfold f_K_leaf f_K_leaf_20
      rw [if_neg (show ¬ x1 = 1 from hno 1 (by omega)), if_neg (show ¬ x1 = 3 from hno 3 (by omega))]
      by_cases h0 : x1 < 0
      · rw [if_pos h0]
      · rw [if_neg h0]
        have h4' := hx.resolve_left h0
        rw [if_pos (show (3 : Int32) < x1 from by
          rw [Int32.lt_iff_toInt_lt]
          have := Int32.le_iff_toInt_le.mp h4'
          rw [show (nI 4).toInt = 4 from by decide] at this
          rw [show (3 : Int32).toInt = 3 from by decide]
          omega)]
