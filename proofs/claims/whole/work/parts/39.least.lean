/-! PURE: solvable, least, demand, hint -/
theorem Solv_congr {n N : Nat} {v : Nat → Nat} {M M' : Mem} {p p' : Nat → Prop} (h3 : M' 3 = M 3) (h4 : M' 4 = M 4) (hp : ∀ k, k < N → (p k ↔ p' k)) : Solv n N v M p ↔ Solv n N v M' p' := by
  unfold Solv
  rw [h3, h4]
  exact ⟨fun ⟨w, a, b⟩ => ⟨w, a, fun k hk h4 hk' => b k hk h4 ((hp k hk).mpr hk')⟩, fun ⟨w, a, b⟩ => ⟨w, a, fun k hk h4 hk' => b k hk h4 ((hp k hk).mp hk')⟩⟩
/-- what the search keeps -/
def SR (s : Nat) (M K : Mem) : Prop := s ≤ 120 ∧ M 25 4 = nI s ∧ K 0 27 = nI s ∧ (∀ j, j < 120 → M 26 j = 0) ∧ ∀ j, j < s → M 28 j = K 20 j
def FM (M M' : Mem) : Prop := ∀ q, q ≠ 25 → q ≠ 26 → q ≠ 27 → q ≠ 28 → M' q = M q
def FK (K K' : Mem) : Prop := (∀ q, q ≠ 0 → q ≠ 18 → q ≠ 19 → q ≠ 20 → K' q = K q) ∧ ∀ j, j ≠ 0 → j ≠ 27 → K' 0 j = K 0 j
theorem FM_rf {n N : Nat} {v : Nat → Nat} {M K M' K' : Mem} (h : RF n N v M K) (hM : FM M M') (hK : FK K K') : RF n N v M' K' :=
  RF_keep h (fun q _ _ => hM q (by omega) (by omega) (by omega) (by omega)) (fun q _ _ => hK.1 q (by omega) (by omega) (by omega) (by omega)) (hK.2 2 (by decide) (by decide)) (hK.2 3 (by decide) (by decide))
theorem FM_t {M M1 M2 : Mem} (h : FM M M1) (h2 : FM M1 M2) : FM M M2 := fun q a b c d => by rw [h2 q a b c d, h q a b c d]
theorem FK_t {M M1 M2 : Mem} (h : FK M M1) (h2 : FK M1 M2) : FK M M2 := ⟨fun q a b c d => by rw [h2.1 q a b c d, h.1 q a b c d], fun j a b => by rw [h2.2 j a b, h.2 j a b]⟩
theorem F_kindOf {N k d : Nat} {M : Mem} (hN : N ≤ 120) (h10 : M 1 10 = nI N) (hk : k < N) (h3 : M 3 k = nI d) : f_F_kindOf (nI k) M = some (nI d, M) := by
  rw [f_F_kindOf, F_hasNode_t hN h10 hk, ob_s, if_neg (by decide), gd_nI (by omega) (by decide), nI_clamp (by omega), h3]
theorem bool_iff {a b : Bool} {p : Prop} (ha : a = true ↔ p) (hb : b = true ↔ p) : a = b := by
  cases a <;> cases b
  · rfl
  · exact ha.mpr (hb.mp rfl)
  · exact (hb.mpr (ha.mp rfl)).symm
  · rfl
/-- both searches agree -/
theorem both_can {n N : Nat} {v : Nat → Nat} {M K : Mem} {x : Int32} (h : RF n N v M K) (ha : ∀ k, k < N → (M 26 k = 0 ↔ (K 19 k = 0 ∧ nI k ≠ x))) : ∃ (z : Bool) (M' K' : Mem), f_S_findsWorld M = some (bi z, M') ∧ f_K_can x K = some (bi z, K') ∧ (∀ q, q ≠ 27 → M' q = M q) ∧ (∀ q, q ≠ 18 → K' q = K q) := by
  obtain ⟨z, M', a1, a2, a3⟩ := S_findsWorld h
  obtain ⟨z2, K', b1, b2, b3⟩ := K_can h x
  have : z = z2 := bool_iff (a3.trans (Solv_congr rfl rfl ha)) b3
  subst this
  exact ⟨z, M', K', a1, b1, a2, b2⟩
theorem nI_m1 {k : Nat} (h : k < 120) : nI k ≠ -1 := by
  intro e
  exact nI_lt0 (k := k) (by omega) (by rw [e]; decide)
/-- the first search of a call -/
theorem first_can {n N s : Nat} {v : Nat → Nat} {M K : Mem} (h : RF n N v M K) (hs : SR s M K) : ∃ K6 : Mem, f_K_none (ms K 0 0 0) = some K6 ∧ FK K K6 ∧ K6 0 27 = K 0 27 ∧ K6 20 = K 20 ∧ (∀ j, j < 120 → K6 19 j = 0) := by
  obtain ⟨K6, a1, a2, a3⟩ := K_none (K := ms K 0 0 0)
  exact ⟨K6, a1, ⟨fun q b0 b1 b2 b3 => by rw [a2 q b2, ms_q b0], fun j b0 b1 => by rw [a2 0 (by decide), ms_i b0]⟩, by rw [a2 0 (by decide), ms_i (by decide)], by rw [a2 20 (by decide), ms_q (by decide)], a3⟩
theorem st_solvable {n N s : Nat} {v : Nat → Nat} {M K : Mem} (h : RF n N v M K) (hs : SR s M K) : ∃ (r : Int32) (M' K' : Mem), f_N_solvable M = some (r, M') ∧ f_K_solvable K = some (r, K') ∧ SR s M' K' ∧ FM M M' ∧ FK K K' := by
  obtain ⟨K6, e1, e2, e3, e4, e5⟩ := first_can h hs
  have hR := FM_rf h (M' := M) (fun _ _ _ _ _ => rfl) e2
  have hN : N ≤ 120 := h.2.1
  obtain ⟨s1, s2, s3, s4, s5⟩ := hs
  obtain ⟨z, M', K', a1, a2, a3, a4⟩ := both_can (x := -1) hR (fun k hk => ⟨fun _ => ⟨e5 k (by omega), nI_m1 (by omega)⟩, fun _ => s4 k (by omega)⟩)
  refine ⟨_, M', K', by rw [f_N_solvable, a1, ob_s], by rw [f_K_solvable, e1, om_s, a2, ob_s], ⟨s1, by rw [a3 25 (by decide)]; exact s2, by rw [a4 0 (by decide), e3]; exact s3, fun j hj => by rw [a3 26 (by decide)]; exact s4 j hj, fun j hj => by rw [a3 28 (by decide), a4 20 (by decide), e4]; exact s5 j hj⟩, fun q _ _ c _ => a3 q c, FK_t e2 ⟨fun q a b c d => a4 q b, fun j a b => by rw [a4 0 (by decide)]⟩⟩
theorem st_demand {n N s : Nat} {v : Nat → Nat} {M K : Mem} (_h : RF n N v M K) (hs : SR s M K) (x : Int32) : ∃ r : Int32, f_N_demand x M = some (r, M) ∧ f_K_demand x K = some (r, ms K 0 0 0) := by
  obtain ⟨s1, s2, s3, s4, s5⟩ := hs
  have hk : (ms K 0 0 (0 : Int32)) 0 27 = nI s := by rw [ms_i (by decide)]; exact s3
  rw [f_N_demand, f_S_blamed, f_K_demand, s2, hk, ms_q (show 20 ≠ 0 by decide)]
  rcases i_cases x with hx | ⟨j, hj, rfl⟩
  · exact ⟨-1, by rw [if_pos hx]; rfl, by rw [if_pos hx]⟩
  · rw [if_neg (nI_lt0 hj), if_neg (nI_lt0 hj)]
    by_cases hjs : j < s
    · refine ⟨K 20 j, ?_, ?_⟩
      · rw [if_neg (nI_ge hjs (by omega)), gd_nI (by omega) (by decide), nI_clamp (by omega), ob_s, s5 j hjs]
      · rw [if_pos (nI_lt hjs (by omega)), gd_nI (by omega) (by decide), nI_clamp (by omega)]
    · refine ⟨-1, by rw [if_pos (nI_le (by omega) hj)]; rfl, ?_⟩
      rw [if_neg (nI_nlt (by omega) hj)]
theorem S_takeAllBack {K : Mem} : ∃ K' : Mem, f_S_takeAllBack K = some K' ∧ (∀ q, q ≠ 26 → K' q = K q) ∧ ∀ j, j < 120 → K' 26 j = 0 := by
  have loop : ∀ (c i f : Nat) (K1 : Mem), i + c = 120 → c < f → (∀ q, q ≠ 26 → K1 q = K q) → (∀ j, j < i → K1 26 j = 0) → ∃ K' : Mem, f_S_takeAllBack_2 f (nI i) K1 = some K' ∧ (∀ q, q ≠ 26 → K' q = K q) ∧ ∀ j, j < 120 → K' 26 j = 0 := by
    intro c
    induction c with
    | zero =>
      intro i f K1 hi hf hq hw
      obtain ⟨f, rfl⟩ : ∃ m', f = m' + 1 := ⟨f - 1, by omega⟩
      have : i = 120 := by omega
      subst this
      exact ⟨K1, by rw [f_S_takeAllBack_2, if_pos (by decide)], hq, hw⟩
    | succ c ih =>
      intro i f K1 hi hf hq hw
      obtain ⟨f, rfl⟩ : ∃ m', f = m' + 1 := ⟨f - 1, by omega⟩
      rw [f_S_takeAllBack_2, if_neg (show ¬ (120 : Int32) ≤ nI i from nI_ge (b := 120) (by omega) (by decide)), gd_nI (by omega) (by decide), nI_1, nI_clamp (by omega), show vp_nar .boolean (0 : Int32) = 0 from nar01 false]
      refine ih (i + 1) f _ (by omega) (by omega) (fun q hqq => by rw [ms_q hqq, hq q hqq]) (fun j hj => ?_)
      by_cases hji : j = i
      · subst hji; exact ms_s _ _ _ _
      · rw [ms_i hji]; exact hw j (by omega)
  exact loop 120 0 100000 K (by omega) (by omega) (fun _ _ => rfl) (fun j hj => (by omega))
