/-! PURE: uses counted, both sides -/
def pa (M : Mem) (k : Nat) : Nat := (M 9 k).toNatClampNeg
def pb (M : Mem) (k : Nat) : Nat := (M 10 k).toNatClampNeg
theorem parts_of {n N k : Nat} {v : Nat → Nat} {M K : Mem} (h : RF n N v M K) (hk : k < N) (h4 : M 3 k = 4) : pa M k < k ∧ pb M k < k ∧ M 9 k = nI (pa M k) ∧ M 10 k = nI (pb M k) ∧ K 3 k = nI (pa M k) ∧ K 5 k = nI (pb M k) := by
  have hN := h.2.1
  obtain ⟨d, d4, hd, -, -, hj, -⟩ := h.2.2.2.2.2.2.2 k hk
  have : d = 4 := (nI_eq (b := 4) (by omega) (by decide)).mp (hd.symm.trans h4)
  obtain ⟨a, b, h1, h2, h3, h4, h5, h6⟩ := hj this
  have ea : pa M k = a := by rw [pa, h3, nI_clamp (by omega)]
  have eb : pb M k = b := by rw [pb, h5, nI_clamp (by omega)]
  rw [ea, eb]
  exact ⟨h1, h2, h3, h5, h4, h6⟩
theorem leaf_parts {n N k : Nat} {v : Nat → Nat} {M K : Mem} (h : RF n N v M K) (hk : k < N) (h4 : M 3 k ≠ 4) : M 9 k = -1 ∧ M 10 k = -1 := by
  obtain ⟨d, d4, hd, -, -, -, hl⟩ := h.2.2.2.2.2.2.2 k hk
  have : d ≠ 4 := fun e => h4 (by rw [hd, e]; rfl)
  obtain ⟨a, b, -⟩ := hl (by omega)
  exact ⟨a, b⟩
def UF (M : Mem) (r : Nat) (us : Nat → Nat) (c : Nat) : Prop := ∀ p, c ≤ p → p ≤ r → (p = r ∨ 0 < us p) → M 3 p = 4 → (0 < us (pa M p) ∧ 0 < us (pb M p)) ∧ (pa M p = pb M p → 2 ≤ us (pa M p)) ∧ ∀ q, c ≤ q → q ≤ r → q ≠ p → (q = r ∨ 0 < us q) → M 3 q = 4 → ∀ y, (y = pa M p ∨ y = pb M p) → (y = pa M q ∨ y = pb M q) → 2 ≤ us y
def UR (r : Nat) (us : Nat → Nat) (M K : Mem) : Prop := ∀ k, k < 120 → M 12 k = nI (us k) ∧ K 13 k = nI (us k) ∧ K 14 k = bi (decide (k = r ∨ 0 < us k))
def us2 (us : Nat → Nat) (a b : Nat) : Nat → Nat := fun y => us y + (if y = a then 1 else 0) + (if y = b then 1 else 0)
theorem UF_step {M : Mem} {r c : Nat} {us : Nat → Nat} (h : UF M r us (c + 1)) (ha : pa M c < c) (hb : pb M c < c) : UF M r (us2 us (pa M c) (pb M c)) c := by
  have hi : ∀ p, c ≤ p → us2 us (pa M c) (pb M c) p = us p := fun p hp => by
    unfold us2
    rw [if_neg (show ¬ p = pa M c by omega), if_neg (show ¬ p = pb M c by omega)]
    omega
  have hm : ∀ y, us y ≤ us2 us (pa M c) (pb M c) y := fun y => by unfold us2; omega
  have hc : ∀ y, (y = pa M c ∨ y = pb M c) → us y + 1 ≤ us2 us (pa M c) (pb M c) y := fun y hy => by
    unfold us2
    rcases hy with e | e
    · rw [if_pos e]; omega
    · rw [if_pos e]; omega
  intro p h1 h2 h3 h4
  rw [hi p h1] at h3
  by_cases hpc : p = c
  · subst hpc
    refine ⟨⟨by have := hc _ (Or.inl rfl); omega, by have := hc _ (Or.inr rfl); omega⟩, fun e => ?_, fun q g1 g2 g3 g4 g5 y g6 g7 => ?_⟩
    · unfold us2
      rw [if_pos rfl, if_pos e]; omega
    · rw [hi q g1] at g4
      have := (h q (by omega) g2 g4 g5).1
      have h0 : 0 < us y := by
        rcases g7 with e | e
        · rw [e]; exact this.1
        · rw [e]; exact this.2
      have := hc y g6
      omega
  · obtain ⟨⟨u1, u2⟩, u3, u4⟩ := h p (by omega) h2 h3 h4
    refine ⟨⟨by have := hm (pa M p); omega, by have := hm (pb M p); omega⟩, fun e => by have := u3 e; have := hm (pa M p); omega, fun q g1 g2 g3 g4 g5 y g6 g7 => ?_⟩
    rw [hi q g1] at g4
    by_cases hqc : q = c
    · subst hqc
      have h0 : 0 < us y := by
        rcases g6 with e | e
        · rw [e]; exact u1
        · rw [e]; exact u2
      have := hc y g7
      omega
    · have := u4 q (by omega) g2 g3 g4 g5 y g6 g7
      have := hm y
      omega
theorem UF_skip {M : Mem} {r c : Nat} {us : Nat → Nat} (h : UF M r us (c + 1)) (hc : ¬ ((c = r ∨ 0 < us c) ∧ M 3 c = 4)) : UF M r us c := by
  intro p h1 h2 h3 h4
  have hpc : p ≠ c := fun e => hc (by subst e; exact ⟨h3, h4⟩)
  obtain ⟨u1, u3, u4⟩ := h p (by omega) h2 h3 h4
  refine ⟨u1, u3, fun q g1 g2 g3 g4 g5 y g6 g7 => ?_⟩
  have hqc : q ≠ c := fun e => hc (by subst e; exact ⟨g4, g5⟩)
  exact u4 q (by omega) g2 g3 g4 g5 y g6 g7
theorem W_use {N k u : Nat} {M : Mem} (hN : N ≤ 120) (h10 : M 1 10 = nI N) (hk : k < N) (hu : M 12 k = nI u) : f_W_countUse (nI k) M = some (ms M 12 k (nI (u + 1))) := by
  rw [f_W_countUse, F_hasNode_t hN h10 hk, ob_s, if_neg (by decide), gd_nI (by omega) (by decide), gd_nI (by omega) (by decide), nI_clamp (by omega), hu, nI_1]
theorem W_use0 {N : Nat} {M : Mem} (h10 : M 1 10 = nI N) : f_W_countUse (-1) M = some M := by
  rw [f_W_countUse, F_hasNode_f h10 (Or.inl (by decide)), ob_s, if_pos rfl]
theorem F_part {N k : Nat} {M : Mem} (hN : N ≤ 120) (h10 : M 1 10 = nI N) (hk : k < N) : f_F_leftPart (nI k) M = some (M 9 k, M) ∧ f_F_rightPart (nI k) M = some (M 10 k, M) := by
  constructor
  · rw [f_F_leftPart, F_hasNode_t hN h10 hk, ob_s, if_neg (by decide), gd_nI (by omega) (by decide), nI_clamp (by omega)]
  · rw [f_F_rightPart, F_hasNode_t hN h10 hk, ob_s, if_neg (by decide), gd_nI (by omega) (by decide), nI_clamp (by omega)]
theorem W_28 {N c : Nat} {k10 : Int32 → Int32 → Mem → Option Mem} {x1 : Int32} {M : Mem} {us : Nat → Nat} {a b : Nat} (hN : N ≤ 120) (h10 : M 1 10 = nI N) (hc : c < N) (ha : M 9 c = nI a) (hb : M 10 c = nI b) (la : a < N) (lb : b < N) (hu : ∀ k, k < 120 → M 12 k = nI (us k)) : ∃ M', f_W_countUses_28 k10 x1 (nI c) M = k10 x1 (nI c + (-1)) M' ∧ (∀ q, q ≠ 12 → M' q = M q) ∧ ∀ k, k < 120 → M' 12 k = nI (us2 us a b k) := by
  have e1 : ms M 12 a (nI (us a + 1)) 1 = M 1 := ms_q (by decide)
  have u1 : ∀ k, k < 120 → ms M 12 a (nI (us a + 1)) 12 k = nI (us k + if k = a then 1 else 0) := fun k hk => by
    by_cases hka : k = a
    · subst hka; rw [ms_s, if_pos rfl]
    · rw [ms_i hka, if_neg hka, Nat.add_zero]; exact hu k hk
  rw [f_W_countUses_28, (F_part hN h10 hc).1, ob_s, ha, W_use hN h10 la (hu a (by omega)), om_s, (F_part hN (by rw [e1]; exact h10) hc).2, ob_s, ms_q (by decide), hb, W_use hN (by rw [e1]; exact h10) lb (u1 b (by omega)), om_s]
  refine ⟨_, rfl, fun q hq => by rw [ms_q hq, ms_q hq], fun k hk => ?_⟩
  unfold us2
  by_cases hkb : k = b
  · subst hkb; rw [ms_s, if_pos (rfl : k = k)]
  · rw [ms_i hkb, if_neg hkb, Nat.add_zero]; exact u1 k hk
theorem K_37 {m c a b : Nat} {K : Mem} {us : Nat → Nat} {r : Nat} (hc : c < 120) (ha : a < 120) (hb : b < 120) (h14 : K 14 c ≠ 0) (h2 : K 2 c = 4) (h3 : K 3 c = nI a) (h5 : K 5 c = nI b) (hu : ∀ k, k < 120 → K 13 k = nI (us k) ∧ K 14 k = bi (decide (k = r ∨ 0 < us k))) : ∃ K', f_K_countUses_37 (m + 1) (nI c) K = f_K_countUses_37 m (nI c + (-1)) K' ∧ (∀ q, q ≠ 13 → q ≠ 14 → K' q = K q) ∧ ∀ k, k < 120 → K' 13 k = nI (us2 us a b k) ∧ K' 14 k = bi (decide (k = r ∨ 0 < us2 us a b k)) := by
  have e1 : ∀ (X : Mem) i x, ms X 14 i x 3 = X 3 := fun X i x => ms_q (by decide)
  have e2 : ∀ (X : Mem) i x, ms X 14 i x 5 = X 5 := fun X i x => ms_q (by decide)
  have e4 : ∀ (X : Mem) i x, ms X 13 i x 5 = X 5 := fun X i x => ms_q (by decide)
  have e5 : ∀ (X : Mem) i x, ms X 14 i x 13 = X 13 := fun X i x => ms_q (by decide)
  rw [f_K_countUses_37, if_neg (nI_pos (by omega)), gd_nI hc (by decide), nI_clamp (by omega), if_neg h14, gd_nI hc (by decide), if_pos h2, gd_nI hc (by decide)]
  simp only [e1, e2, e4, e5, h3, h5, nI_clamp (show a < 2 ^ 31 by omega), nI_clamp (show b < 2 ^ 31 by omega), gd_nI ha (show 120 < 2 ^ 31 by decide), gd_nI hb (show 120 < 2 ^ 31 by decide), gd_nI hc (show 120 < 2 ^ 31 by decide), nar1]
  refine ⟨_, rfl, fun q h1 h2 => by rw [ms_q h1, ms_q h1, ms_q h2, ms_q h2], fun k hk => ⟨?_, ?_⟩⟩
  · have u1 : ∀ (X : Mem) k, k < 120 → X 13 = K 13 → ms X 13 a (K 13 a + 1) 13 k = nI (us k + if k = a then 1 else 0) := fun X k hk hX => by
      by_cases hka : k = a
      · subst hka; rw [ms_s, if_pos rfl, (hu k hk).1, nI_1]
      · rw [ms_i hka, if_neg hka, Nat.add_zero, hX]; exact (hu k hk).1
    unfold us2
    by_cases hkb : k = b
    · subst hkb; rw [ms_s, if_pos (rfl : k = k), u1 _ k hk (by rw [e5, e5]), nI_1]
    · rw [ms_i hkb, if_neg hkb, Nat.add_zero]; exact u1 _ k hk (by rw [e5, e5])
  · rw [ms_q (by decide), ms_q (by decide)]
    unfold us2
    by_cases hkb : k = b
    · subst hkb; rw [ms_s, if_pos (rfl : k = k), decide_eq_true (by omega)]; rfl
    · rw [ms_i hkb, if_neg hkb, Nat.add_zero]
      by_cases hka : k = a
      · subst hka; rw [ms_s, if_pos (rfl : k = k), decide_eq_true (by omega)]; rfl
      · rw [ms_i hka, if_neg hka, Nat.add_zero]; exact (hu k hk).2
theorem uses_loop {n N r : Nat} {v : Nat → Nat} {M0 K0 : Mem} (h : RF n N v M0 K0) (hr : r < N) : ∀ (c m1 m2 : Nat) (M K : Mem) (us : Nat → Nat), c ≤ r → c + 1 < m1 → c + 1 < m2 → (∀ q, q ≠ 12 → M q = M0 q) → (∀ q, q ≠ 13 → q ≠ 14 → K q = K0 q) → UR r us M K → UF M0 r us (c + 1) → (∀ k, us k + 2 * (c + 1) ≤ 240) → ∃ M' K' us', f_W_countUses_10 m1 (nI r) (nI c) M = some M' ∧ f_K_countUses_37 m2 (nI c) K = some K' ∧ (∀ q, q ≠ 12 → M' q = M0 q) ∧ (∀ q, q ≠ 13 → q ≠ 14 → K' q = K0 q) ∧ UR r us' M' K' ∧ UF M0 r us' 0 ∧ ∀ k, us' k ≤ 240 := by
  have hN := h.2.1
  intro c
  have done : ∀ (m1 m2 : Nat) (M K : Mem) (us : Nat → Nat), 0 < m1 → 0 < m2 → (∀ q, q ≠ 12 → M q = M0 q) → (∀ q, q ≠ 13 → q ≠ 14 → K q = K0 q) → UR r us M K → UF M0 r us 0 → (∀ k, us k ≤ 240) → ∃ M' K' us', f_W_countUses_10 m1 (nI r) (nI 0 + (-1)) M = some M' ∧ f_K_countUses_37 m2 (nI 0 + (-1)) K = some K' ∧ (∀ q, q ≠ 12 → M' q = M0 q) ∧ (∀ q, q ≠ 13 → q ≠ 14 → K' q = K0 q) ∧ UR r us' M' K' ∧ UF M0 r us' 0 ∧ ∀ k, us' k ≤ 240 := fun m1 m2 M K us p1 p2 a1 a2 a3 a4 a5 => by
    obtain ⟨m1, rfl⟩ : ∃ m', m1 = m' + 1 := ⟨m1 - 1, by omega⟩
    obtain ⟨m2, rfl⟩ : ∃ m', m2 = m' + 1 := ⟨m2 - 1, by omega⟩
    exact ⟨M, K, us, by rw [f_W_countUses_10, if_pos (by decide)], by rw [f_K_countUses_37, if_pos (by decide)], a1, a2, a3, a4, a5⟩
  induction c with
  | zero =>
    intro m1 m2 M K us hcr l1 l2 hM hK hU hF hB
    obtain ⟨m1, rfl⟩ : ∃ m', m1 = m' + 1 := ⟨m1 - 1, by omega⟩
    obtain ⟨m2, rfl⟩ : ∃ m', m2 = m' + 1 := ⟨m2 - 1, by omega⟩
    have hleaf : M0 3 0 ≠ 4 := fun e => by have := (parts_of h (show 0 < N by omega) e).1; omega
    have h10 : M 1 10 = nI N := by rw [hM 1 (by decide)]; exact h.2.2.2.2.1
    obtain ⟨l9, l10⟩ := leaf_parts h (show 0 < N by omega) hleaf
    have k2 : K 2 0 ≠ 4 := by
      rw [hK 2 (by decide) (by decide)]
      rcases kind_of h (show 0 < N by omega) with ⟨e, -⟩ | ⟨d, -, -, -, -, e⟩
      · exact absurd e hleaf
      · exact e
    have w28 : f_W_countUses_28 (f_W_countUses_10 m1) (nI r) (nI 0) M = f_W_countUses_10 m1 (nI r) (nI 0 + (-1)) M := by
      rw [f_W_countUses_28, (F_part hN h10 (show 0 < N by omega)).1, ob_s, hM 9 (by decide), l9, W_use0 h10, om_s, (F_part hN h10 (show 0 < N by omega)).2, ob_s, hM 10 (by decide), l10, W_use0 h10, om_s]
    have hw : f_W_countUses_10 (m1 + 1) (nI r) (nI 0) M = f_W_countUses_10 m1 (nI r) (nI 0 + (-1)) M := by
      rw [f_W_countUses_10, if_neg (by decide), gd_nI (by decide) (by decide), w28]
      split
      · rfl
      · split <;> rfl
    have hk : f_K_countUses_37 (m2 + 1) (nI 0) K = f_K_countUses_37 m2 (nI 0 + (-1)) K := by
      rw [f_K_countUses_37, if_neg (by decide), gd_nI (by decide) (by decide), gd_nI (by decide) (by decide), nI_clamp (by decide), if_neg k2]
      split <;> rfl
    rw [hw, hk]
    exact done m1 m2 M K us (by omega) (by omega) hM hK hU (UF_skip hF (fun e => hleaf e.2)) (fun k => by have := hB k; omega)
  | succ c ih =>
    intro m1 m2 M K us hcr l1 l2 hM hK hU hF hB
    obtain ⟨m1, rfl⟩ : ∃ m', m1 = m' + 1 := ⟨m1 - 1, by omega⟩
    obtain ⟨m2, rfl⟩ : ∃ m', m2 = m' + 1 := ⟨m2 - 1, by omega⟩
    have hc : c + 1 < N := by omega
    have h10 : M 1 10 = nI N := by rw [hM 1 (by decide)]; exact h.2.2.2.2.1
    obtain ⟨u1, u2, u3⟩ := hU (c + 1) (by omega)
    have hb : us (c + 1) ≤ 240 := by have := hB (c + 1); omega
    by_cases hin : c + 1 = r ∨ 0 < us (c + 1)
    · have hw : f_W_countUses_10 (m1 + 1) (nI r) (nI (c + 1)) M = f_W_countUses_28 (f_W_countUses_10 m1) (nI r) (nI (c + 1)) M := by
        rw [f_W_countUses_10, if_neg (nI_pos (by omega)), gd_nI (by omega) (by decide), nI_clamp (by omega), u1]
        by_cases he : nI (c + 1) = nI r
        · rw [if_pos he]
        · rw [if_neg he]
          have : 0 < us (c + 1) := hin.resolve_left (fun e => he (by rw [e]))
          rw [if_neg (nI_nle this (by omega))]
      rw [hw]
      rw [decide_eq_true hin] at u3
      by_cases h4 : M0 3 (c + 1) = 4
      · obtain ⟨p1, p2, p3, p4, p5, p6⟩ := parts_of h hc h4
        have k2 : K 2 (c + 1) = 4 := by
          rw [hK 2 (by decide) (by decide)]
          rcases kind_of h hc with ⟨-, e⟩ | ⟨d, -, -, -, e, -⟩
          · exact e
          · exact absurd h4 e
        obtain ⟨M1, w1, w2, w3⟩ := W_28 (k10 := f_W_countUses_10 m1) (x1 := nI r) (us := us) hN h10 hc (by rw [hM 9 (by decide)]; exact p3) (by rw [hM 10 (by decide)]; exact p4) (by omega) (by omega) (fun k hk => (hU k hk).1)
        obtain ⟨K1, k1, k3, k4⟩ := K_37 (m := m2) (us := us) (r := r) (show c + 1 < 120 by omega) (show pa M0 (c + 1) < 120 by omega) (show pb M0 (c + 1) < 120 by omega) (by rw [u3]; decide) k2 (by rw [hK 3 (by decide) (by decide)]; exact p5) (by rw [hK 5 (by decide) (by decide)]; exact p6) (fun k hk => (hU k hk).2)
        rw [w1, k1, pk_m1]
        refine ih m1 m2 M1 K1 _ (by omega) (by omega) (by omega) (fun q hq => by rw [w2 q hq, hM q hq]) (fun q a b => by rw [k3 q a b, hK q a b]) (fun k hk => ⟨w3 k hk, k4 k hk⟩) (UF_step hF p1 p2) (fun k => ?_)
        have := hB k
        unfold us2
        split <;> split <;> omega
      · obtain ⟨l9, l10⟩ := leaf_parts h hc h4
        have k2 : K 2 (c + 1) ≠ 4 := by
          rw [hK 2 (by decide) (by decide)]
          rcases kind_of h hc with ⟨e, -⟩ | ⟨d, -, -, -, -, e⟩
          · exact absurd e h4
          · exact e
        have w28 : f_W_countUses_28 (f_W_countUses_10 m1) (nI r) (nI (c + 1)) M = f_W_countUses_10 m1 (nI r) (nI c) M := by
          rw [f_W_countUses_28, (F_part hN h10 hc).1, ob_s, hM 9 (by decide), l9, W_use0 h10, om_s, (F_part hN h10 hc).2, ob_s, hM 10 (by decide), l10, W_use0 h10, om_s, pk_m1]
        have hk : f_K_countUses_37 (m2 + 1) (nI (c + 1)) K = f_K_countUses_37 m2 (nI c) K := by
          rw [f_K_countUses_37, if_neg (nI_pos (by omega)), gd_nI (by omega) (by decide), gd_nI (by omega) (by decide), nI_clamp (by omega), if_neg k2, pk_m1]
          split <;> rfl
        rw [w28, hk]
        exact ih m1 m2 M K us (by omega) (by omega) (by omega) hM hK hU (UF_skip hF (fun e => h4 e.2)) (fun k => by have := hB k; omega)
    · have hw : f_W_countUses_10 (m1 + 1) (nI r) (nI (c + 1)) M = f_W_countUses_10 m1 (nI r) (nI c) M := by
        rw [f_W_countUses_10, if_neg (nI_pos (by omega)), gd_nI (by omega) (by decide), nI_clamp (by omega), u1, if_neg (fun e => hin (Or.inl ((nI_eq (by omega) (by omega)).mp e))), if_pos (show nI (us (c + 1)) ≤ 0 by rw [show us (c + 1) = 0 by omega]; decide), pk_m1]
      have hk : f_K_countUses_37 (m2 + 1) (nI (c + 1)) K = f_K_countUses_37 m2 (nI c) K := by
        rw [decide_eq_false hin] at u3
        rw [f_K_countUses_37, if_neg (nI_pos (by omega)), gd_nI (by omega) (by decide), nI_clamp (by omega), if_pos (by rw [u3]; rfl), pk_m1]
      rw [hw, hk]
      exact ih m1 m2 M K us (by omega) (by omega) (by omega) hM hK hU (UF_skip hF (fun e => hin e.1)) (fun k => by have := hB k; omega)
theorem K_clearUses {r : Nat} : ∀ (c i m : Nat) (K : Mem), i + c = 120 → c < m → (∀ k, k < i → K 13 k = 0 ∧ K 14 k = 0) → ∃ K', f_K_countUses_2 m (nI r) (nI i) K = gd (inb (nI r) 120) (f_K_countUses_37 100000 (nI r) (ms K' 14 (nI r).toNatClampNeg (vp_nar .boolean (1 : Int32)))) ∧ (∀ q, q ≠ 13 → q ≠ 14 → K' q = K q) ∧ ∀ k, k < 120 → K' 13 k = 0 ∧ K' 14 k = 0 := by
  intro c
  induction c with
  | zero =>
    intro i m K hi hm h
    obtain ⟨m, rfl⟩ : ∃ m', m = m' + 1 := ⟨m - 1, by omega⟩
    have : i = 120 := by omega
    subst this
    exact ⟨K, by rw [f_K_countUses_2, if_pos (by decide)], fun _ _ _ => rfl, h⟩
  | succ c ih =>
    intro i m K hi hm h
    obtain ⟨m, rfl⟩ : ∃ m', m = m' + 1 := ⟨m - 1, by omega⟩
    obtain ⟨K', a, b, d⟩ := ih (i + 1) m (ms (ms K 13 i 0) 14 i 0) (by omega) (by omega) (fun k hk => by
      by_cases hki : k = i
      · subst hki; exact ⟨by rw [ms_q (by decide), ms_s], by rw [ms_s]⟩
      · exact ⟨by rw [ms_q (by decide), ms_i hki]; exact (h k (by omega)).1, by rw [ms_i hki, ms_q (by decide)]; exact (h k (by omega)).2⟩)
    refine ⟨K', ?_, fun q h1 h2 => by rw [b q h1 h2, ms_q h2, ms_q h1], d⟩
    rw [f_K_countUses_2, if_neg (show ¬ (120 : Int32) ≤ nI i from nI_ge (b := 120) (by omega) (by decide)), gd_nI (by omega) (by decide), gd_nI (by omega) (by decide), nI_clamp (by omega), nar0, nI_1]
    exact a
theorem both_uses {n N r : Nat} {v : Nat → Nat} {M K : Mem} (h : RF n N v M K) (hr : r < N) : ∃ M' K' us, f_W_countUses (nI r) M = some M' ∧ f_K_countUses (nI r) K = some K' ∧ (∀ q, q ≠ 12 → M' q = M q) ∧ (∀ q, q ≠ 13 → q ≠ 14 → K' q = K q) ∧ UR r us M' K' ∧ UF M r us 0 ∧ ∀ k, us k ≤ 240 := by
  have hN := h.2.1
  obtain ⟨K1, a, b, c⟩ := K_clearUses (r := r) 120 0 100000 K (by omega) (by omega) (fun k hk => absurd hk (Nat.not_lt_zero k))
  rw [f_W_countUses, f_K_countUses, show (0 : Int32) = nI 0 from rfl, a, gd_nI (by omega) (by decide), nI_clamp (by omega), nar1]
  refine uses_loop h hr r 100000 100000 _ _ (fun _ => 0) (Nat.le_refl r) (by omega) (by omega) (fun q hq => mf_q hq) (fun q h1 h2 => by rw [ms_q h2, b q h1 h2]) (fun k hk => ⟨mf_in hk, by rw [ms_q (by decide)]; exact (c k hk).1, ?_⟩) (fun p h1 h2 => absurd h2 (by omega)) (fun k => by omega)
  by_cases hkr : k = r
  · subst hkr; rw [ms_s, decide_eq_true (Or.inl rfl)]; rfl
  · rw [ms_i hkr, decide_eq_false (show ¬ (k = r ∨ 0 < 0) by omega)]; exact (c k hk).2
