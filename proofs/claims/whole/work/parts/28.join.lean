/-! PURE: joins -/
theorem c_ge : ∀ c, c ≤ 5 → ((4 : Int32) ≤ nI c - 1 ↔ c = 5) := by decide
theorem c_next : ∀ c, c ≤ 5 → nI c - 1 + 1 = nI (c + 1) - 1 := by decide
theorem c_idx (p c : Nat) : nI p + (nI c - 1) + 1 = nI (p + c) := by
  rw [Int32.add_assoc, Int32.sub_add_cancel, nI_add]
theorem K_isSaidC {k i c : Nat} {K : Mem} (hk : k < 120) (hi : i < 5) (hc : c < 5) : f_K_isSaid (nI k) (nI i) (nI c - 1) K = some (vp_nar .boolean (K 8 (25 * k + 5 * i + c)), K) := by
  unfold f_K_isSaid f_K_place
  rw [ob_s, i5, i5m, c_idx, gd_nI (by omega) (by decide), nI_clamp (by omega), show 5 * (5 * k + i) + c = 25 * k + 5 * i + c by omega]
theorem K_tellC {k i c : Nat} {x : Int32} {K : Mem} (hk : k < 120) (hi : i < 5) (hc : c < 5) : f_K_tell (nI k) (nI i) (nI c - 1) x K = some (ms K 8 (25 * k + 5 * i + c) (vp_nar .boolean x)) := by
  unfold f_K_tell f_K_place
  rw [ob_s, i5, i5m, c_idx, gd_nI (by omega) (by decide), nI_clamp (by omega), show 5 * (5 * k + i) + c = 25 * k + 5 * i + c by omega]
def sd (K : Mem) (k i c : Nat) : Bool := !decide (vp_nar .boolean (K 8 (25 * k + 5 * i + c)) = 0)
def jv (same p q x y : Bool) : Bool := if same then ((p && x) || (q && y)) else ((!p || x) && (!q || y))
theorem K_join_step {k73 : Int32 → Int32 → Int32 → Int32 → Mem → Option (Int32 × Mem)} {N a b nm i c m : Nat} {x5 x6 : Int32} {K : Mem} (hN : N < 120) (ha : a < 120) (hb : b < 120) (hi : i < 5) (hnm : nm < 5) (hc : c < 5) (h3 : K 0 3 = nI N) :
    f_K_join_124 k73 (m + 1) (nI a) (nI b) (nI nm) (nI i) x5 x6 (nI c - 1) K = f_K_join_124 k73 m (nI a) (nI b) (nI nm) (nI i) x5 x6 (nI (c + 1) - 1) (ms K 8 (25 * N + 5 * i + c) (bi (jv (decide (i = nm)) (!decide (x5 = 0)) (!decide (x6 = 0)) (sd K a i c) (sd K b i c)))) := by
  have n4 : ¬ (4 : Int32) ≤ nI c - 1 := fun h => by have := (c_ge c (by omega)).mp h; omega
  have e36 : ∀ (x : Int32) (xb : Bool), x = bi xb → f_K_join_236 k73 (f_K_join_124 k73 m) (nI a) (nI b) (nI nm) (nI i) x5 x6 (nI c - 1) x (nI c - 1) (nI i) (nI N) K = f_K_join_124 k73 m (nI a) (nI b) (nI nm) (nI i) x5 x6 (nI (c + 1) - 1) (ms K 8 (25 * N + 5 * i + c) (bi xb)) := fun x xb hx => by
    rw [f_K_join_236, K_tellC hN hi hc, om_s, c_next c (by omega), hx, nar01]
  have e21 : ∀ (y : Int32) (yb : Bool), y = bi yb → f_K_join_221 k73 (f_K_join_124 k73 m) (nI a) (nI b) (nI nm) (nI i) x5 x6 (nI c - 1) y (nI c - 1) (nI i) (nI N) K = f_K_join_124 k73 m (nI a) (nI b) (nI nm) (nI i) x5 x6 (nI (c + 1) - 1) (ms K 8 (25 * N + 5 * i + c) (bi (!(!decide (x6 = 0)) || yb))) := fun y yb hy => by
    rw [f_K_join_221]
    by_cases h6 : x6 = 0
    · rw [if_pos h6, e36 1 true rfl, decide_eq_true h6]; rfl
    · rw [if_neg h6, decide_eq_false h6]
      cases yb
      · rw [if_pos (show y = 0 from hy), e36 0 false rfl]; rfl
      · rw [if_neg (by rw [hy]; decide), e36 1 true rfl]; rfl
  have e76 : ∀ (x y : Int32) (xb yb : Bool), x = bi xb → y = bi yb → f_K_join_176 k73 (f_K_join_124 k73 m) (nI a) (nI b) (nI nm) (nI i) x5 x6 (nI c - 1) x y K = f_K_join_124 k73 m (nI a) (nI b) (nI nm) (nI i) x5 x6 (nI (c + 1) - 1) (ms K 8 (25 * N + 5 * i + c) (bi (if i = nm then xb || yb else (!(!decide (x5 = 0)) || xb) && (!(!decide (x6 = 0)) || yb)))) := fun x y xb yb hx hy => by
    rw [f_K_join_176, h3]
    by_cases hs : i = nm
    · rw [if_pos (show nI i = nI nm by rw [hs]), if_pos hs]
      cases xb
      · rw [if_pos (show x = 0 from hx)]
        cases yb
        · rw [if_pos (show y = 0 from hy), e36 0 false rfl]; rfl
        · rw [if_neg (by rw [hy]; decide), e36 1 true rfl]; rfl
      · rw [if_neg (by rw [hx]; decide), e36 1 true rfl]; rfl
    · rw [if_neg (show ¬ nI i = nI nm from fun e => hs ((nI_eq (by omega) (by omega)).mp e)), if_neg hs]
      by_cases h5 : x5 = 0
      · rw [if_pos h5, e21 y yb hy, decide_eq_true h5]; simp
      · rw [if_neg h5, decide_eq_false h5]
        cases xb
        · rw [if_pos (show x = 0 from hx), e36 0 false rfl]; simp
        · rw [if_neg (by rw [hx]; decide), e21 y yb hy]; simp
  have e52 : ∀ (x : Int32) (xb : Bool), x = bi xb → f_K_join_152 k73 (f_K_join_124 k73 m) (nI a) (nI b) (nI nm) (nI i) x5 x6 (nI c - 1) x K = f_K_join_124 k73 m (nI a) (nI b) (nI nm) (nI i) x5 x6 (nI (c + 1) - 1) (ms K 8 (25 * N + 5 * i + c) (bi (if i = nm then xb || ((!decide (x6 = 0)) && sd K b i c) else (!(!decide (x5 = 0)) || xb) && (!(!decide (x6 = 0)) || ((!decide (x6 = 0)) && sd K b i c))))) := fun x xb hx => by
    rw [f_K_join_152]
    by_cases h6 : x6 = 0
    · rw [if_pos h6, e76 x 0 xb false hx rfl, decide_eq_true h6]; simp
    · rw [if_neg h6, K_isSaidC hb hi hc, ob_s, decide_eq_false h6]
      by_cases hy : vp_nar .boolean (K 8 (25 * b + 5 * i + c)) = 0
      · rw [if_pos hy, e76 x 0 xb false hx rfl, sd, decide_eq_true hy, decide_eq_false h6]; simp
      · rw [if_neg hy, e76 x 1 xb true hx rfl, sd, decide_eq_false hy, decide_eq_false h6]; simp
  rw [f_K_join_124, if_neg n4]
  by_cases h5 : x5 = 0
  · rw [if_pos h5, e52 0 false rfl, decide_eq_true h5]
    congr 3
    unfold jv
    by_cases hs : i = nm
    · simp [hs]
    · cases decide (x6 = 0) <;> simp [hs]
  · rw [if_neg h5, K_isSaidC ha hi hc, ob_s]
    by_cases hx : vp_nar .boolean (K 8 (25 * a + 5 * i + c)) = 0
    · rw [if_pos hx, e52 0 false rfl, decide_eq_false h5, show sd K a i c = false by unfold sd; rw [decide_eq_true hx]; rfl]
      congr 3
      unfold jv
      by_cases hs : i = nm
      · simp [hs]
      · simp [hs]
    · rw [if_neg hx, e52 1 true rfl, decide_eq_false h5, show sd K a i c = true by unfold sd; rw [decide_eq_false hx]; rfl]
      congr 3
      unfold jv
      by_cases hs : i = nm
      · simp [hs]
      · cases decide (x6 = 0) <;> simp [hs]

/-- all five said, then kept -/
theorem K_join_name {k73 : Int32 → Int32 → Int32 → Int32 → Mem → Option (Int32 × Mem)} {N a b nm i w : Nat} {x5 x6 : Int32} (hN : N < 120) (ha : a < N) (hb : b < N) (hi : i < 5) (hnm : nm < 5) (hw : w ≤ 4) :
    ∀ (c d m : Nat) (K : Mem), d + c = 5 → c < m → K 0 3 = nI N → K 1 i = nI w → ∃ K1, f_K_join_124 k73 m (nI a) (nI b) (nI nm) (nI i) x5 x6 (nI d - 1) K = om (f_K_keep (nI N) (nI i) K1) (fun K2 => k73 (nI a) (nI b) (nI nm) (nI i + 1) K2) ∧ (∀ q, q ≠ 8 → K1 q = K q) ∧ (∀ j, (j < 25 * N + 5 * i + d ∨ 25 * N + 5 * i + 5 ≤ j) → K1 8 j = K 8 j) ∧ ∀ e, d ≤ e → e < 5 → K1 8 (25 * N + 5 * i + e) = bi (jv (decide (i = nm)) (!decide (x5 = 0)) (!decide (x6 = 0)) (sd K a i e) (sd K b i e)) := by
  intro c
  induction c with
  | zero =>
    intro d m K hd hm h3 hv
    obtain ⟨m, rfl⟩ : ∃ m', m = m' + 1 := ⟨m - 1, by omega⟩
    have hd5 : d = 5 := by omega
    subst hd5
    rw [f_K_join_124, if_pos ((c_ge 5 (by omega)).mpr rfl), h3]
    exact ⟨K, rfl, fun _ _ => rfl, fun _ _ => rfl, fun e h1 h2 => by omega⟩
  | succ c ih =>
    intro d m K hd hm h3 hv
    obtain ⟨m, rfl⟩ : ∃ m', m = m' + 1 := ⟨m - 1, by omega⟩
    rw [K_join_step hN (by omega) (by omega) hi hnm (by omega) h3]
    obtain ⟨K1, e1, e2, e3, e4⟩ := ih (d + 1) m (ms K 8 (25 * N + 5 * i + d) (bi (jv (decide (i = nm)) (!decide (x5 = 0)) (!decide (x6 = 0)) (sd K a i d) (sd K b i d)))) (by omega) (by omega) (by rw [ms_q (by decide)]; exact h3) (by rw [ms_q (by decide)]; exact hv)
    refine ⟨K1, e1, fun q hq => by rw [e2 q hq, ms_q hq], fun j hj => by rw [e3 j (by omega), ms_i (by omega)], fun e h1 h2 => ?_⟩
    by_cases he : e = d
    · subst he
      rw [e3 _ (by omega), ms_s]
    · rw [e4 e (by omega) h2]
      unfold sd
      rw [ms_i (show 25 * a + 5 * i + e ≠ 25 * N + 5 * i + d by omega), ms_i (show 25 * b + 5 * i + e ≠ 25 * N + 5 * i + d by omega)]
