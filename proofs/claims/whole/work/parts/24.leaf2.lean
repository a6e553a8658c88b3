/-! PURE: the step leaf -/
theorem av_eq : ∀ w, w ≤ 4 → (1 : Int32) <<< (nI w &&& 31) - 1 = nI (2 ^ w - 1) := by decide
theorem av_ib (w : Nat) (hw : w ≤ 4) (j : Nat) : ib (nI (2 ^ w - 1)) j = decide (j < w) := by
  by_cases h : j < 32
  · have : ∀ w, w ≤ 4 → ∀ j, j < 32 → ib (nI (2 ^ w - 1)) j = decide (j < w) := by decide
    exact this w hw j h
  · rw [ib_hi (by omega)]
    exact (decide_eq_false (by omega)).symm
/-- a told set: its bits, and that it is small -/
theorem told_eq (x : Int32) (w : Nat) (hw : w ≤ 4) : ∃ s : Nat, s < 2 ^ w ∧ x &&& nI (2 ^ w - 1) = nI s ∧ ∀ j, ib (nI s) j = (ib x j && decide (j < w)) := by
  refine ⟨x.toBitVec.toNat % 2 ^ w, Nat.mod_lt _ (Nat.pow_pos (by decide)), pk_and x w ?_, fun j => ?_⟩
  · have : ∀ w, w ≤ 4 → (nI (2 ^ w - 1)).toBitVec.toNat = 2 ^ w - 1 := by decide
    exact this w hw
  · rw [← pk_and x (m := nI (2 ^ w - 1)) w (by
      have : ∀ w, w ≤ 4 → (nI (2 ^ w - 1)).toBitVec.toNat = 2 ^ w - 1 := by decide
      exact this w hw), ib_and, av_ib w hw]
def TR (ver : Nat) (t : Nat → Bool) (hs s0 : Int32) (s : Nat → Int32) : Prop :=
  ((hs = 0 ∧ ∀ b, b < 5 → t b = true) ∨ (hs = 1 ∧ ∃ b, b < 5 ∧ t b = false)) ∧ (∀ b, ver ≤ b → b < 4 → t b = t 4) ∧ (hs = 1 → s0 = bi (t 4) ∧ ∀ b, b < ver → s b = bi (t b))
theorem mk_TR {N a ver s : Nat} {set : Int32} {w : Bool} {K K' : Mem} (hver : ver ≤ 4) (h : mkPost N a ver set w K K') (hs : ∀ j, ib (nI s) j = (ib set j && decide (j < ver))) :
    TR ver (fun b => if w then ib (nI s) b else !(ib (nI s) b)) (K' 7 (5 * N + a)) (K' 8 (25 * N + 5 * a)) (fun b => K' 8 (25 * N + 5 * a + b + 1)) := by
  obtain ⟨-, -, -, e4, e5, e6⟩ := h
  have h4 : ib (nI s) 4 = false := by rw [hs]; simp; omega
  have hge : ∀ b, ver ≤ b → ib (nI s) b = false := fun b hb => by rw [hs]; simp; omega
  have hlt : ∀ b, b < ver → ib (nI s) b = ib set b := fun b hb => by rw [hs, decide_eq_true hb]; simp
  cases w
  · refine ⟨?_, fun b h1 _ => ?_, fun _ => ⟨?_, fun b hb => ?_⟩⟩
    · rcases e6 with ⟨f1, -, f3⟩ | ⟨f1, f2⟩
      · refine Or.inl ⟨f1, fun b _ => ?_⟩
        by_cases hb : b < ver
        · simp [hlt b hb, f3 b hb]
        · simp [hge b (by omega)]
      · refine Or.inr ⟨f1, ?_⟩
        rcases f2 with f2 | ⟨b, hb, hf⟩
        · cases f2
        · exact ⟨b, by omega, by simp [hlt b hb, hf]⟩
    · simp [hge b h1, h4]
    · rw [e4]; simp [h4]
    · show K' 8 (25 * N + 5 * a + b + 1) = _
      rw [e5 b (by omega)]
      simp [hlt b hb]
  · refine ⟨?_, fun b h1 _ => ?_, fun _ => ⟨?_, fun b hb => ?_⟩⟩
    · rcases e6 with ⟨-, f2, -⟩ | ⟨f1, -⟩
      · cases f2
      · exact Or.inr ⟨f1, 4, by omega, by simp [h4]⟩
    · simp [hge b h1, h4]
    · rw [e4]; simp [h4]
    · show K' 8 (25 * N + 5 * a + b + 1) = _
      rw [e5 b (by omega)]
      simp [hlt b hb]
/-- a name, or none such -/
theorem nm_cases (x : Int32) {n : Nat} (hn : n ≤ 120) : (∃ a : Nat, a < n ∧ x = nI a) ∨ ((x < 0 ∨ nI n ≤ x) ∧ ∀ a : Nat, a < n → x ≠ nI a) := by
  rcases pk_ix x (n := n) (by omega) with h | h | ⟨j, hj, rfl⟩
  · exact Or.inr ⟨Or.inl h, fun a ha e => by rw [e] at h; exact nI_pos (by omega) h⟩
  · exact Or.inr ⟨Or.inr h, fun a ha e => by rw [e] at h; exact nI_ge (by omega) (by omega) h⟩
  · exact Or.inl ⟨j, hj, rfl⟩
theorem F_hasName_t {n a : Nat} {M : Mem} (hn : n ≤ 120) (h : M 1 1 = nI n) (ha : a < n) : f_F_hasName (nI a) M = some (1, M) := by
  rw [f_F_hasName, if_neg (nI_pos (by omega)), h, if_neg (nI_ge ha (by omega))]
theorem F_hasName_f {n : Nat} {M : Mem} {x : Int32} (h : M 1 1 = nI n) (hx : x < 0 ∨ nI n ≤ x) : f_F_hasName x M = some (0, M) := by
  rw [f_F_hasName, h]
  by_cases h1 : x < 0
  · rw [if_pos h1]
  · rw [if_neg h1, if_pos (hx.resolve_left h1)]
theorem F_hasNode_t {n a : Nat} {M : Mem} (hn : n ≤ 120) (h : M 1 10 = nI n) (ha : a < n) : f_F_hasNode (nI a) M = some (1, M) := by
  rw [f_F_hasNode, if_neg (nI_pos (by omega)), h, if_neg (nI_ge ha (by omega))]
theorem F_hasNode_f {n : Nat} {M : Mem} {x : Int32} (h : M 1 10 = nI n) (hx : x < 0 ∨ nI n ≤ x) : f_F_hasNode x M = some (0, M) := by
  rw [f_F_hasNode, h]
  by_cases h1 : x < 0
  · rw [if_pos h1]
  · rw [if_neg h1, if_pos (hx.resolve_left h1)]
theorem K_isName_t {n a : Nat} {M : Mem} (hn : n ≤ 120) (h : M 0 2 = nI n) (ha : a < n) : f_K_isName (nI a) M = some (1, M) := by
  rw [f_K_isName, if_neg (nI_pos (by omega)), h, if_neg (nI_ge ha (by omega))]
theorem K_isName_f {n : Nat} {M : Mem} {x : Int32} (h : M 0 2 = nI n) (hx : x < 0 ∨ nI n ≤ x) : f_K_isName x M = some (0, M) := by
  rw [f_K_isName, h]
  by_cases h1 : x < 0
  · rw [if_pos h1]
  · rw [if_neg h1, if_pos (hx.resolve_left h1)]
theorem K_isNode_t {n a : Nat} {M : Mem} (hn : n ≤ 120) (h : M 0 3 = nI n) (ha : a < n) : f_K_isNode (nI a) M = some (1, M) := by
  rw [f_K_isNode, if_neg (nI_pos (by omega)), h, if_neg (nI_ge ha (by omega))]
theorem K_isNode_f {n : Nat} {M : Mem} {x : Int32} (h : M 0 3 = nI n) (hx : x < 0 ∨ nI n ≤ x) : f_K_isNode x M = some (0, M) := by
  rw [f_K_isNode, h]
  by_cases h1 : x < 0
  · rw [if_pos h1]
  · rw [if_neg h1, if_pos (hx.resolve_left h1)]
theorem F_allVersions {n a w : Nat} {M : Mem} (hn : n ≤ 5) (h : M 1 1 = nI n) (ha : a < n) (hw : w ≤ 4) (hv : M 2 a = nI w) : f_F_allVersions (nI a) M = some (nI (2 ^ w - 1), M) := by
  rw [f_F_allVersions, F_hasName_t (by omega) h ha, ob_s, if_neg (by decide), gd_nI (by omega) (by decide), nI_clamp (by omega), hv, av_eq w hw]
theorem F_addNode {N : Nat} {M : Mem} (hN : N < 120) (h : M 1 10 = nI N) (x y : Int32) : f_F_addNode x y M = some (nI N, ms (ms (ms M 3 N x) 4 N y) 1 10 (nI (N + 1))) := by
  have e1 : ms M 3 N x 1 10 = nI N := by rw [ms_q (by decide)]; exact h
  have e2 : ms (ms M 3 N x) 4 N y 1 10 = nI N := by rw [ms_q (by decide)]; exact e1
  rw [f_F_addNode, h, gd_nI hN (by decide), nI_clamp (by omega), e1, gd_nI hN (by decide), nI_clamp (by omega), e2, ms_s, nI_pm, nI_1]
