/-! PURE: what class and reference agree on -/
def bi (b : Bool) : Int32 := if b then 1 else 0
def NRb (n : Nat) (v : Nat → Nat) (T : Int32) (has says : Nat → Int32) : Prop :=
  (∀ j, 25 ≤ j → ib T j = false) ∧ ∀ i, i < 5 →
    (n ≤ i → ∀ b, b < 5 → ib T (5 * i + b) = true) ∧
    ((has i = 0 ∧ ∀ b, b < 5 → ib T (5 * i + b) = true) ∨ (has i = 1 ∧ ∃ b, b < 5 ∧ ib T (5 * i + b) = false)) ∧
    (i < n → (∀ b, v i ≤ b → b < 4 → ib T (5 * i + b) = ib T (5 * i + 4)) ∧ (has i = 1 → says (5 * i) = bi (ib T (5 * i + 4)) ∧ ∀ b, b < v i → says (5 * i + b + 1) = bi (ib T (5 * i + b))))
def NR (n : Nat) (v : Nat → Nat) (M K : Mem) (k : Nat) : Prop :=
  ∃ d : Nat, d ≤ 4 ∧ M 3 k = nI d ∧ K 2 k = nI d ∧ NRb n v (M 4 k) (fun i => K 7 (5 * k + i)) (fun j => K 8 (25 * k + j)) ∧
    (d = 4 → ∃ a b : Nat, a < k ∧ b < k ∧ M 9 k = nI a ∧ K 3 k = nI a ∧ M 10 k = nI b ∧ K 5 k = nI b) ∧
    (d < 4 → M 9 k = -1 ∧ M 10 k = -1 ∧ ∃ a s : Nat, a < n ∧ s < 2 ^ v a ∧ M 5 k = nI a ∧ K 3 k = nI a ∧ M 6 k = nI s ∧ K 4 k = nI s ∧
      ((d = 0 ∨ d = 2) → ∀ i, i < 5 → i ≠ a → ∀ b, b < 5 → ib (M 4 k) (5 * i + b) = true) ∧
      ((d = 1 ∨ d = 3) → ∃ a2 s2 : Nat, a2 < n ∧ a2 ≠ a ∧ s2 < 2 ^ v a2 ∧ M 7 k = nI a2 ∧ K 5 k = nI a2 ∧ M 8 k = nI s2 ∧ K 6 k = nI s2 ∧ ∀ i, i < 5 → i ≠ a → i ≠ a2 → ∀ b, b < 5 → ib (M 4 k) (5 * i + b) = true))
/-- names and nodes -/
def RF (n N : Nat) (v : Nat → Nat) (M K : Mem) : Prop :=
  n ≤ 5 ∧ N ≤ 120 ∧ M 1 1 = nI n ∧ K 0 2 = nI n ∧ M 1 10 = nI N ∧ K 0 3 = nI N ∧ (∀ i, i < n → v i ≤ 4 ∧ M 2 i = nI (v i) ∧ K 1 i = nI (v i)) ∧ ∀ k, k < N → NR n v M K k
theorem NR_keep {n n' : Nat} {v v' : Nat → Nat} {M K M' K' : Mem} {k : Nat} (h : NR n v M K k) (hn : n ≤ n') (hv : ∀ i, i < n → v' i = v i) (hv4 : ∀ i, i < n → v i ≤ 4) (hM : ∀ q, 3 ≤ q → q ≤ 10 → M' q k = M q k) (hK : ∀ q, 2 ≤ q → q ≤ 6 → K' q k = K q k) (h7 : ∀ i, i < 5 → K' 7 (5 * k + i) = K 7 (5 * k + i)) (h8 : ∀ j, j < 25 → K' 8 (25 * k + j) = K 8 (25 * k + j)) : NR n' v' M' K' k := by
  obtain ⟨d, h1, h2, h3, ⟨h4, h5⟩, h6, h9⟩ := h
  refine ⟨d, h1, by rw [hM 3 (by omega) (by omega)]; exact h2, by rw [hK 2 (by omega) (by omega)]; exact h3, ?_, fun hd => ?_, fun hd => ?_⟩
  · rw [hM 4 (by omega) (by omega)]
    refine ⟨h4, fun i hi => ?_⟩
    obtain ⟨g1, g2, g3⟩ := h5 i hi
    refine ⟨fun hni b hb => g1 (by omega) b hb, ?_, fun hin => ?_⟩
    · show (K' 7 (5 * k + i) = 0 ∧ _) ∨ (K' 7 (5 * k + i) = 1 ∧ _)
      rw [h7 i hi]
      exact g2
    · by_cases hin2 : i < n
      · obtain ⟨e1, e2⟩ := g3 hin2
        rw [hv i hin2]
        refine ⟨e1, fun hh => ?_⟩
        have hh2 : K 7 (5 * k + i) = 1 := by rw [← h7 i hi]; exact hh
        obtain ⟨f1, f2⟩ := e2 hh2
        refine ⟨by show K' 8 (25 * k + 5 * i) = _; rw [h8 (5 * i) (by omega)]; exact f1, fun b hb => ?_⟩
        show K' 8 (25 * k + (5 * i + b + 1)) = _
        rw [h8 (5 * i + b + 1) (by have := hv4 i hin2; omega)]
        exact f2 b hb
      · have hall := g1 (by omega)
        refine ⟨fun b _ hb => by rw [hall b (by omega), hall 4 (by omega)], fun hh => ?_⟩
        have hh2 : K 7 (5 * k + i) = 1 := by rw [← h7 i hi]; exact hh
        rcases g2 with ⟨e1, -⟩ | ⟨-, b, hb, hf⟩
        · exact absurd (e1.symm.trans hh2) (by decide)
        · rw [hall b hb] at hf; cases hf
  · obtain ⟨a, b, e1, e2, e3, e4, e5, e6⟩ := h6 hd
    exact ⟨a, b, e1, e2, by rw [hM 9 (by omega) (by omega)]; exact e3, by rw [hK 3 (by omega) (by omega)]; exact e4, by rw [hM 10 (by omega) (by omega)]; exact e5, by rw [hK 5 (by omega) (by omega)]; exact e6⟩
  · obtain ⟨e1, e2, a, s, e3, e4, e5, e6, e7, e8, e9, e10⟩ := h9 hd
    rw [hM 9 (by omega) (by omega), hM 10 (by omega) (by omega), hM 4 (by omega) (by omega), hM 5 (by omega) (by omega), hM 6 (by omega) (by omega), hK 3 (by omega) (by omega), hK 4 (by omega) (by omega)]
    refine ⟨e1, e2, a, s, by omega, by rw [hv a e3]; exact e4, e5, e6, e7, e8, e9, fun hd2 => ?_⟩
    obtain ⟨a2, s2, f1, f2, f3, f4, f5, f6, f7, f8⟩ := e10 hd2
    rw [hM 7 (by omega) (by omega), hM 8 (by omega) (by omega), hK 5 (by omega) (by omega), hK 6 (by omega) (by omega)]
    exact ⟨a2, s2, by omega, f2, by rw [hv a2 f1]; exact f3, f4, f5, f6, f7, f8⟩

/-- writing the law's mark changes nothing that counts -/
theorem RF_keep {n N : Nat} {v : Nat → Nat} {M K M' K' : Mem} (h : RF n N v M K) (hM : ∀ q, 1 ≤ q → q ≤ 10 → M' q = M q) (hK : ∀ q, 1 ≤ q → q ≤ 8 → K' q = K q) (hK2 : K' 0 2 = K 0 2) (hK3 : K' 0 3 = K 0 3) : RF n N v M' K' := by
  obtain ⟨h1, h2, h3, h4, h5, h6, h7, h8⟩ := h
  refine ⟨h1, h2, by rw [hM 1 (by omega) (by omega)]; exact h3, by rw [hK2]; exact h4, by rw [hM 1 (by omega) (by omega)]; exact h5, by rw [hK3]; exact h6, fun i hi => ?_, fun k hk => ?_⟩
  · rw [hM 2 (by omega) (by omega), hK 1 (by omega) (by omega)]
    exact h7 i hi
  · exact NR_keep (h8 k hk) (Nat.le_refl n) (fun _ _ => rfl) (fun i hi => (h7 i hi).1) (fun q a b => by rw [hM q (by omega) b]) (fun q a b => by rw [hK q (by omega) (by omega)]) (fun i _ => by rw [hK 7 (by omega) (by omega)]) (fun j _ => by rw [hK 8 (by omega) (by omega)])
theorem nI_pm (n : Nat) : nI n + 1 - 1 = nI n := by
  rw [nI_1, nI_pred]
/-- name -/
theorem st_name {n N : Nat} {v : Nat → Nat} {M K : Mem} (h : RF n N v M K) (x : Int32) : ∃ (r : Int32) (M' K' : Mem) (n' : Nat) (v' : Nat → Nat), f_N_name x M = some (r, M') ∧ f_K_name x K = some (r, K') ∧ RF n' N v' M' K' ∧ (∀ q, 3 ≤ q → M' q = M q) ∧ (∀ q, 2 ≤ q → K' q = K q) ∧ (∀ j, j ≠ 1 → M' 1 j = M 1 j) ∧ (∀ j, j ≠ 0 → j ≠ 2 → K' 0 j = K 0 j) := by
  obtain ⟨h1, h2, h3, h4, h5, h6, h7, h8⟩ := id h
  have hk0 : (ms K 0 0 (0 : Int32)) 0 2 = nI n := by rw [ms_i (by decide)]; exact h4
  have hK0 : RF n N v M (ms K 0 0 0) := RF_keep h (fun _ _ _ => rfl) (fun q a _ => ms_q (by omega)) (by rw [ms_i (by decide)]) (by rw [ms_i (by decide)])
  unfold f_N_name f_F_addName f_K_name
  rw [h3, hk0]
  by_cases hn : n = 5
  · subst hn
    refine ⟨-1, M, ms K 0 0 0, 5, v, ?_, ?_, hK0, fun _ _ => rfl, fun q hq => ms_q (by omega), fun _ _ => rfl, fun j hj _ => ms_i hj⟩
    · rw [if_pos (show (5 : Int32) ≤ nI 5 by decide)]; rfl
    · rw [if_pos (show nI 5 = (5 : Int32) by decide)]
  · have hn5 : n < 5 := by omega
    rw [if_neg (show ¬ (5 : Int32) ≤ nI n from nI_ge (b := 5) hn5 (by decide)), if_neg (show ¬ nI n = (5 : Int32) from fun e => hn ((nI_eq (b := 5) (by omega) (by decide)).mp e))]
    by_cases hx : x < 0
    · refine ⟨-1, M, ms K 0 0 0, n, v, ?_, ?_, hK0, fun _ _ => rfl, fun q hq => ms_q (by omega), fun _ _ => rfl, fun j hj _ => ms_i hj⟩
      · rw [if_pos hx]; rfl
      · rw [if_pos hx]
    · rw [if_neg hx, if_neg hx]
      by_cases hx4 : x ≤ 4
      · obtain ⟨w, hw, rfl⟩ := nI_of2 (M := 4) (n := 4) (by decide) hx hx4
        rw [if_pos hx4, if_pos hx4, gd_nI hn5 (by decide), gd_nI hn5 (by decide), nI_clamp (by omega)]
        have e1 : ms M 2 n (nI w) 1 1 = nI n := by rw [ms_q (by decide)]; exact h3
        have e2 : ms (ms K 0 0 (0 : Int32)) 1 n (nI w) 0 2 = nI n := by rw [ms_q (by decide)]; exact hk0
        rw [e1, e2, ms_s, ms_s, nI_pm]
        refine ⟨nI n, _, _, n + 1, fun i => if i = n then w else v i, rfl, rfl, ?_, fun q hq => by rw [ms_q (by omega), ms_q (by omega)], fun q hq => by rw [ms_q (by omega), ms_q (by omega), ms_q (by omega)], fun j hj => by rw [ms_i hj, ms_q (by decide)], fun j h0 h2 => by rw [ms_i h2, ms_q (by decide), ms_i h0]⟩
        refine ⟨by omega, h2, by rw [ms_s, nI_1], by rw [ms_s, nI_1], by rw [ms_i (by decide), ms_q (by decide)]; exact h5, by rw [ms_i (by decide), ms_q (by decide), ms_i (by decide)]; exact h6, fun i hi => ?_, fun k hk => ?_⟩
        · rw [ms_q (q2 := 2) (by decide), ms_q (q2 := 1) (q := 0) (by decide)]
          by_cases hin : i = n
          · subst hin
            rw [ms_s, ms_s]
            dsimp only
            rw [if_pos rfl]
            exact ⟨hw, rfl, rfl⟩
          · rw [ms_i hin, ms_i hin, ms_q (by decide)]
            dsimp only
            rw [if_neg hin]
            exact h7 i (by omega)
        · refine NR_keep (h8 k hk) (Nat.le_succ n) (fun i hi => if_neg (by omega)) (fun i hi => (h7 i hi).1) (fun q a b => ?_) (fun q a b => ?_) (fun i _ => ?_) (fun j _ => ?_)
          · rw [ms_q (by omega), ms_q (by omega)]
          · rw [ms_q (by omega), ms_q (by omega), ms_q (by omega)]
          · rw [ms_q (by omega), ms_q (by omega), ms_q (by omega)]
          · rw [ms_q (by omega), ms_q (by omega), ms_q (by omega)]
      · refine ⟨-1, M, ms K 0 0 0, n, v, ?_, ?_, hK0, fun _ _ => rfl, fun q hq => ms_q (by omega), fun _ _ => rfl, fun j hj _ => ms_i hj⟩
        · rw [if_neg hx4]; rfl
        · rw [if_neg hx4]
