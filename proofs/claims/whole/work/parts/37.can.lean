/-! PURE: the reference's search -/
/-- a digit of a world's number, for the first m names -/
def dg (v : Nat → Nat) : Nat → Nat → Nat → Nat
  | 0, _, _ => 0
  | m + 1, c, i => if i = m then c % (v m + 1) else dg v m (c / (v m + 1)) i
def tot (v : Nat → Nat) : Nat → Nat
  | 0 => 1
  | m + 1 => (v m + 1) * tot v m
def ow (u : Nat) : Nat := if u = 0 then 4 else u - 1
theorem dg_le {v : Nat → Nat} : ∀ (m c i : Nat), i < m → dg v m c i ≤ v i := by
  intro m
  induction m with
  | zero => intro c i h; omega
  | succ m ih =>
    intro c i h
    rw [dg]
    by_cases hi : i = m
    · subst hi; rw [if_pos rfl]; have := Nat.mod_lt c (show 0 < v i + 1 by omega); omega
    · rw [if_neg hi]; exact ih _ i (by omega)
theorem dg_0 {v : Nat → Nat} : ∀ (m i : Nat), dg v m 0 i = 0 := by
  intro m
  induction m with
  | zero => intro i; rfl
  | succ m ih => intro i; rw [dg, Nat.zero_mod, Nat.zero_div, ih]; split <;> rfl
theorem dg_of {v : Nat → Nat} : ∀ (m : Nat) (u : Nat → Nat), (∀ i, i < m → u i ≤ v i) → ∃ c, c < tot v m ∧ ∀ i, i < m → dg v m c i = u i := by
  intro m
  induction m with
  | zero => intro u _; exact ⟨0, Nat.one_pos, fun i h => by omega⟩
  | succ m ih =>
    intro u hu
    obtain ⟨c, c1, c2⟩ := ih u (fun i hi => hu i (by omega))
    have hm := hu m (by omega)
    refine ⟨(v m + 1) * c + u m, ?_, fun i hi => ?_⟩
    · rw [tot]
      have : (v m + 1) * (c + 1) ≤ (v m + 1) * tot v m := Nat.mul_le_mul_left _ c1
      rw [Nat.mul_add] at this
      omega
    · rw [dg]
      by_cases him : i = m
      · subst him
        rw [if_pos rfl, Nat.mul_add_mod, Nat.mod_eq_of_lt (by omega)]
      · rw [if_neg him, Nat.mul_add_div (by omega), Nat.div_eq_of_lt (by omega), Nat.add_zero]
        exact c2 i (by omega)
theorem tot_le {v : Nat → Nat} : ∀ m, m ≤ 5 → (∀ i, i < m → v i ≤ 4) → tot v m ≤ 5 ^ m := by
  intro m
  induction m with
  | zero => intro _ _; exact Nat.le_refl 1
  | succ m ih =>
    intro hm hv
    have h1 := ih (by omega) (fun i hi => hv i (by omega))
    have h2 := hv m (by omega)
    rw [tot, Nat.pow_succ, Nat.mul_comm (5 ^ m) 5]
    exact Nat.mul_le_mul (by omega) h1
theorem dv_0 : nI 0 - 1 = (-1 : Int32) := by decide
theorem dv_s {u : Nat} (h : u ≠ 0) : nI u - 1 = nI (u - 1) := by
  obtain ⟨m, rfl⟩ : ∃ m, u = m + 1 := ⟨u - 1, by omega⟩
  rw [nI_pred]; rfl
theorem K_saidW {n k i u : Nat} {v : Nat → Nat} {M K : Mem} (h : NR n v M K k) (hn : n ≤ 5) (hi : i < n) (hk : k < 120) (hv : v i ≤ 4) (hu : u ≤ v i) (h7 : K 7 (5 * k + i) = 1) : f_K_isSaid (nI k) (nI i) (nI u - 1) K = some (bi (ib (M 4 k) (5 * i + ow u)), K) := by
  obtain ⟨-, -, t3⟩ := NR_TR h hi hn
  obtain ⟨e1, e2⟩ := t3 h7
  unfold ow
  by_cases h0 : u = 0
  · subst h0
    rw [dv_0, K_isSaidN hk (by omega), e1, nar01, if_pos rfl]
  · rw [dv_s h0, K_isSaid hk (by omega) (by omega), if_neg h0]
    have := e2 (u - 1) (by omega)
    rw [show K 8 (25 * k + 5 * i + (u - 1) + 1) = _ from this, nar01]
theorem K_isKept {n k : Nat} {v u : Nat → Nat} {M K : Mem} (h : NR n v M K k) (hn : n ≤ 5) (h2 : K 0 2 = nI n) (hk : k < 120) (hv : ∀ i, i < n → v i ≤ 4) (hu : ∀ i, i < n → u i ≤ v i ∧ K 18 i = nI (u i) - 1) :
    ∃ z : Bool, f_K_isKept (nI k) K = some (bi z, K) ∧ (z = true ↔ kept n (M 4 k) (fun i => ow (u i))) := by
  have loop : ∀ (c i m : Nat) (z : Bool), i + c = n → c < m → (z = true ↔ kept i (M 4 k) (fun i => ow (u i))) → ∃ z' : Bool, f_K_isKept_4 m (nI k) (bi (!z)) (nI i) K = some (bi z', K) ∧ (z' = true ↔ kept n (M 4 k) (fun i => ow (u i))) := by
    intro c
    induction c with
    | zero =>
      intro i m z hi hm hz
      obtain ⟨m, rfl⟩ : ∃ m', m = m' + 1 := ⟨m - 1, by omega⟩
      have : i = n := by omega
      subst this
      refine ⟨z, ?_, hz⟩
      rw [f_K_isKept_4, h2, if_pos (nI_le (Nat.le_refl _) (by omega))]
      cases z
      · rw [if_neg (by decide)]; rfl
      · rw [if_pos (by decide)]; rfl
    | succ c ih =>
      intro i m z hi hm hz
      obtain ⟨m, rfl⟩ : ∃ m', m = m' + 1 := ⟨m - 1, by omega⟩
      obtain ⟨u1, u2⟩ := hu i (by omega)
      rw [f_K_isKept_4, h2, if_neg (nI_ge (by omega) (by omega)), nI_1]
      have step : ∀ z2 : Bool, (z2 = true ↔ (z = true ∨ ib (M 4 k) (5 * i + ow (u i)) = false)) → (z2 = true ↔ kept (i + 1) (M 4 k) (fun i => ow (u i))) := by
        intro z2 h2
        rw [h2, hz]
        constructor
        · rintro (⟨j, a, b⟩ | a)
          · exact ⟨j, by omega, b⟩
          · exact ⟨i, by omega, a⟩
        · rintro ⟨j, a, b⟩
          by_cases hj : j = i
          · subst hj; exact Or.inr b
          · exact Or.inl ⟨j, by omega, b⟩
      cases hzz : z
      · subst hzz
        rw [if_neg (by decide), f_K_place, ob_s, i5, gd_nI (by omega) (by decide), nI_clamp (by omega)]
        obtain ⟨t1, -, -⟩ := NR_TR h (show i < n by omega) hn
        have ho : ow (u i) < 5 := by
          have := hv i (by omega)
          unfold ow; split <;> omega
        rcases t1 with ⟨e1, e2⟩ | ⟨e1, -⟩
        · rw [if_pos e1]
          exact ih (i + 1) m false (by omega) (by omega) (step false (by rw [show ib (M 4 k) (5 * i + ow (u i)) = true from e2 _ ho]; simp))
        · rw [if_neg (by rw [e1]; decide), gd_nI (by omega) (by decide), nI_clamp (by omega), u2, K_saidW h hn (by omega) hk (hv i (by omega)) u1 e1, ob_s]
          cases hb : ib (M 4 k) (5 * i + ow (u i))
          · rw [if_pos (by rfl)]
            exact ih (i + 1) m true (by omega) (by omega) (step true (by simp [hb]))
          · rw [if_neg (by decide)]
            exact ih (i + 1) m false (by omega) (by omega) (step false (by simp [hb]))
      · subst hzz
        rw [if_pos (by decide)]
        exact ih (i + 1) m true (by omega) (by omega) (step true (by simp))
  exact loop n 0 100000 false (by omega) (by omega) ⟨fun e => (by cases e), fun ⟨j, a, _⟩ => (by omega)⟩
theorem K_advance {v : Nat → Nat} {K : Mem} : ∀ (m c f : Nat) (K1 : Mem), m ≤ 5 → m < f → c < tot v m → (∀ i, i < m → v i ≤ 4 ∧ K1 1 i = nI (v i) ∧ K1 18 i = nI (dg v m c i) - 1) → (∀ q, q ≠ 18 → K1 q = K q) →
    ∃ K' : Mem, f_K_advance_7 f (nI m - 1) K1 = some (bi (decide (c + 1 < tot v m)), K') ∧ (∀ q, q ≠ 18 → K' q = K q) ∧ (∀ i, m ≤ i → K' 18 i = K1 18 i) ∧ (c + 1 < tot v m → ∀ i, i < m → K' 18 i = nI (dg v m (c + 1) i) - 1) := by
  intro m
  induction m with
  | zero =>
    intro c f K1 _ hf hc hK hq
    obtain ⟨f, rfl⟩ : ∃ m', f = m' + 1 := ⟨f - 1, by omega⟩
    rw [tot] at *
    rw [dv_0, f_K_advance_7, if_pos (by decide), f_K_advance_41, if_pos (by decide), if_pos (by decide)]
    exact ⟨K1, by rw [decide_eq_false (by omega)]; rfl, hq, fun _ _ => rfl, fun h => by omega⟩
  | succ m ih =>
    intro c f K1 hm hf hc hK hq
    obtain ⟨f, rfl⟩ : ∃ m', f = m' + 1 := ⟨f - 1, by omega⟩
    obtain ⟨k1, k2, k3⟩ := hK m (by omega)
    rw [dg, if_pos rfl] at k3
    have hlt := Nat.mod_lt c (show 0 < v m + 1 by omega)
    have hdm := Nat.div_add_mod c (v m + 1)
    have hcd : c / (v m + 1) < tot v m := by
      rw [tot] at hc
      exact Nat.div_lt_of_lt_mul hc
    have neg : ¬ nI m < 0 := nI_lt0 (by omega)
    rw [f_K_advance_7, dv_s (by omega), Nat.add_sub_cancel, if_neg neg, gd_nI (by omega) (by decide), gd_nI (by omega) (by decide), nI_clamp (by omega), k2, k3]
    have hmul : (v m + 1) * (c / (v m + 1) + 1) ≤ (v m + 1) * tot v m := Nat.mul_le_mul_left _ hcd
    rw [Nat.mul_add, Nat.mul_one] at hmul
    by_cases hd : c % (v m + 1) = v m
    · rw [if_pos (by rw [hd]), gd_nI (by omega) (by decide), show nI m + -1 = nI m - 1 from (Int32.sub_eq_add_neg (nI m) 1).symm]
      have e1 : (c + 1) % (v m + 1) = 0 := by
        rw [show c + 1 = (v m + 1) * (c / (v m + 1) + 1) by rw [Nat.mul_add]; omega, Nat.mul_mod_right]
      have e2 : (c + 1) / (v m + 1) = c / (v m + 1) + 1 := by
        rw [show c + 1 = (v m + 1) * (c / (v m + 1) + 1) by rw [Nat.mul_add]; omega, Nat.mul_div_right _ (by omega)]
      obtain ⟨K', g1, g2, g3, g4⟩ := ih (c / (v m + 1)) f (ms K1 18 m (-1)) (by omega) (by omega) hcd (fun i hi => by
        obtain ⟨a, b, d⟩ := hK i (by omega)
        refine ⟨a, by rw [ms_q (by decide)]; exact b, ?_⟩
        rw [ms_i (by omega), d, dg, if_neg (by omega)]) (fun q hqq => by rw [ms_q hqq, hq q hqq])
      have hiff : (c / (v m + 1) + 1 < tot v m) ↔ (c + 1 < tot v (m + 1)) := by
        rw [tot]
        constructor
        · intro hh
          have : (v m + 1) * (c / (v m + 1) + 1 + 1) ≤ (v m + 1) * tot v m := Nat.mul_le_mul_left _ hh
          rw [Nat.mul_add, Nat.mul_add] at this
          omega
        · intro hh
          apply Nat.lt_of_mul_lt_mul_left (a := v m + 1)
          rw [Nat.mul_add]
          omega
      refine ⟨K', by rw [g1, decide_eq_decide.mpr hiff], g2, fun i hi => by rw [g3 i (by omega), ms_i (by omega)], fun hh i hi => ?_⟩
      rw [dg, e1, e2]
      by_cases him : i = m
      · subst him
        rw [if_pos rfl, g3 i (Nat.le_refl i), ms_s]; rfl
      · rw [if_neg him]
        exact g4 (hiff.mpr hh) i (by omega)
    · have hne : ¬ (nI (c % (v m + 1)) - 1 = nI (v m) - 1) := by
        intro e
        apply hd
        have e' : nI (c % (v m + 1)) = nI (v m) := by
          have := congrArg (fun x : Int32 => x + 1) e
          simpa [Int32.sub_add_cancel] using this
        exact (nI_eq (by omega) (by omega)).mp e'
      have e0 : (c + 1) = (v m + 1) * (c / (v m + 1)) + (c % (v m + 1) + 1) := by omega
      have e1 : (c + 1) % (v m + 1) = c % (v m + 1) + 1 := by
        rw [e0, Nat.mul_add_mod, Nat.mod_eq_of_lt (by omega)]
      have e2 : (c + 1) / (v m + 1) = c / (v m + 1) := by
        rw [e0, Nat.mul_add_div (by omega), Nat.div_eq_of_lt (a := c % (v m + 1) + 1) (by omega), Nat.add_zero]
      rw [if_neg hne, f_K_advance_41, if_neg neg, gd_nI (by omega) (by decide), gd_nI (by omega) (by decide), if_neg neg, nI_clamp (by omega), k3]
      have ht : c + 1 < tot v (m + 1) := by rw [tot]; omega
      refine ⟨_, by rw [decide_eq_true ht]; rfl, fun q hqq => by rw [ms_q hqq, hq q hqq], fun i hi => ms_i (by omega), fun _ i hi => ?_⟩
      rw [dg, e1, e2]
      by_cases him : i = m
      · subst him
        rw [if_pos rfl, ms_s, ← nI_1, Int32.sub_add_cancel, nI_pm]
      · rw [if_neg him, ms_i him]
        have := (hK i (by omega)).2.2
        rw [dg, if_neg him] at this
        exact this
