/-! PURE: the words of a join -/
def cn (T : Int32) (w : Bool) (n : Nat) : Nat := cnt (fun i => hasT T i && (wan T i == w)) n 0
theorem K_counted {n N k : Nat} {w : Bool} {v : Nat → Nat} {M K : Mem} (h : RF n N v M K) (hk : k < N) : f_K_counted (nI k) (bi w) K = some (nI (cn (M 4 k) w n), K) := by
  obtain ⟨h1, h2, h3, h4, h5, h6, h7, h8⟩ := id h
  have hR := h8 k hk
  have loop : ∀ (c i m s : Nat), i + c = n → c < m → f_K_counted_5 m (nI k) (bi w) (nI s) (nI i) K = some (nI (s + cnt (fun i => hasT (M 4 k) i && (wan (M 4 k) i == w)) c i), K) := by
    intro c
    induction c with
    | zero =>
      intro i m s hi hm
      obtain ⟨m, rfl⟩ : ∃ m', m = m' + 1 := ⟨m - 1, by omega⟩
      rw [f_K_counted_5, h4, if_pos (nI_le (by omega) (by omega)), cnt]; rfl
    | succ c ih =>
      intro i m s hi hm
      obtain ⟨m, rfl⟩ : ∃ m', m = m' + 1 := ⟨m - 1, by omega⟩
      have hin : i < n := by omega
      rw [f_K_counted_5, h4, if_neg (nI_ge hin (by omega)), f_K_place, ob_s, i5, gd_nI (by omega) (by decide), nI_clamp (by omega), nI_1 (a := i), nI_1 (a := s), show nI s + 0 = nI s from Int32.add_zero _, cnt]
      rcases hasT_K hR (show i < 5 by omega) with ⟨e1, e2⟩ | ⟨e1, e2⟩
      · rw [if_pos e1, ih (i + 1) m s (by omega) (by omega), e2]
        simp
      · have w0 := ((NR_TR hR hin h1).2.2 e1).1
        rw [if_neg (by rw [e1]; decide), K_isWanted (K := K) (by omega) (by omega) w0, ob_s, show (!(ib (M 4 k) (5 * i + 4))) = wan (M 4 k) i from rfl, e2, Bool.true_and]
        by_cases hw : wan (M 4 k) i = w
        · rw [if_pos (show bi (wan (M 4 k) i) = bi w by rw [hw]), ih (i + 1) m (s + 1) (by omega) (by omega), hw]
          simp [Nat.add_assoc]
        · rw [if_neg (fun e => hw (bi_inj.mp e)), ih (i + 1) m s (by omega) (by omega), if_neg (by simpa using hw)]
          simp
  have := loop n 0 100000 0 (by omega) (by omega)
  rw [Nat.zero_add] at this
  exact this
