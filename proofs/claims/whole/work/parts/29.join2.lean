/-- a name's term, kept -/
theorem TR_keep {w p : Nat} {t : Nat → Bool} {K : Mem} (hw : w ≤ 4) (h0 : K 8 p = bi (t 4)) (h1 : ∀ e, e < w → K 8 (p + e + 1) = bi (t e)) (h2 : ∀ e, w ≤ e → e < 4 → t e = t 4) :
    TR w t (bi (!(decide (K 8 p = 1) && allS K p w 0))) (K 8 p) (fun e => K 8 (p + e + 1)) := by
  refine ⟨?_, h2, fun _ => ⟨h0, h1⟩⟩
  by_cases hall : (decide (K 8 p = 1) && allS K p w 0) = true
  · rw [hall]
    rw [Bool.and_eq_true, decide_eq_true_eq, allS_iff] at hall
    have t4 : t 4 = true := bi_1.mp (h0.symm.trans hall.1)
    refine Or.inl ⟨rfl, fun e he => ?_⟩
    by_cases hew : e < w
    · exact bi_1.mp ((h1 e hew).symm.trans (hall.2 e (by omega) (by omega)))
    · by_cases he4 : e = 4
      · subst he4; exact t4
      · rw [h2 e (by omega) (by omega)]; exact t4
  · rw [Bool.not_eq_true] at hall
    rw [hall]
    refine Or.inr ⟨rfl, ?_⟩
    apply Classical.byContradiction
    intro hne
    have hall2 : ∀ e, e < 5 → t e = true := fun e he => by
      cases hte : t e
      · exact absurd ⟨e, he, hte⟩ hne
      · rfl
    have : (decide (K 8 p = 1) && allS K p w 0) = true := by
      rw [Bool.and_eq_true, decide_eq_true_eq, allS_iff]
      exact ⟨by rw [h0, hall2 4 (by omega)]; rfl, fun e _ he => by rw [h1 e (by omega), hall2 e (by omega)]; rfl⟩
    rw [this] at hall
    cases hall
def ndPost (N : Nat) (K K' : Mem) : Prop :=
  (∀ q, (q = 1 ∨ 9 ≤ q) → K' q = K q) ∧ (∀ j, j ≠ 0 → j ≠ 3 → K' 0 j = K 0 j) ∧ K' 0 3 = nI (N + 1) ∧ (∀ q j, 2 ≤ q → q ≤ 6 → j ≠ N → K' q j = K q j) ∧ (∀ j, (j < 5 * N ∨ 5 * N + 5 ≤ j) → K' 7 j = K 7 j) ∧ (∀ j, (j < 25 * N ∨ 25 * N + 25 ≤ j) → K' 8 j = K 8 j)
/-- the reference's loop over the names of a join; ta, tb: the bits of the two nodes -/
theorem K_join_loop {N n a b nm : Nat} {v : Nat → Nat} {ta tb : Nat → Nat → Bool} {K0 : Mem} (hN : N < 120) (hn : n ≤ 5) (ha : a < N) (hb : b < N) (hnm : nm < n) (hv : ∀ i, i < n → v i ≤ 4 ∧ K0 1 i = nI (v i))
    (hA : ∀ i, i < n → TR (v i) (ta i) (K0 7 (5 * a + i)) (K0 8 (25 * a + 5 * i)) (fun e => K0 8 (25 * a + 5 * i + e + 1))) (hB : ∀ i, i < n → TR (v i) (tb i) (K0 7 (5 * b + i)) (K0 8 (25 * b + 5 * i)) (fun e => K0 8 (25 * b + 5 * i + e + 1)))
    (hpa : K0 7 (5 * a + nm) = 1) (hpb : K0 7 (5 * b + nm) = 1) :
    ∀ (c i m : Nat) (K : Mem), i + c = n → c < m → K 0 3 = nI N → K 0 2 = nI n → K 1 = K0 1 → (∀ j, j < 5 * N → K 7 j = K0 7 j) → (∀ j, j < 25 * N → K 8 j = K0 8 j) → (∀ j, i ≤ j → j < 5 → K 7 (5 * N + j) = 0) →
      ∃ K', f_K_join_73 m (nI a) (nI b) (nI nm) (nI i) K = some (nI N, K') ∧ ndPost N K K' ∧ K' 2 N = nI 4 ∧ K' 3 N = nI a ∧ K' 5 N = nI b ∧ (∀ j, j < i → K' 7 (5 * N + j) = K 7 (5 * N + j) ∧ ∀ e, e < 5 → K' 8 (25 * N + 5 * j + e) = K 8 (25 * N + 5 * j + e)) ∧ (∀ j, n ≤ j → j < 5 → K' 7 (5 * N + j) = 0) ∧
        ∀ j, i ≤ j → j < n → (K' 7 (5 * N + j) = 0 ∧ ∀ e, e < 5 → (if j = nm then (ta j e || tb j e) else (ta j e && tb j e)) = true) ∨ TR (v j) (fun e => if j = nm then (ta j e || tb j e) else (ta j e && tb j e)) (K' 7 (5 * N + j)) (K' 8 (25 * N + 5 * j)) (fun e => K' 8 (25 * N + 5 * j + e + 1)) := by
  intro c
  induction c with
  | zero =>
    intro i m K hi hm h3 h2 hv1 h7 h8 hz
    obtain ⟨m, rfl⟩ : ∃ m', m = m' + 1 := ⟨m - 1, by omega⟩
    have hin : i = n := by omega
    subst hin
    have e1 : ms K 2 N (4 : Int32) 0 3 = nI N := by rw [ms_q (by decide)]; exact h3
    have e2 : ms (ms K 2 N (4 : Int32)) 3 N (nI a) 0 3 = nI N := by rw [ms_q (by decide)]; exact e1
    have e3 : ms (ms (ms K 2 N (4 : Int32)) 3 N (nI a)) 5 N (nI b) 0 3 = nI N := by rw [ms_q (by decide)]; exact e2
    rw [f_K_join_73, h2, if_pos (nI_le (Nat.le_refl i) (by omega)), h3, gd_nI hN (by decide), nI_clamp (by omega), e1, gd_nI hN (by decide), nI_clamp (by omega), e2, gd_nI hN (by decide), nI_clamp (by omega), e3, ms_s, nI_pm, nI_1]
    refine ⟨_, rfl, ⟨fun q hq => ?_, fun j h0 h3 => ?_, ms_s _ _ _ _, fun q j q1 q2 hj => ?_, fun j _ => ?_, fun j _ => ?_⟩, ?_, ?_, ?_, fun j _ => ⟨?_, fun e _ => ?_⟩, fun j h1 h2 => ?_, fun j h1 h2 => by omega⟩
    · rw [ms_q (by omega), ms_q (by omega), ms_q (by omega), ms_q (by omega)]
    · rw [ms_i h3, ms_q (by decide), ms_q (by decide), ms_q (by decide)]
    · rw [ms_q (by omega), ms_qi, ms_qi, ms_qi, if_neg (by omega), if_neg (by omega), if_neg (by omega)]
    · rw [ms_q (by decide), ms_q (by decide), ms_q (by decide), ms_q (by decide)]
    · rw [ms_q (by decide), ms_q (by decide), ms_q (by decide), ms_q (by decide)]
    · rw [ms_q (by decide), ms_q (by decide), ms_q (by decide), ms_s]; rfl
    · rw [ms_q (by decide), ms_q (by decide), ms_s]
    · rw [ms_q (by decide), ms_s]
    · rw [ms_q (by decide), ms_q (by decide), ms_q (by decide), ms_q (by decide)]
    · rw [ms_q (by decide), ms_q (by decide), ms_q (by decide), ms_q (by decide)]
    · rw [ms_q (by decide), ms_q (by decide), ms_q (by decide), ms_q (by decide)]
      exact hz j h1 h2
  | succ c ih =>
    intro i m K hi hm h3 h2 hv1 h7 h8 hz
    obtain ⟨m, rfl⟩ : ∃ m', m = m' + 1 := ⟨m - 1, by omega⟩
    have hin : i < n := by omega
    obtain ⟨w1, w2⟩ := hv i hin
    obtain ⟨A1, A2, A3⟩ := hA i hin
    obtain ⟨B1, B2, B3⟩ := hB i hin
    have a7 : K 7 (5 * a + i) = K0 7 (5 * a + i) := h7 _ (by omega)
    have b7 : K 7 (5 * b + i) = K0 7 (5 * b + i) := h7 _ (by omega)
    rw [f_K_join_73, h2, if_neg (nI_ge hin (by omega)), f_K_place, ob_s, i5, gd_nI (by omega) (by decide), f_K_place, ob_s, i5, gd_nI (by omega) (by decide), nI_clamp (by omega), nI_clamp (by omega)]
    by_cases hskip : K 7 (5 * a + i) = 0 ∧ K 7 (5 * b + i) = 0
    · rw [if_pos hskip.1, if_pos hskip.2, nI_1]
      obtain ⟨K', f1, f2, f3, f4, f5, f6, f7, f8⟩ := ih (i + 1) m K (by omega) (by omega) h3 h2 hv1 h7 h8 (fun j h1 h2 => hz j (by omega) h2)
      refine ⟨K', f1, f2, f3, f4, f5, fun j hj => f6 j (by omega), f7, fun j h1 h2 => ?_⟩
      by_cases hji : j = i
      · subst hji
        refine Or.inl ⟨by rw [(f6 j (by omega)).1]; exact hz j (Nat.le_refl j) (by omega), fun e he => ?_⟩
        have hta : ∀ e, e < 5 → ta j e = true := by
          rcases A1 with ⟨-, A1⟩ | ⟨A1, -⟩
          · exact A1
          · rw [← a7, hskip.1] at A1; exact absurd A1 (by decide)
        have htb : ∀ e, e < 5 → tb j e = true := by
          rcases B1 with ⟨-, B1⟩ | ⟨B1, -⟩
          · exact B1
          · rw [← b7, hskip.2] at B1; exact absurd B1 (by decide)
        rw [hta e he, htb e he]; simp
      · exact f8 j (by omega) h2
    · have hgo : (if K 7 (5 * a + i) = 0 then if K 7 (5 * b + i) = 0 then f_K_join_73 m (nI a) (nI b) (nI nm) (nI i + 1) K else f_K_join_124 (f_K_join_73 m) 100000 (nI a) (nI b) (nI nm) (nI i) (K 7 (5 * a + i)) (K 7 (5 * b + i)) (-1 : Int32) K else f_K_join_124 (f_K_join_73 m) 100000 (nI a) (nI b) (nI nm) (nI i) (K 7 (5 * a + i)) (K 7 (5 * b + i)) (-1 : Int32) K) = f_K_join_124 (f_K_join_73 m) 100000 (nI a) (nI b) (nI nm) (nI i) (K 7 (5 * a + i)) (K 7 (5 * b + i)) (nI 0 - 1) K := by
        by_cases ha0 : K 7 (5 * a + i) = 0
        · rw [if_pos ha0, if_neg (fun hb0 => hskip ⟨ha0, hb0⟩)]; rfl
        · rw [if_neg ha0]; rfl
      rw [hgo]
      obtain ⟨K1, g1, g2, g3, g4⟩ := K_join_name (k73 := f_K_join_73 m) (N := N) (a := a) (b := b) (nm := nm) (i := i) (w := v i) (x5 := K 7 (5 * a + i)) (x6 := K 7 (5 * b + i)) hN ha hb (by omega) (by omega) w1 5 0 100000 K (by omega) (by omega) h3 (by rw [hv1]; exact w2)
      have hval : ∀ e f, (f = 4 ∧ e = 0) ∨ (f < v i ∧ e = f + 1) → jv (decide (i = nm)) (!decide (K 7 (5 * a + i) = 0)) (!decide (K 7 (5 * b + i) = 0)) (sd K a i e) (sd K b i e) = (if i = nm then (ta i f || tb i f) else (ta i f && tb i f)) := by
        intro e f hef
        have sa : K0 7 (5 * a + i) = 1 → sd K a i e = ta i f := by
          intro h1
          unfold sd
          rw [h8 (25 * a + 5 * i + e) (by omega)]
          rcases hef with ⟨rfl, rfl⟩ | ⟨hf, rfl⟩
          · have := (A3 h1).1
            rw [Nat.add_zero, this, nar01]
            cases ta i 4 <;> decide
          · have := (A3 h1).2 f hf
            dsimp only at this
            rw [← Nat.add_assoc, this, nar01]
            cases ta i f <;> decide
        have sb : K0 7 (5 * b + i) = 1 → sd K b i e = tb i f := by
          intro h1
          unfold sd
          rw [h8 (25 * b + 5 * i + e) (by omega)]
          rcases hef with ⟨rfl, rfl⟩ | ⟨hf, rfl⟩
          · have := (B3 h1).1
            rw [Nat.add_zero, this, nar01]
            cases tb i 4 <;> decide
          · have := (B3 h1).2 f hf
            dsimp only at this
            rw [← Nat.add_assoc, this, nar01]
            cases tb i f <;> decide
        have hf5 : f < 5 := by omega
        unfold jv
        by_cases hs : i = nm
        · have ea : K0 7 (5 * a + i) = 1 := by rw [hs]; exact hpa
          have eb : K0 7 (5 * b + i) = 1 := by rw [hs]; exact hpb
          rw [sa ea, sb eb, a7, b7, ea, eb]
          simp [hs]
        · rw [a7, b7]
          rcases A1 with ⟨A1, A1'⟩ | ⟨A1, -⟩ <;> rcases B1 with ⟨B1, B1'⟩ | ⟨B1, -⟩
          · rw [A1, B1, A1' f hf5, B1' f hf5]; simp [hs]
          · rw [A1, B1, A1' f hf5, sb B1]; simp [hs]
          · rw [A1, B1, B1' f hf5, sa A1]; simp [hs]
          · rw [A1, B1, sa A1, sb B1]; simp [hs]
      have s0 : K1 8 (25 * N + 5 * i) = bi (if i = nm then (ta i 4 || tb i 4) else (ta i 4 && tb i 4)) := by
        have := g4 0 (by omega) (by omega)
        rw [hval 0 4 (Or.inl ⟨rfl, rfl⟩)] at this
        exact this
      have se : ∀ e, e < v i → K1 8 (25 * N + 5 * i + e + 1) = bi (if i = nm then (ta i e || tb i e) else (ta i e && tb i e)) := by
        intro e he
        have := g4 (e + 1) (by omega) (by omega)
        rw [hval (e + 1) e (Or.inr ⟨he, rfl⟩)] at this
        exact this
      have hkeep := K_keep (k := N) (a := i) (w := v i) (K := K1) hN (by omega) w1 (by rw [g2 1 (by decide), hv1]; exact w2) (fun e he => by rw [se e he]; exact bi_is _) (by rw [s0]; exact bi_is _)
      have hTR := TR_keep (w := v i) (p := 25 * N + 5 * i) (t := fun e => if i = nm then (ta i e || tb i e) else (ta i e && tb i e)) (K := K1) w1 s0 se (fun e h1 h2 => by rw [A2 e h1 h2, B2 e h1 h2])
      rw [g1, hkeep, om_s, nI_1]
      generalize hHS : bi (!(decide (K1 8 (25 * N + 5 * i) = 1) && allS K1 (25 * N + 5 * i) (v i) 0)) = HS at hTR
      obtain ⟨K', f1, f2, f3, f4, f5, f6, f7, f8⟩ := ih (i + 1) m (ms K1 7 (5 * N + i) HS) (by omega) (by omega) (by rw [ms_q (by decide), g2 0 (by decide)]; exact h3) (by rw [ms_q (by decide), g2 0 (by decide)]; exact h2) (by rw [ms_q (by decide), g2 1 (by decide)]; exact hv1) (fun j hj => by rw [ms_i (by omega), g2 7 (by decide)]; exact h7 j hj) (fun j hj => by rw [ms_q (by decide), g3 j (by omega)]; exact h8 j hj) (fun j h1 h2 => by rw [ms_i (by omega), g2 7 (by decide)]; exact hz j (by omega) h2)
      obtain ⟨q1, q2, q3, q4, q5, q6⟩ := f2
      refine ⟨K', f1, ⟨fun q hq => ?_, fun j h0 h3 => ?_, q3, fun q j z1 z2 hj => ?_, fun j hj => ?_, fun j hj => ?_⟩, f3, f4, f5, fun j hj => ⟨?_, fun e he => ?_⟩, f7, fun j h1 h2 => ?_⟩
      · rw [q1 q hq, ms_q (by omega), g2 q (by omega)]
      · rw [q2 j h0 h3, ms_q (by decide), g2 0 (by decide)]
      · rw [q4 q j z1 z2 hj, ms_q (by omega), g2 q (by omega)]
      · rw [q5 j hj, ms_i (by omega), g2 7 (by decide)]
      · rw [q6 j hj, ms_q (by decide), g3 j (by omega)]
      · rw [(f6 j (by omega)).1, ms_i (by omega), g2 7 (by decide)]
      · rw [(f6 j (by omega)).2 e he, ms_q (by decide), g3 _ (by omega)]
      · by_cases hji : j = i
        · subst hji
          refine Or.inr ?_
          have h6 := f6 j (by omega)
          have e7 : K' 7 (5 * N + j) = HS := by rw [h6.1, ms_s]
          have e8 : ∀ e, e < 5 → K' 8 (25 * N + 5 * j + e) = K1 8 (25 * N + 5 * j + e) := fun e he => by rw [h6.2 e he, ms_q (by decide)]
          rw [e7, show K' 8 (25 * N + 5 * j) = K1 8 (25 * N + 5 * j) from e8 0 (by omega)]
          exact TR_congr w1 (fun _ _ => rfl) (fun e he => e8 (e + 1) (by omega)) hTR
        · exact f8 j (by omega) h2
