def opt (x : Int32) (i : Nat) : Int32 := (x >>> (((5 : Int32) * nI i) &&& 31)) &&& 31
theorem opt_ib {x : Int32} {i b : Nat} (hi : i < 5) (hx : ∀ j, 25 ≤ j → ib x j = false) : ib (opt x i) b = (decide (b < 5) && ib x (5 * i + b)) := by
  unfold opt
  rw [sh5 i hi, ib_and, ib_31, ib_shr (by omega) (hx 31 (by omega)), Bool.and_comm]
theorem opt_31 {x : Int32} {i : Nat} (hi : i < 5) (hx : ∀ j, 25 ≤ j → ib x j = false) : opt x i = 31 ↔ ∀ b, b < 5 → ib x (5 * i + b) = true := by
  constructor
  · intro h b hb
    have := opt_ib (b := b) hi hx
    rw [h, ib_31, decide_eq_true hb, Bool.true_and] at this
    exact this.symm
  · intro h
    apply ib_ext
    intro j _
    rw [opt_ib hi hx, ib_31]
    by_cases hj : j < 5
    · rw [h j hj, decide_eq_true hj]; rfl
    · rw [decide_eq_false hj]; rfl
theorem F_opt {n N k i : Nat} {M : Mem} (hn : n ≤ 5) (hN : N ≤ 120) (h1 : M 1 1 = nI n) (h10 : M 1 10 = nI N) (hk : k < N) (hi : i < n) : f_F_optionsOfTerm (nI k) (nI i) M = some (opt (M 4 k) i, M) := by
  rw [f_F_optionsOfTerm, if_neg (nI_pos (by omega)), h10, if_neg (nI_ge hk (by omega)), if_neg (nI_pos (by omega)), h1, if_pos (nI_lt hi (by omega)), gd_nI (by omega) (by decide), nI_clamp (by omega)]
  rfl
def TJ (x y : Int32) (nm : Nat) : Int32 := ((x ||| y) &&& ((31 : Int32) <<< (((5 : Int32) * nI nm) &&& 31))) ||| ((x &&& y) &&& (((31 : Int32) <<< (((5 : Int32) * nI nm) &&& 31)) ^^^ (-1 : Int32)))
theorem TJ_b {x y : Int32} {nm : Nat} (hnm : nm < 5) (hx : ∀ j, 25 ≤ j → ib x j = false) (hy : ∀ j, 25 ≤ j → ib y j = false) : (∀ i b, i < 5 → b < 5 → ib (TJ x y nm) (5 * i + b) = if i = nm then (ib x (5 * i + b) || ib y (5 * i + b)) else (ib x (5 * i + b) && ib y (5 * i + b))) ∧ ∀ j, 25 ≤ j → ib (TJ x y nm) j = false := by
  refine ⟨fun i b hi hb => ?_, fun j hj => ?_⟩
  · unfold TJ
    rw [sh5 nm hnm, ib_or, ib_and, ib_and, ib_or, ib_and, ib_not (by omega), ib_shl (by omega), ib_31]
    by_cases h : i = nm
    · subst h
      rw [if_pos rfl, show 5 * i + b - 5 * i = b by omega]
      simp only [show decide (5 * i + b < 32) = true from decide_eq_true (by omega), show decide (5 * i + b < 5 * i) = false from decide_eq_false (by omega), show decide (b < 5) = true from decide_eq_true hb]
      simp
    · rw [if_neg h]
      rcases Nat.lt_or_ge i nm with h1 | h1
      · simp only [show decide (5 * i + b < 5 * nm) = true from decide_eq_true (by omega)]
        simp
      · simp only [show decide (5 * i + b - 5 * nm < 5) = false from decide_eq_false (by omega)]
        simp
  · unfold TJ
    rw [ib_or, ib_and, ib_and, ib_or, ib_and, hx j hj, hy j hj]
    simp
theorem F_addJoin_t {n N a b nm : Nat} {M : Mem} (hn : n ≤ 5) (hN : N < 120) (h1 : M 1 1 = nI n) (h10 : M 1 10 = nI N) (ha : a < N) (hb : b < N) (hnm : nm < n) (hA : opt (M 4 a) nm ≠ 31) (hB : opt (M 4 b) nm ≠ 31) :
    f_F_addJoin (nI a) (nI b) (nI nm) M = some (nI N, ms (ms (ms (ms (ms M 9 N (nI a)) 10 N (nI b)) 3 N 4) 4 N (TJ (M 4 a) (M 4 b) nm)) 1 10 (nI (N + 1))) := by
  have e1 : ms M 9 N (nI a) 1 10 = nI N := by rw [ms_q (by decide)]; exact h10
  have e2 : ms (ms M 9 N (nI a)) 10 N (nI b) 1 10 = nI N := by rw [ms_q (by decide)]; exact e1
  have e4 : ms (ms M 9 N (nI a)) 10 N (nI b) 4 = M 4 := by rw [ms_q (by decide), ms_q (by decide)]
  rw [f_F_addJoin, F_hasNode_t (by omega) h10 ha, ob_s, if_neg (by decide), F_hasNode_t (by omega) h10 hb, ob_s, if_neg (by decide), F_hasName_t (by omega) h1 hnm, ob_s, if_neg (by decide), h10, if_pos (show nI N < 120 from nI_lt (b := 120) hN (by decide)), F_opt hn (by omega) h1 h10 ha hnm, ob_s, if_neg hA, F_opt hn (by omega) h1 h10 hb hnm, ob_s, if_neg hB, h10, gd_nI hN (by decide), nI_clamp (by omega), e1, gd_nI hN (by decide), gd_nI (by omega) (by decide), gd_nI (by omega) (by decide), gd_nI (by omega) (by decide), gd_nI (by omega) (by decide), nI_clamp (by omega), nI_clamp (by omega), nI_clamp (by omega), e4, F_addNode hN e2, ob_s]
  rfl
theorem F_addJoin_f {n N : Nat} {x1 x2 x3 : Int32} {M : Mem} (hn : n ≤ 5) (hN : N ≤ 120) (h1 : M 1 1 = nI n) (h10 : M 1 10 = nI N)
    (h : (x1 < 0 ∨ nI N ≤ x1) ∨ (x2 < 0 ∨ nI N ≤ x2) ∨ (x3 < 0 ∨ nI n ≤ x3) ∨ N = 120 ∨ ∃ a b nm : Nat, a < N ∧ b < N ∧ nm < n ∧ x1 = nI a ∧ x2 = nI b ∧ x3 = nI nm ∧ (opt (M 4 a) nm = 31 ∨ opt (M 4 b) nm = 31)) : f_F_addJoin x1 x2 x3 M = some (-1, M) := by
  rw [f_F_addJoin]
  rcases nm_cases x1 (n := N) (by omega) with ⟨a, ha, rfl⟩ | ⟨hx, -⟩
  · rw [F_hasNode_t (by omega) h10 ha, ob_s, if_neg (by decide)]
    rcases nm_cases x2 (n := N) (by omega) with ⟨b, hb, rfl⟩ | ⟨hx2, -⟩
    · rw [F_hasNode_t (by omega) h10 hb, ob_s, if_neg (by decide)]
      rcases nm_cases x3 (n := n) (by omega) with ⟨nm, hnm, rfl⟩ | ⟨hx3, -⟩
      · rw [F_hasName_t (by omega) h1 hnm, ob_s, if_neg (by decide), h10]
        by_cases hN' : N = 120
        · subst hN'
          rw [if_neg (by decide)]
        · rw [if_pos (show nI N < 120 from nI_lt (b := 120) (by omega) (by decide)), F_opt hn (by omega) h1 h10 ha hnm, ob_s]
          have hh : opt (M 4 a) nm = 31 ∨ opt (M 4 b) nm = 31 := by
            rcases h with (h | h) | (h | h) | (h | h) | h | ⟨a', b', nm', _, _, _, ea, eb, en, h⟩
            · exact absurd h (nI_pos (by omega))
            · exact absurd h (nI_ge ha (by omega))
            · exact absurd h (nI_pos (by omega))
            · exact absurd h (nI_ge hb (by omega))
            · exact absurd h (nI_pos (by omega))
            · exact absurd h (nI_ge hnm (by omega))
            · exact absurd h hN'
            · rw [(nI_eq (by omega) (by omega)).mp ea, (nI_eq (by omega) (by omega)).mp eb, (nI_eq (by omega) (by omega)).mp en]; exact h
          by_cases hA : opt (M 4 a) nm = 31
          · rw [if_pos hA]
          · rw [if_neg hA, F_opt hn (by omega) h1 h10 hb hnm, ob_s, if_pos (hh.resolve_left hA)]
      · rw [F_hasName_f h1 hx3, ob_s, if_pos rfl]
    · rw [F_hasNode_f h10 hx2, ob_s, if_pos rfl]
  · rw [F_hasNode_f h10 hx, ob_s, if_pos rfl]
/-- one node more, whatever it is -/
theorem RF_add2 {n N : Nat} {v : Nat → Nat} {M K M' K' : Mem} (h : RF n N v M K) (hN : N < 120) (hM1 : M' 1 1 = M 1 1) (hM10 : M' 1 10 = nI (N + 1)) (hM2 : M' 2 = M 2) (hMk : ∀ q k, 3 ≤ q → q ≤ 10 → k < N → M' q k = M q k)
    (hP : ndPost N (ms K 0 0 0) K') (hnew : NR n v M' K' N) : RF n (N + 1) v M' K' := by
  obtain ⟨h1, h2, h3, h4, h5, h6, h7, h8⟩ := h
  obtain ⟨p1, p2, p3, p4, p5, p6⟩ := hP
  refine ⟨h1, hN, by rw [hM1]; exact h3, by rw [p2 2 (by decide) (by decide), ms_i (by decide)]; exact h4, hM10, p3, fun i hi => ?_, fun k hk => ?_⟩
  · rw [hM2, p1 1 (Or.inl rfl), ms_q (by decide)]
    exact h7 i hi
  · by_cases hkN : k = N
    · subst hkN; exact hnew
    · refine NR_keep (h8 k (by omega)) (Nat.le_refl n) (fun _ _ => rfl) (fun i hi => (h7 i hi).1) (fun q a b => hMk q k a b (by omega)) (fun q a b => ?_) (fun i hi => ?_) (fun j hj => ?_)
      · rw [p4 q k a b hkN, ms_q (by omega)]
      · rw [p5 _ (by omega), ms_q (by decide)]
      · rw [p6 _ (by omega), ms_q (by decide)]
/-- a node's term of a name, on both sides -/
theorem NR_TR {n k i : Nat} {v : Nat → Nat} {M K : Mem} (h : NR n v M K k) (hi : i < n) (hn : n ≤ 5) : TR (v i) (fun e => ib (M 4 k) (5 * i + e)) (K 7 (5 * k + i)) (K 8 (25 * k + 5 * i)) (fun e => K 8 (25 * k + 5 * i + e + 1)) := by
  obtain ⟨d, -, -, -, ⟨-, h5⟩, -, -⟩ := h
  obtain ⟨-, g2, g3⟩ := h5 i (by omega)
  obtain ⟨g4, g5⟩ := g3 hi
  refine ⟨g2, g4, fun hh => ⟨(g5 hh).1, fun e he => ?_⟩⟩
  have := (g5 hh).2 e he
  rw [← this]
  exact congrArg (K 8) (show 25 * k + 5 * i + e + 1 = 25 * k + (5 * i + e + 1) by omega)
theorem NR_hi {n k : Nat} {v : Nat → Nat} {M K : Mem} (h : NR n v M K k) : ∀ j, 25 ≤ j → ib (M 4 k) j = false := by
  obtain ⟨d, -, -, -, ⟨h4, -⟩, -, -⟩ := h
  exact h4
theorem NR_has {n k i : Nat} {v : Nat → Nat} {M K : Mem} (h : NR n v M K k) (hi : i < 5) : (K 7 (5 * k + i) = 0 ∧ opt (M 4 k) i = 31) ∨ (K 7 (5 * k + i) = 1 ∧ opt (M 4 k) i ≠ 31) := by
  have hhi := NR_hi h
  obtain ⟨d, -, -, -, ⟨-, h5⟩, -, -⟩ := h
  obtain ⟨-, g2, -⟩ := h5 i hi
  rcases g2 with ⟨e1, e2⟩ | ⟨e1, b, hb, e2⟩
  · exact Or.inl ⟨e1, (opt_31 hi hhi).mpr e2⟩
  · exact Or.inr ⟨e1, fun h => by rw [(opt_31 hi hhi).mp h b hb] at e2; cases e2⟩
theorem st_join {n N : Nat} {v : Nat → Nat} {M K : Mem} (h : RF n N v M K) (hl : RL N M) (x1 x2 x3 : Int32) : ∃ (r : Int32) (M' K' : Mem) (N' : Nat), f_N_join x1 x2 x3 M = some (r, M') ∧ f_K_join x1 x2 x3 K = some (r, K') ∧ RF n N' v M' K' ∧ RL N' M' ∧ Grow n N v n N' v M K M' K' := by
  obtain ⟨h1, h2, h3, h4, h5, h6, h7, h8⟩ := id h
  have k4 : ms K 0 0 0 0 2 = nI n := by rw [ms_i (by decide)]; exact h4
  have k6 : ms K 0 0 0 0 3 = nI N := by rw [ms_i (by decide)]; exact h6
  have k7 : ms K 0 0 0 7 = K 7 := ms_q (by decide)
  have hN1 : f_N_join x1 x2 x3 M = f_F_addJoin x1 x2 x3 M := by
    unfold f_N_join
    cases f_F_addJoin x1 x2 x3 M <;> rfl
  have none : f_F_addJoin x1 x2 x3 M = some (-1, M) → f_K_join x1 x2 x3 K = some (-1, ms K 0 0 0) → ∃ (r : Int32) (M' K' : Mem) (N' : Nat), f_N_join x1 x2 x3 M = some (r, M') ∧ f_K_join x1 x2 x3 K = some (r, K') ∧ RF n N' v M' K' ∧ RL N' M' ∧ Grow n N v n N' v M K M' K' :=
    fun a b => ⟨-1, M, ms K 0 0 0, N, by rw [hN1]; exact a, b, RF_code h, hl, Grow_rf⟩
  rcases nm_cases x1 (n := N) (by omega) with ⟨a, ha, rfl⟩ | ⟨hx, -⟩
  · rcases nm_cases x2 (n := N) (by omega) with ⟨b, hb, rfl⟩ | ⟨hx2, -⟩
    · rcases nm_cases x3 (n := n) (by omega) with ⟨nm, hnm, rfl⟩ | ⟨hx3, -⟩
      · have hKs : f_K_join (nI a) (nI b) (nI nm) K = if K 7 (5 * a + nm) = 0 then some ((-1 : Int32), ms K 0 0 0) else if K 7 (5 * b + nm) = 0 then some ((-1 : Int32), ms K 0 0 0) else if nI N = (120 : Int32) then some ((-1 : Int32), ms K 0 0 0) else om (f_K_clear (ms K 0 0 0)) fun M67 => f_K_join_73 100000 (nI a) (nI b) (nI nm) (0 : Int32) M67 := by
          rw [f_K_join, K_isNode_t (by omega) k6 ha, ob_s, if_neg (by decide), K_isNode_t (by omega) k6 hb, ob_s, if_neg (by decide), K_isName_t (by omega) k4 hnm, ob_s, if_neg (by decide), f_K_place, ob_s, i5, gd_nI (by omega) (by decide), nI_clamp (by omega), k7, f_K_place, ob_s, i5, gd_nI (by omega) (by decide), nI_clamp (by omega), k7, k6]
        have hasA := NR_has (h8 a ha) (i := nm) (by omega)
        have hasB := NR_has (h8 b hb) (i := nm) (by omega)
        rcases hasA with ⟨A0, A1⟩ | ⟨A0, A1⟩
        · exact none (F_addJoin_f h1 h2 h3 h5 (Or.inr (Or.inr (Or.inr (Or.inr ⟨a, b, nm, ha, hb, hnm, rfl, rfl, rfl, Or.inl A1⟩))))) (by rw [hKs, if_pos A0])
        · rcases hasB with ⟨B0, B1⟩ | ⟨B0, B1⟩
          · exact none (F_addJoin_f h1 h2 h3 h5 (Or.inr (Or.inr (Or.inr (Or.inr ⟨a, b, nm, ha, hb, hnm, rfl, rfl, rfl, Or.inr B1⟩))))) (by rw [hKs, if_neg (by rw [A0]; decide), if_pos B0])
          · by_cases hN : N = 120
            · subst hN
              exact none (F_addJoin_f h1 h2 h3 h5 (Or.inr (Or.inr (Or.inr (Or.inl rfl))))) (by rw [hKs, if_neg (by rw [A0]; decide), if_neg (by rw [B0]; decide), if_pos (by decide)])
            · have hNlt : N < 120 := by omega
              obtain ⟨Kc, c1, c2, c3, c4⟩ := K_clear hNlt k6
              have hc7 : ∀ j, j < 5 * N → Kc 7 j = K 7 j := fun j hj => by rw [c3 j (Or.inl hj), k7]
              have hc8 : Kc 8 = K 8 := by rw [c2 8 (by decide)]; exact ms_q (by decide)
              have hc1 : Kc 1 = K 1 := by rw [c2 1 (by decide)]; exact ms_q (by decide)
              obtain ⟨K', f1, f2, f3, f4, f5, -, f7, f8⟩ := K_join_loop (N := N) (n := n) (a := a) (b := b) (nm := nm) (v := v) (ta := fun i e => ib (M 4 a) (5 * i + e)) (tb := fun i e => ib (M 4 b) (5 * i + e)) (K0 := Kc) hNlt h1 ha hb hnm (fun i hi => ⟨(h7 i hi).1, by rw [hc1]; exact (h7 i hi).2.2⟩)
                (fun i hi => by rw [hc7 _ (by omega), hc8]; exact NR_TR (h8 a ha) hi h1) (fun i hi => by rw [hc7 _ (by omega), hc8]; exact NR_TR (h8 b hb) hi h1) (by rw [hc7 _ (by omega)]; exact A0) (by rw [hc7 _ (by omega)]; exact B0)
                n 0 100000 Kc (by omega) (by omega) (by rw [c2 0 (by decide)]; exact k6) (by rw [c2 0 (by decide)]; exact k4) rfl (fun _ _ => rfl) (fun _ _ => rfl) (fun j _ hj => c4 _ (by omega) (by omega))
              have hb' := TJ_b (x := M 4 a) (y := M 4 b) (nm := nm) (by omega) (NR_hi (h8 a ha)) (NR_hi (h8 b hb))
              have nd : ndPost N (ms K 0 0 0) K' := by
                obtain ⟨p1, p2, p3, p4, p5, p6⟩ := f2
                refine ⟨fun q hq => by rw [p1 q hq, c2 q (by omega)], fun j j0 j3 => by rw [p2 j j0 j3, c2 0 (by decide)], p3, fun q j q1 q2 hj => by rw [p4 q j q1 q2 hj, c2 q (by omega)], fun j hj => by rw [p5 j hj, c3 j hj], fun j hj => by rw [p6 j hj, c2 8 (by decide)]⟩
              refine ⟨nI N, _, K', N + 1, by rw [hN1]; exact F_addJoin_t h1 hNlt h3 h5 ha hb hnm A1 B1, ?_, ?_, ?_, ?_⟩
              · rw [hKs, if_neg (by rw [A0]; decide), if_neg (by rw [B0]; decide), if_neg (show ¬ nI N = (120 : Int32) from fun e => hN ((nI_eq (b := 120) (by omega) (by decide)).mp e)), c1, om_s]
                exact f1
              · refine RF_add2 h hNlt ?_ (ms_s _ _ _ _) ?_ ?_ nd ?_
                · rw [ms_i (by decide), ms_q (by decide), ms_q (by decide), ms_q (by decide), ms_q (by decide)]
                · rw [ms_q (by decide), ms_q (by decide), ms_q (by decide), ms_q (by decide), ms_q (by decide)]
                · intro q k q1 q2 hk
                  rw [ms_q (by omega), ms_qi, ms_qi, ms_qi, ms_qi, if_neg (by omega), if_neg (by omega), if_neg (by omega), if_neg (by omega)]
                · refine ⟨4, by omega, ?_, f3, ?_, fun _ => ⟨a, b, ha, hb, ?_, f4, ?_, f5⟩, fun hd => by omega⟩
                  · rw [ms_q (by decide), ms_q (by decide), ms_s]; rfl
                  · rw [ms_q (q2 := 4) (by decide), ms_s]
                    refine NRb_of hb'.2 (fun i hi => ?_)
                    by_cases hin : i < n
                    · rcases f8 i (by omega) hin with ⟨e1, e2⟩ | e1
                      · exact Or.inl ⟨e1, fun e he => by rw [hb'.1 i e hi he]; exact e2 e he⟩
                      · exact Or.inr ⟨hin, TR_congr (h7 i hin).1 (s := fun e => K' 8 (25 * N + 5 * i + e + 1)) (fun e he => by rw [hb'.1 i e hi he]) (fun e _ => congrArg (K' 8) (show 25 * N + (5 * i + e + 1) = 25 * N + 5 * i + e + 1 by omega)) e1⟩
                    · refine Or.inl ⟨f7 i (by omega) hi, fun e he => ?_⟩
                      obtain ⟨-, -, -, -, ⟨-, ga⟩, -, -⟩ := h8 a ha
                      obtain ⟨-, -, -, -, ⟨-, gb⟩, -, -⟩ := h8 b hb
                      rw [hb'.1 i e hi he, if_neg (by omega), (ga i hi).1 (by omega) e he, (gb i hi).1 (by omega) e he]; rfl
                  · rw [ms_q (by decide), ms_q (by decide), ms_q (by decide), ms_q (by decide), ms_s]
                  · rw [ms_q (by decide), ms_q (by decide), ms_q (by decide), ms_s]
              · intro k g1 g2
                rw [ms_q (q2 := 9) (by decide), ms_q (q2 := 9) (by decide), ms_q (q2 := 9) (by decide), ms_q (q2 := 9) (by decide), ms_i (by omega), ms_q (q2 := 10) (by decide), ms_q (q2 := 10) (by decide), ms_q (q2 := 10) (by decide), ms_i (by omega), ms_q (q2 := 10) (by decide)]
                exact hl k (by omega) g2
              · obtain ⟨p1, p2, -⟩ := nd
                refine ⟨Nat.le_refl _, by omega, fun _ _ => rfl, fun q hq => ?_, fun q k q1 q2 hk => ?_, fun q hq => ?_, fun j j0 j2 j3 => ?_⟩
                · rw [ms_q (by omega), ms_q (by omega), ms_q (by omega), ms_q (by omega), ms_q (by omega)]
                · rw [ms_q (by omega), ms_qi, ms_qi, ms_qi, ms_qi, if_neg (by omega), if_neg (by omega), if_neg (by omega), if_neg (by omega)]
                · rw [p1 q (by omega), ms_q (by omega)]
                · rw [p2 j j0 j3, ms_i j0]
      · exact none (F_addJoin_f h1 h2 h3 h5 (Or.inr (Or.inr (Or.inl hx3)))) (by rw [f_K_join, K_isNode_t (by omega) k6 ha, ob_s, if_neg (by decide), K_isNode_t (by omega) k6 hb, ob_s, if_neg (by decide), K_isName_f k4 hx3, ob_s, if_pos rfl])
    · exact none (F_addJoin_f h1 h2 h3 h5 (Or.inr (Or.inl hx2))) (by rw [f_K_join, K_isNode_t (by omega) k6 ha, ob_s, if_neg (by decide), K_isNode_f k6 hx2, ob_s, if_pos rfl])
  · exact none (F_addJoin_f h1 h2 h3 h5 (Or.inl hx)) (by rw [f_K_join, K_isNode_f k6 hx, ob_s, if_pos rfl])
