/-! PURE: what always holds of both, and the fourteen steps -/
def InvW (M K : Mem) : Prop := ∃ (n N : Nat) (v : Nat → Nat) (s : Nat) (num : Nat → Nat) (rs : List WRec), RF n N v M K ∧ RL N M ∧ SR s M K ∧ WD N v M K num rs ∧ SP v M num rs
theorem M0_0 {q i : Nat} (h9 : q ≠ 9) (h10 : q ≠ 10) (h23 : q ≠ 23) : M0 q i = 0 := by
  unfold M0
  rw [if_neg (by omega), if_neg (by omega)]
theorem inv_0 : InvW M0 K0 := by
  refine ⟨0, 0, fun _ => 0, 0, fun _ => 0, [], ⟨by decide, by decide, M0_0 (by decide) (by decide) (by decide), rfl, M0_0 (by decide) (by decide) (by decide), rfl, fun i hi => absurd hi (Nat.not_lt_zero i), fun k hk => absurd hk (Nat.not_lt_zero k)⟩, fun k _ hk => ⟨?_, ?_⟩, ⟨by decide, M0_0 (by decide) (by decide) (by decide), rfl, fun j _ => M0_0 (by decide) (by decide) (by decide), fun j hj => absurd hj (Nat.not_lt_zero j)⟩, ⟨fun k _ => ⟨M0_0 (by decide) (by decide) (by decide), rfl, show 0 < 1000 by decide⟩, ⟨M0_0 (by decide) (by decide) (by decide), rfl, by decide⟩, fun j hj => absurd hj (Nat.not_lt_zero j), True.intro, rfl, fun c hc => absurd hc List.not_mem_nil⟩, Or.inl ?_⟩
  · unfold M0
    rw [if_pos (Or.inl rfl), if_pos hk]
  · unfold M0
    rw [if_pos (Or.inr rfl), if_pos hk]
  · unfold M0
    rw [if_neg (by omega), if_pos ⟨rfl, rfl⟩]
theorem SP_keep {N : Nat} {v v' num : Nat → Nat} {M M' : Mem} {rs : List WRec} (h : SP v M num rs) (hB : ∀ c ∈ rs, RecB N c) (hk : ∀ k, k < N → nodeL v' M' k = nodeL v M k) (h23 : M' 23 = M 23) (h24 : M' 24 = M 24) : SP v' M' num rs := by
  rcases h with h | ⟨A, c, B, e, h4, hb⟩
  · exact Or.inl (by rw [h23]; exact h)
  · obtain ⟨-, b2, b3, b4⟩ := hB c (by rw [e]; exact List.mem_append_right A List.mem_cons_self)
    refine Or.inr ⟨A, c, B, e, by rw [h23]; exact h4, ?_⟩
    rw [textL_keep hk b2 b3 b4]
    exact ⟨by rw [h23]; exact hb.1, fun j hj => by rw [h24]; exact hb.2 j hj⟩
theorem inv_code {M K : Mem} (h : InvW M K) : InvW M (ms K 0 0 0) := by
  obtain ⟨n, N, v, s, num, rs, h1, h2, ⟨s1, s2, s3, s4, s5⟩, h4, h5⟩ := h
  exact ⟨n, N, v, s, num, rs, RF_code h1, h2, ⟨s1, s2, by rw [ms_i (by decide)]; exact s3, s4, fun j hj => by rw [ms_q (by decide)]; exact s5 j hj⟩, WD_keep h4 (Nat.le_refl N) (fun _ _ => rfl) (fun _ _ _ => rfl) rfl (fun q a _ => ms_q (by omega)) (ms_i (by decide)), h5⟩
theorem inv_grow {n N n' N' s : Nat} {v v' num : Nat → Nat} {M K M' K' : Mem} {rs : List WRec} (h1 : RF n N v M K) (h3 : SR s M K) (h4 : WD N v M K num rs) (h5 : SP v M num rs) (g1 : RF n' N' v' M' K') (g2 : RL N' M') (hN : N ≤ N') (hv : ∀ i, i < n → v' i = v i) (hM : ∀ q, 11 ≤ q → M' q = M q) (hMk : ∀ q k, 3 ≤ q → q ≤ 10 → k < N → M' q k = M q k) (hK : ∀ q, 9 ≤ q → K' q = K q) (hK0 : ∀ j, j ≠ 0 → j ≠ 2 → j ≠ 3 → K' 0 j = K 0 j) : InvW M' K' := by
  obtain ⟨s1, s2, s3, s4, s5⟩ := h3
  have hk : ∀ k, k < N → nodeL v' M' k = nodeL v M k := fun k hk => by
    rw [nodeL_keep (v := v') (M := M) (M' := M') (fun q a b => hMk q k a (by omega) hk)]
    exact nodeL_v h1.1 (h1.2.2.2.2.2.2.2 k hk) hv
  exact ⟨n', N', v', s, num, rs, g1, g2, ⟨s1, by rw [hM 25 (by omega)]; exact s2, by rw [hK0 27 (by decide) (by decide) (by decide)]; exact s3, fun j hj => by rw [hM 26 (by omega)]; exact s4 j hj, fun j hj => by rw [hM 28 (by omega), hK 20 (by omega)]; exact s5 j hj⟩, WD_keep h4 hN hk (fun q a _ => hM q (by omega)) (by rw [hM 11 (by omega)]) (fun q a _ => hK q a) (hK0 17 (by decide) (by decide) (by decide)), SP_keep h5 h4.2.2.2.2.2 hk (hM 23 (by omega)) (hM 24 (by omega))⟩
theorem name_frame {x r : Int32} {M M' : Mem} {n : Nat} (h1 : M 1 1 = nI n) (hn : n ≤ 5) (h : f_N_name x M = some (r, M')) : (∀ i, i < n → M' 2 i = M 2 i) ∧ (M' 1 1 = nI n ∨ M' 1 1 = nI (n + 1)) := by
  rw [f_N_name, f_F_addName, h1] at h
  by_cases h5 : (5 : Int32) ≤ nI n
  · rw [if_pos h5, ob_s] at h
    cases h
    exact ⟨fun _ _ => rfl, Or.inl h1⟩
  · rw [if_neg h5] at h
    by_cases hx : x < 0
    · rw [if_pos hx, ob_s] at h
      cases h
      exact ⟨fun _ _ => rfl, Or.inl h1⟩
    · rw [if_neg hx] at h
      by_cases h4 : x ≤ 4
      · have hn5 : n < 5 := by
          rcases Nat.lt_or_ge n 5 with g | g
          · exact g
          · exact absurd (show (5 : Int32) ≤ nI n from nI_le (a := 5) g (by omega)) h5
        rw [if_pos h4, gd_nI hn5 (by decide), nI_clamp (by omega), ob_s] at h
        cases h
        refine ⟨fun i hi => by rw [ms_q (by decide), ms_i (by omega)], Or.inr ?_⟩
        rw [ms_s, ms_q (by decide), h1, nI_1]
      · rw [if_neg h4, ob_s] at h
        cases h
        exact ⟨fun _ _ => rfl, Or.inl h1⟩
theorem w_name (x1 : Int32) (M1 M2 : Mem) (hI : InvW M1 M2) : ∃ (r : Int32) (M1' M2' : Mem), f_N_name x1 M1 = some (r, M1') ∧ f_K_name x1 M2 = some (r, M2') ∧ InvW M1' M2' := by
  obtain ⟨n, N, v, s, num, rs, h1, h2, h3, h4, h5⟩ := hI
  obtain ⟨r, M', K', n', v', a1, a2, a3, a4, a5, a6, a7⟩ := st_name h1 x1
  obtain ⟨f1, f2⟩ := name_frame h1.2.2.1 h1.1 a1
  have hn := h1.1
  have hn' := a3.1
  have hnn : n ≤ n' := by
    rcases f2 with e | e
    · have := (nI_eq (by omega) (by omega)).mp (e.symm.trans a3.2.2.1)
      omega
    · have := (nI_eq (by omega) (by omega)).mp (e.symm.trans a3.2.2.1)
      omega
  have hv : ∀ i, i < n → v' i = v i := fun i hi => by
    obtain ⟨b1, b2, -⟩ := h1.2.2.2.2.2.2.1 i hi
    obtain ⟨c1, c2, -⟩ := a3.2.2.2.2.2.2.1 i (by omega)
    exact (nI_eq (by omega) (by omega)).mp (c2.symm.trans ((f1 i hi).trans b2))
  exact ⟨r, M', K', a1, a2, inv_grow h1 h3 h4 h5 a3 (fun k b1 b2 => by rw [a4 9 (by omega), a4 10 (by omega)]; exact h2 k b1 b2) (Nat.le_refl N) hv (fun q hq => a4 q (by omega)) (fun q k hq _ _ => by rw [a4 q hq]) (fun q hq => a5 q (by omega)) (fun j b0 b2 _ => a7 j b0 b2)⟩
theorem w_leaf (x1 x2 x3 x4 x5 : Int32) (M1 M2 : Mem) (hI : InvW M1 M2) : ∃ (r : Int32) (M1' M2' : Mem), f_N_leaf x1 x2 x3 x4 x5 M1 = some (r, M1') ∧ f_K_leaf x1 x2 x3 x4 x5 M2 = some (r, M2') ∧ InvW M1' M2' := by
  obtain ⟨n, N, v, s, num, rs, h1, h2, h3, h4, h5⟩ := hI
  obtain ⟨r, M', K', N', a1, a2, a3, a4, g1, g2, g3, g4, g5, g6, g7⟩ := st_leaf h1 h2 x1 x2 x3 x4 x5
  exact ⟨r, M', K', a1, a2, inv_grow h1 h3 h4 h5 a3 a4 g2 g3 g4 g5 g6 g7⟩
theorem w_join (x1 x2 x3 : Int32) (M1 M2 : Mem) (hI : InvW M1 M2) : ∃ (r : Int32) (M1' M2' : Mem), f_N_join x1 x2 x3 M1 = some (r, M1') ∧ f_K_join x1 x2 x3 M2 = some (r, M2') ∧ InvW M1' M2' := by
  obtain ⟨n, N, v, s, num, rs, h1, h2, h3, h4, h5⟩ := hI
  obtain ⟨r, M', K', N', a1, a2, a3, a4, g1, g2, g3, g4, g5, g6, g7⟩ := st_join h1 h2 x1 x2 x3
  exact ⟨r, M', K', a1, a2, inv_grow h1 h3 h4 h5 a3 a4 g2 g3 g4 g5 g6 g7⟩
theorem w_terms (x1 : Int32) (M1 M2 : Mem) (hI : InvW M1 M2) : ∃ (r : Int32) (M1' M2' : Mem), f_N_terms x1 M1 = some (r, M1') ∧ f_K_terms x1 M2 = some (r, M2') ∧ InvW M1' M2' := by
  obtain ⟨n, N, v, s, num, rs, h1, -⟩ := id hI
  obtain ⟨r, a1, a2⟩ := st_terms h1 x1
  exact ⟨r, M1, ms M2 0 0 0, a1, a2, inv_code hI⟩
theorem w_term (x1 x2 x3 : Int32) (M1 M2 : Mem) (hI : InvW M1 M2) : ∃ (r : Int32) (M1' M2' : Mem), f_N_term x1 x2 x3 M1 = some (r, M1') ∧ f_K_term x1 x2 x3 M2 = some (r, M2') ∧ InvW M1' M2' := by
  obtain ⟨n, N, v, s, num, rs, h1, -⟩ := id hI
  obtain ⟨r, a1, a2⟩ := st_term h1 x1 x2 x3
  exact ⟨r, M1, ms M2 0 0 0, a1, a2, inv_code hI⟩
theorem w_write (x1 : Int32) (M1 M2 : Mem) (hI : InvW M1 M2) : ∃ (r : Int32) (M1' M2' : Mem), f_N_write x1 M1 = some (r, M1') ∧ f_K_write x1 M2 = some (r, M2') ∧ InvW M1' M2' := by
  obtain ⟨n, N, v, s, num, rs, h1, h2, ⟨s1, s2, s3, s4, s5⟩, -⟩ := id hI
  obtain ⟨r, M', K', a1, a2, a3⟩ := st_write h1 x1
  refine ⟨r, M', K', a1, a2, ?_⟩
  rcases a3 with ⟨rfl, rfl⟩ | ⟨num', rs', b1, b2, b3, ⟨b4, b5, b6⟩, b7⟩
  · exact inv_code hI
  · exact ⟨n, N, v, s, num', rs', RF_keep h1 (fun q c d => b1 q (Or.inl ⟨c, d⟩)) (fun q c d => b3 q (Or.inl ⟨c, d⟩)) b4 b5, fun k c d => by rw [b1 9 (Or.inl (by decide)), b1 10 (Or.inl (by decide))]; exact h2 k c d, ⟨s1, by rw [b1 25 (Or.inr (by decide))]; exact s2, by rw [b6]; exact s3, fun j hj => by rw [b1 26 (Or.inr (by decide))]; exact s4 j hj, fun j hj => by rw [b1 28 (Or.inr (by decide)), b3 20 (Or.inr (by decide))]; exact s5 j hj⟩, b7, Or.inl b2⟩
theorem inv_shown {n N s : Nat} {v num : Nat → Nat} {M K M' : Mem} {rs : List WRec} (h1 : RF n N v M K) (h2 : RL N M) (h3 : SR s M K) (h4 : WD N v M K num rs) (hS : Shown v num rs M M') : InvW M' (ms K 0 0 0) := by
  obtain ⟨hq, hp⟩ := hS
  obtain ⟨s1, s2, s3, s4, s5⟩ := h3
  refine inv_code ⟨n, N, v, s, num, rs, RF_keep h1 (fun q _ _ => hq q (by omega) (by omega)) (fun _ _ _ => rfl) rfl rfl, fun k c d => by rw [hq 9 (by decide) (by decide), hq 10 (by decide) (by decide)]; exact h2 k c d, ⟨s1, by rw [hq 25 (by decide) (by decide)]; exact s2, s3, fun j hj => by rw [hq 26 (by decide) (by decide)]; exact s4 j hj, fun j hj => by rw [hq 28 (by decide) (by decide)]; exact s5 j hj⟩, WD_keep h4 (Nat.le_refl N) (fun k _ => nodeL_keep (fun q a b => by rw [hq q (by omega) (by omega)])) (fun q a b => hq q (by omega) (by omega)) (by rw [hq 11 (by decide) (by decide)]) (fun _ _ _ => rfl) rfl, hp⟩
theorem w_sentence (x1 : Int32) (M1 M2 : Mem) (hI : InvW M1 M2) : ∃ (r : Int32) (M1' M2' : Mem), f_N_sentence x1 M1 = some (r, M1') ∧ f_K_sentence x1 M2 = some (r, M2') ∧ InvW M1' M2' := by
  obtain ⟨n, N, v, s, num, rs, h1, h2, h3, h4, h5⟩ := hI
  obtain ⟨r, M', a1, a2, a3⟩ := st_sentence h1 h4 h5 x1
  exact ⟨r, M', _, a1, a2, inv_shown h1 h2 h3 h4 a3⟩
theorem w_letter (x1 x2 : Int32) (M1 M2 : Mem) (hI : InvW M1 M2) : ∃ (r : Int32) (M1' M2' : Mem), f_N_letter x1 x2 M1 = some (r, M1') ∧ f_K_letter x1 x2 M2 = some (r, M2') ∧ InvW M1' M2' := by
  obtain ⟨n, N, v, s, num, rs, h1, h2, h3, h4, h5⟩ := hI
  obtain ⟨r, M', a1, a2, a3⟩ := st_letter h1 h4 h5 x1 x2
  exact ⟨r, M', _, a1, a2, inv_shown h1 h2 h3 h4 a3⟩
theorem w_line (x1 : Int32) (M1 M2 : Mem) (hI : InvW M1 M2) : ∃ (r : Int32) (M1' M2' : Mem), f_N_line x1 M1 = some (r, M1') ∧ f_K_line x1 M2 = some (r, M2') ∧ InvW M1' M2' := by
  obtain ⟨n, N, v, s, num, rs, h1, h2, h3, h4, h5⟩ := id hI
  obtain ⟨r, a1, a2⟩ := st_line h1 h4 x1
  exact ⟨r, M1, _, a1, a2, inv_code hI⟩
theorem w_numbered (x1 : Int32) (M1 M2 : Mem) (hI : InvW M1 M2) : ∃ (r : Int32) (M1' M2' : Mem), f_N_numbered x1 M1 = some (r, M1') ∧ f_K_numbered x1 M2 = some (r, M2') ∧ InvW M1' M2' := by
  obtain ⟨n, N, v, s, num, rs, h1, h2, h3, h4, h5⟩ := id hI
  obtain ⟨r, a1, a2⟩ := st_numbered h1 h4 x1
  exact ⟨r, M1, _, a1, a2, inv_code hI⟩
theorem inv_search {n N s s' : Nat} {v num : Nat → Nat} {M K M' K' : Mem} {rs : List WRec} (h1 : RF n N v M K) (h2 : RL N M) (h4 : WD N v M K num rs) (h5 : SP v M num rs) (h3' : SR s' M' K') (hM : FM M M') (hK : FK K K') : InvW M' K' := by
  have hq : ∀ q, q < 25 → M' q = M q := fun q h => hM q (by omega) (by omega) (by omega) (by omega)
  have hk : ∀ k, k < N → nodeL v M' k = nodeL v M k := fun k _ => nodeL_keep (fun q a b => by rw [hq q (by omega)])
  exact ⟨n, N, v, s', num, rs, FM_rf h1 hM hK, fun k c d => by rw [hq 9 (by decide), hq 10 (by decide)]; exact h2 k c d, h3', WD_keep h4 (Nat.le_refl N) hk (fun q a b => hq q (by omega)) (by rw [hq 11 (by decide)]) (fun q a b => hK.1 q (by omega) (by omega) (by omega) (by omega)) (hK.2 17 (by decide) (by decide)), SP_keep h5 h4.2.2.2.2.2 hk (hq 23 (by decide)) (hq 24 (by decide))⟩
theorem w_solvable (M1 M2 : Mem) (hI : InvW M1 M2) : ∃ (r : Int32) (M1' M2' : Mem), f_N_solvable M1 = some (r, M1') ∧ f_K_solvable M2 = some (r, M2') ∧ InvW M1' M2' := by
  obtain ⟨n, N, v, s, num, rs, h1, h2, h3, h4, h5⟩ := hI
  obtain ⟨r, M', K', a1, a2, a3, a4, a5⟩ := st_solvable h1 h3
  exact ⟨r, M', K', a1, a2, inv_search (s := s) h1 h2 h4 h5 a3 a4 a5⟩
theorem w_least (M1 M2 : Mem) (hI : InvW M1 M2) : ∃ (r : Int32) (M1' M2' : Mem), f_N_least M1 = some (r, M1') ∧ f_K_least M2 = some (r, M2') ∧ InvW M1' M2' := by
  obtain ⟨n, N, v, s, num, rs, h1, h2, h3, h4, h5⟩ := hI
  obtain ⟨r, M', K', s', a1, a2, a3, a4, a5⟩ := st_least h1 h3
  exact ⟨r, M', K', a1, a2, inv_search (s := s) h1 h2 h4 h5 a3 a4 a5⟩
theorem w_demand (x1 : Int32) (M1 M2 : Mem) (hI : InvW M1 M2) : ∃ (r : Int32) (M1' M2' : Mem), f_N_demand x1 M1 = some (r, M1') ∧ f_K_demand x1 M2 = some (r, M2') ∧ InvW M1' M2' := by
  obtain ⟨n, N, v, s, num, rs, h1, h2, h3, h4, h5⟩ := id hI
  obtain ⟨r, a1, a2⟩ := st_demand h1 h3 x1
  exact ⟨r, M1, _, a1, a2, inv_code hI⟩
theorem w_hint (x1 : Int32) (M1 M2 : Mem) (hI : InvW M1 M2) : ∃ (r : Int32) (M1' M2' : Mem), f_N_hint x1 M1 = some (r, M1') ∧ f_K_hint x1 M2 = some (r, M2') ∧ InvW M1' M2' := by
  obtain ⟨n, N, v, s, num, rs, h1, h2, h3, h4, h5⟩ := hI
  obtain ⟨r, M', K', a1, a2, a3, a4, a5⟩ := st_hint h1 h3 x1
  exact ⟨r, M', K', a1, a2, inv_search (s := s) h1 h2 h4 h5 a3 a4 a5⟩
