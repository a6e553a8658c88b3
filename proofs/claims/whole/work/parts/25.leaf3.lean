def TW (a : Nat) (s : Int32) : Int32 := ((33554431 : Int32) &&& (((31 : Int32) <<< (((5 : Int32) * nI a) &&& 31)) ^^^ (-1 : Int32))) ||| (s <<< (((5 : Int32) * nI a) &&& 31))
def TN (a : Nat) (s : Int32) : Int32 := (33554431 : Int32) &&& ((s <<< (((5 : Int32) * nI a) &&& 31)) ^^^ (-1 : Int32))
theorem F_addLeaf_t {n N a d w s : Nat} {set : Int32} {M : Mem} (hn : n ≤ 5) (h1 : M 1 1 = nI n) (hN : N < 120) (h10 : M 1 10 = nI N) (ha : a < n) (hw : w ≤ 4) (hv : M 2 a = nI w) (hs : set &&& nI (2 ^ w - 1) = nI s) (hd : d < 5) :
    f_F_addLeaf (nI d) (nI a) set M = some (nI N, ms (ms (ms (ms (ms M 5 N (nI a)) 6 N (nI s)) 3 N (nI d)) 4 N (if d = 0 then TN a (nI s) else TW a (nI s))) 1 10 (nI (N + 1))) := by
  have e1 : ms M 5 N (nI a) 1 10 = nI N := by rw [ms_q (by decide)]; exact h10
  have e2 : ms (ms M 5 N (nI a)) 6 N (nI s) 1 10 = nI N := by rw [ms_q (by decide)]; exact e1
  rw [f_F_addLeaf, F_hasName_t (by omega) h1 ha, ob_s, if_neg (by decide), h10, if_pos (show nI N < 120 from nI_lt (b := 120) hN (by decide)), F_allVersions hn h1 ha hw hv, ob_s, h10, gd_nI hN (by decide), nI_clamp (by omega), e1, gd_nI hN (by decide), nI_clamp (by omega), hs]
  by_cases h0 : d = 0
  · subst h0
    rw [if_pos (show nI 0 = 0 from rfl), f_F_notIn, ob_s, f_F_addLeaf_70, F_addNode hN e2, ob_s, if_pos rfl]; rfl
  · rw [if_neg (fun e => h0 ((nI_eq0 (by omega)).mp e)), f_F_wantedIn, ob_s, f_F_addLeaf_70, F_addNode hN e2, ob_s, if_neg h0]; rfl
theorem F_addLeaf_f {n N : Nat} {x1 x2 set : Int32} {M : Mem} (hn : n ≤ 5) (h1 : M 1 1 = nI n) (hN : N ≤ 120) (h10 : M 1 10 = nI N) (h : (x2 < 0 ∨ nI n ≤ x2) ∨ N = 120) : f_F_addLeaf x1 x2 set M = some (-1, M) := by
  rw [f_F_addLeaf]
  rcases nm_cases x2 (n := n) (by omega) with ⟨a, ha, rfl⟩ | ⟨hx, -⟩
  · rw [F_hasName_t (by omega) h1 ha, ob_s, if_neg (by decide), h10]
    rcases h with h | h
    · rcases h with h | h
      · exact absurd h (nI_pos (by omega))
      · exact absurd h (nI_ge ha (by omega))
    · subst h
      rw [if_neg (by decide)]
  · rw [F_hasName_f h1 hx, ob_s, if_pos rfl]
theorem F_addPair_t {n N a a2 d w w2 s s2 : Nat} {set set2 : Int32} {M : Mem} (hn : n ≤ 5) (h1 : M 1 1 = nI n) (hN : N < 120) (h10 : M 1 10 = nI N) (ha : a < n) (ha2 : a2 < n) (hne : a ≠ a2) (hw : w ≤ 4) (hv : M 2 a = nI w) (hw2 : w2 ≤ 4) (hv2 : M 2 a2 = nI w2) (hs : set &&& nI (2 ^ w - 1) = nI s) (hs2 : set2 &&& nI (2 ^ w2 - 1) = nI s2) (hd : d < 5) :
    f_F_addPairLeaf (nI d) (nI a) set (nI a2) set2 M = some (nI N, ms (ms (ms (ms (ms (ms (ms M 5 N (nI a)) 6 N (nI s)) 7 N (nI a2)) 8 N (nI s2)) 3 N (nI d)) 4 N (TW a (nI s) &&& (if d = 1 then TN a2 (nI s2) else TW a2 (nI s2)))) 1 10 (nI (N + 1))) := by
  have e1 : ms M 5 N (nI a) 1 10 = nI N := by rw [ms_q (by decide)]; exact h10
  have e2 : ms (ms M 5 N (nI a)) 6 N (nI s) 1 10 = nI N := by rw [ms_q (by decide)]; exact e1
  have e3 : ms (ms (ms M 5 N (nI a)) 6 N (nI s)) 7 N (nI a2) 1 10 = nI N := by rw [ms_q (by decide)]; exact e2
  have e4 : ms (ms (ms (ms M 5 N (nI a)) 6 N (nI s)) 7 N (nI a2)) 8 N (nI s2) 1 10 = nI N := by rw [ms_q (by decide)]; exact e3
  rw [f_F_addPairLeaf, F_hasName_t (by omega) h1 ha, ob_s, if_neg (by decide), F_hasName_t (by omega) h1 ha2, ob_s, if_neg (by decide), if_neg (fun e => hne ((nI_eq (by omega) (by omega)).mp e)), h10, if_pos (show nI N < 120 from nI_lt (b := 120) hN (by decide)), F_allVersions hn h1 ha hw hv, ob_s, F_allVersions hn h1 ha2 hw2 hv2, ob_s, h10, gd_nI hN (by decide), nI_clamp (by omega), e1, gd_nI hN (by decide), nI_clamp (by omega), hs, e2, gd_nI hN (by decide), nI_clamp (by omega), e3, gd_nI hN (by decide), nI_clamp (by omega), hs2]
  by_cases hd1 : d = 1
  · subst hd1
    rw [if_pos (show nI 1 = 1 from rfl), f_F_notIn, ob_s, f_F_addPairLeaf_119, f_F_wantedIn, ob_s, F_addNode hN e4, ob_s, if_pos rfl]; rfl
  · rw [if_neg (show ¬ nI d = 1 from fun e => hd1 ((nI_eq (b := 1) (by omega) (by decide)).mp e)), f_F_wantedIn, ob_s, f_F_addPairLeaf_119, f_F_wantedIn, ob_s, F_addNode hN e4, ob_s, if_neg hd1]; rfl
theorem F_addPair_f {n N : Nat} {x1 x2 x4 set set2 : Int32} {M : Mem} (hn : n ≤ 5) (h1 : M 1 1 = nI n) (hN : N ≤ 120) (h10 : M 1 10 = nI N) (h : (x2 < 0 ∨ nI n ≤ x2) ∨ (x4 < 0 ∨ nI n ≤ x4) ∨ x2 = x4 ∨ N = 120) : f_F_addPairLeaf x1 x2 set x4 set2 M = some (-1, M) := by
  rw [f_F_addPairLeaf]
  rcases nm_cases x2 (n := n) (by omega) with ⟨a, ha, rfl⟩ | ⟨hx, -⟩
  · rw [F_hasName_t (by omega) h1 ha, ob_s, if_neg (by decide)]
    rcases nm_cases x4 (n := n) (by omega) with ⟨a2, ha2, rfl⟩ | ⟨hx2, -⟩
    · rw [F_hasName_t (by omega) h1 ha2, ob_s, if_neg (by decide)]
      by_cases he : nI a = nI a2
      · rw [if_pos he]
      · rw [if_neg he, h10]
        have hN120 : N = 120 := by
          rcases h with (h | h) | (h | h) | h | h
          · exact absurd h (nI_pos (by omega))
          · exact absurd h (nI_ge ha (by omega))
          · exact absurd h (nI_pos (by omega))
          · exact absurd h (nI_ge ha2 (by omega))
          · exact absurd h he
          · exact h
        subst hN120
        rw [if_neg (by decide)]
    · rw [F_hasName_f h1 hx2, ob_s, if_pos rfl]
  · rw [F_hasName_f h1 hx, ob_s, if_pos rfl]
/-- what a made leaf is in the reference -/
def lfPost (N d a s : Nat) (K K' : Mem) : Prop :=
  (∀ q, (q = 1 ∨ 9 ≤ q) → K' q = K q) ∧ (∀ j, j ≠ 0 → j ≠ 3 → K' 0 j = K 0 j) ∧ K' 0 3 = nI (N + 1) ∧ (∀ q j, 2 ≤ q → q ≤ 6 → j ≠ N → K' q j = K q j) ∧ (∀ j, (j < 5 * N ∨ 5 * N + 5 ≤ j) → K' 7 j = K 7 j) ∧ (∀ j, (j < 25 * N ∨ 25 * N + 25 ≤ j) → K' 8 j = K 8 j) ∧ K' 2 N = nI d ∧ K' 3 N = nI a ∧ K' 4 N = nI s
theorem K_there {a w s : Nat} {set : Int32} {K : Mem} (ha : a < 5) (hw : w ≤ 4) (hv : K 1 a = nI w) (hs : set &&& nI (2 ^ w - 1) = nI s) : f_K_there (nI a) set K = some (nI s, K) := by
  rw [f_K_there, gd_nI ha (by decide), nI_clamp (by omega), hv, av_eq w hw, hs]
theorem K_leaf175 {N : Nat} {K : Mem} (h3 : K 0 3 = nI N) : f_K_leaf_175 K = some (nI N, ms K 0 3 (nI (N + 1))) := by
  rw [f_K_leaf_175, h3, ms_s, nI_pm, nI_1]
/-- a leaf of one name in the reference -/
theorem K_leaf59_1 {n N a d w s : Nat} {set x4 x5 : Int32} {K : Mem} (hn : n ≤ 5) (hN : N < 120) (h3 : K 0 3 = nI N) (ha : a < n) (hw : w ≤ 4) (hv : K 1 a = nI w) (hs : set &&& nI (2 ^ w - 1) = nI s) (hsb : ∀ j, ib (nI s) j = (ib set j && decide (j < w))) (hd : d < 5) :
    ∃ K', f_K_leaf_59 (nI d) (nI a) set x4 x5 0 K = some (nI N, K') ∧ lfPost N d a s K K' ∧ (∀ i, i < 5 → i ≠ a → K' 7 (5 * N + i) = 0) ∧ TR w (fun b => if d = 0 then !(ib (nI s) b) else ib (nI s) b) (K' 7 (5 * N + a)) (K' 8 (25 * N + 5 * a)) (fun b => K' 8 (25 * N + 5 * a + b + 1)) := by
  obtain ⟨K1, c1, c2, c3, c4⟩ := K_clear hN h3
  have g3 : K1 0 3 = nI N := by rw [c2 0 (by decide)]; exact h3
  have e1 : ms K1 2 N (nI d) 0 3 = nI N := by rw [ms_q (by decide)]; exact g3
  have e2 : ms (ms K1 2 N (nI d)) 3 N (nI a) 0 3 = nI N := by rw [ms_q (by decide)]; exact e1
  have ev : ms (ms K1 2 N (nI d)) 3 N (nI a) 1 a = nI w := by rw [ms_q (by decide), ms_q (by decide), c2 1 (by decide)]; exact hv
  have hw0 : (if nI d = 0 then f_K_leaf_121 (nI d) x4 x5 0 (0 : Int32) set (nI a) (ms (ms (ms K1 2 N (nI d)) 3 N (nI a)) 4 N (nI s)) else f_K_leaf_121 (nI d) x4 x5 0 (1 : Int32) set (nI a) (ms (ms (ms K1 2 N (nI d)) 3 N (nI a)) 4 N (nI s))) = f_K_leaf_121 (nI d) x4 x5 0 (bi (!decide (d = 0))) set (nI a) (ms (ms (ms K1 2 N (nI d)) 3 N (nI a)) 4 N (nI s)) := by
    by_cases h0 : d = 0
    · subst h0; rw [if_pos (show nI 0 = 0 from rfl)]; rfl
    · rw [if_neg (fun e => h0 ((nI_eq0 (by omega)).mp e))]; simp [h0, bi]
  rw [f_K_leaf_59, h3, if_neg (show ¬ nI N = 120 from fun e => by have := (nI_eq (b := 120) (by omega) (by decide)).mp e; omega), c1, om_s, g3, gd_nI hN (by decide), nI_clamp (by omega), e1, gd_nI hN (by decide), nI_clamp (by omega), K_there (by omega) hw ev hs, ob_s, e2, gd_nI hN (by decide), nI_clamp (by omega), hw0]
  obtain ⟨K2, m0, mp⟩ := K_make (N := N) (a := a) (ver := w) (set := set) (w := !decide (d = 0)) hN (by omega) hw (K := ms (ms (ms K1 2 N (nI d)) 3 N (nI a)) 4 N (nI s)) (by rw [ms_q (by decide)]; exact e2) (by rw [ms_q (by decide)]; exact ev)
  have ht := mk_TR hw mp hsb
  obtain ⟨p1, p2, p3, -, -, -⟩ := mp
  rw [f_K_leaf_121, m0, om_s, if_pos rfl, K_leaf175 (by rw [p1 0 (by decide) (by decide), ms_q (by decide)]; exact e2)]
  refine ⟨_, rfl, ⟨fun q hq => ?_, fun j h0 h3 => ?_, ms_s _ _ _ _, fun q j hq hq2 hj => ?_, fun j hj => ?_, fun j hj => ?_, ?_, ?_, ?_⟩, fun i hi hia => ?_, ?_⟩
  · rw [ms_q (by omega), p1 q (by omega) (by omega), ms_q (by omega), ms_q (by omega), ms_q (by omega), c2 q (by omega)]
  · rw [ms_i h3, p1 0 (by decide) (by decide), ms_q (by decide), ms_q (by decide), ms_q (by decide), c2 0 (by decide)]
  · rw [ms_q (by omega), p1 q (by omega) (by omega), ms_qi, ms_qi, ms_qi, if_neg (by omega), if_neg (by omega), if_neg (by omega), c2 q (by omega)]
  · rw [ms_q (by decide), p2 j (by omega), ms_q (by decide), ms_q (by decide), ms_q (by decide), c3 j hj]
  · rw [ms_q (by decide), p3 j (by omega), ms_q (by decide), ms_q (by decide), ms_q (by decide), c2 8 (by decide)]
  · rw [ms_q (by decide), p1 2 (by decide) (by decide), ms_q (by decide), ms_q (by decide), ms_s]
  · rw [ms_q (by decide), p1 3 (by decide) (by decide), ms_q (by decide), ms_s]
  · rw [ms_q (by decide), p1 4 (by decide) (by decide), ms_s]
  · rw [ms_q (by decide), p2 _ (by omega), ms_q (by decide), ms_q (by decide), ms_q (by decide), c4 _ (by omega) (by omega)]
  · rw [ms_q (q2 := 7) (by decide), ms_q (q2 := 8) (by decide)]
    have hfun : (fun b => if d = 0 then !(ib (nI s) b) else ib (nI s) b) = (fun b => if (!decide (d = 0)) = true then ib (nI s) b else !(ib (nI s) b)) := by
      funext b
      by_cases h0 : d = 0 <;> simp [h0]
    rw [hfun]
    exact ht
