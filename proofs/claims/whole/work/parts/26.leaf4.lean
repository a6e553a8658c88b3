/-- a leaf of two names in the reference -/
theorem K_leaf59_2 {n N a a2 d w w2 s s2 : Nat} {set set2 : Int32} {K : Mem} (hn : n ≤ 5) (hN : N < 120) (h3 : K 0 3 = nI N) (ha : a < n) (ha2 : a2 < n) (hne : a ≠ a2) (hw : w ≤ 4) (hv : K 1 a = nI w) (hw2 : w2 ≤ 4) (hv2 : K 1 a2 = nI w2) (hs : set &&& nI (2 ^ w - 1) = nI s) (hsb : ∀ j, ib (nI s) j = (ib set j && decide (j < w))) (hs2 : set2 &&& nI (2 ^ w2 - 1) = nI s2) (hsb2 : ∀ j, ib (nI s2) j = (ib set2 j && decide (j < w2))) (hd : d = 1 ∨ d = 3) :
    ∃ K', f_K_leaf_59 (nI d) (nI a) set (nI a2) set2 1 K = some (nI N, K') ∧ lfPost N d a s K K' ∧ K' 5 N = nI a2 ∧ K' 6 N = nI s2 ∧ (∀ i, i < 5 → i ≠ a → i ≠ a2 → K' 7 (5 * N + i) = 0) ∧ TR w (fun b => ib (nI s) b) (K' 7 (5 * N + a)) (K' 8 (25 * N + 5 * a)) (fun b => K' 8 (25 * N + 5 * a + b + 1)) ∧ TR w2 (fun b => if d = 1 then !(ib (nI s2) b) else ib (nI s2) b) (K' 7 (5 * N + a2)) (K' 8 (25 * N + 5 * a2)) (fun b => K' 8 (25 * N + 5 * a2 + b + 1)) := by
  obtain ⟨K1, c1, c2, c3, c4⟩ := K_clear hN h3
  have g3 : K1 0 3 = nI N := by rw [c2 0 (by decide)]; exact h3
  have e1 : ms K1 2 N (nI d) 0 3 = nI N := by rw [ms_q (by decide)]; exact g3
  have e2 : ms (ms K1 2 N (nI d)) 3 N (nI a) 0 3 = nI N := by rw [ms_q (by decide)]; exact e1
  have ev : ms (ms K1 2 N (nI d)) 3 N (nI a) 1 a = nI w := by rw [ms_q (by decide), ms_q (by decide), c2 1 (by decide)]; exact hv
  have hd0 : ¬ nI d = 0 := fun e => by have := (nI_eq0 (by omega)).mp e; omega
  rw [f_K_leaf_59, h3, if_neg (show ¬ nI N = 120 from fun e => by have := (nI_eq (b := 120) (by omega) (by decide)).mp e; omega), c1, om_s, g3, gd_nI hN (by decide), nI_clamp (by omega), e1, gd_nI hN (by decide), nI_clamp (by omega), K_there (by omega) hw ev hs, ob_s, e2, gd_nI hN (by decide), nI_clamp (by omega), if_neg hd0]
  obtain ⟨K2, m0, mp⟩ := K_make (N := N) (a := a) (ver := w) (set := set) (w := true) hN (by omega) hw (K := ms (ms (ms K1 2 N (nI d)) 3 N (nI a)) 4 N (nI s)) (by rw [ms_q (by decide)]; exact e2) (by rw [ms_q (by decide)]; exact ev)
  have ht := mk_TR hw mp hsb
  obtain ⟨p1, p2, p3, -, -, -⟩ := mp
  have k3 : K2 0 3 = nI N := by rw [p1 0 (by decide) (by decide), ms_q (by decide)]; exact e2
  have k4 : ms K2 5 N (nI a2) 0 3 = nI N := by rw [ms_q (by decide)]; exact k3
  have kv : ms K2 5 N (nI a2) 1 a2 = nI w2 := by rw [ms_q (by decide), p1 1 (by decide) (by decide), ms_q (by decide), ms_q (by decide), ms_q (by decide), c2 1 (by decide)]; exact hv2
  rw [f_K_leaf_121, show (1 : Int32) = bi true from rfl, m0, om_s, if_neg (show ¬ bi true = 0 by decide), k3, gd_nI hN (by decide), nI_clamp (by omega), K_there (by omega) hw2 kv hs2, ob_s, k4, gd_nI hN (by decide), nI_clamp (by omega)]
  have hcc : (if nI d = 3 then f_K_leaf_172 (bi true) set2 (nI a2) (ms (ms K2 5 N (nI a2)) 6 N (nI s2)) else f_K_leaf_172 0 set2 (nI a2) (ms (ms K2 5 N (nI a2)) 6 N (nI s2))) = f_K_leaf_172 (bi (!decide (d = 1))) set2 (nI a2) (ms (ms K2 5 N (nI a2)) 6 N (nI s2)) := by
    rcases hd with rfl | rfl
    · rw [if_neg (by decide)]; rfl
    · rw [if_pos (by decide)]; rfl
  rw [hcc]
  obtain ⟨K3, m0', mp'⟩ := K_make (N := N) (a := a2) (ver := w2) (set := set2) (w := !decide (d = 1)) hN (by omega) hw2 (K := ms (ms K2 5 N (nI a2)) 6 N (nI s2)) (by rw [ms_q (by decide)]; exact k4) (by rw [ms_q (by decide)]; exact kv)
  have ht' := mk_TR hw2 mp' hsb2
  obtain ⟨r1, r2, r3, -, -, -⟩ := mp'
  rw [f_K_leaf_172, m0', om_s, K_leaf175 (by rw [r1 0 (by decide) (by decide), ms_q (by decide)]; exact k4)]
  refine ⟨_, rfl, ⟨fun q hq => ?_, fun j h0 h3 => ?_, ms_s _ _ _ _, fun q j hq hq2 hj => ?_, fun j hj => ?_, fun j hj => ?_, ?_, ?_, ?_⟩, ?_, ?_, fun i hi hia hia2 => ?_, ?_, ?_⟩
  · rw [ms_q (by omega), r1 q (by omega) (by omega), ms_q (by omega), ms_q (by omega), p1 q (by omega) (by omega), ms_q (by omega), ms_q (by omega), ms_q (by omega), c2 q (by omega)]
  · rw [ms_i h3, r1 0 (by decide) (by decide), ms_q (by decide), ms_q (by decide), p1 0 (by decide) (by decide), ms_q (by decide), ms_q (by decide), ms_q (by decide), c2 0 (by decide)]
  · rw [ms_q (by omega), r1 q (by omega) (by omega), ms_qi, ms_qi, if_neg (by omega), if_neg (by omega), p1 q (by omega) (by omega), ms_qi, ms_qi, ms_qi, if_neg (by omega), if_neg (by omega), if_neg (by omega), c2 q (by omega)]
  · rw [ms_q (by decide), r2 j (by omega), ms_q (by decide), ms_q (by decide), p2 j (by omega), ms_q (by decide), ms_q (by decide), ms_q (by decide), c3 j hj]
  · rw [ms_q (by decide), r3 j (by omega), ms_q (by decide), ms_q (by decide), p3 j (by omega), ms_q (by decide), ms_q (by decide), ms_q (by decide), c2 8 (by decide)]
  · rw [ms_q (by decide), r1 2 (by decide) (by decide), ms_q (by decide), ms_q (by decide), p1 2 (by decide) (by decide), ms_q (by decide), ms_q (by decide), ms_s]
  · rw [ms_q (by decide), r1 3 (by decide) (by decide), ms_q (by decide), ms_q (by decide), p1 3 (by decide) (by decide), ms_q (by decide), ms_s]
  · rw [ms_q (by decide), r1 4 (by decide) (by decide), ms_q (by decide), ms_q (by decide), p1 4 (by decide) (by decide), ms_s]
  · rw [ms_q (by decide), r1 5 (by decide) (by decide), ms_q (by decide), ms_s]
  · rw [ms_q (by decide), r1 6 (by decide) (by decide), ms_s]
  · rw [ms_q (by decide), r2 _ (by omega), ms_q (by decide), ms_q (by decide), p2 _ (by omega), ms_q (by decide), ms_q (by decide), ms_q (by decide), c4 _ (by omega) (by omega)]
  · have hx : ∀ j, j < 5 → ms K3 0 3 (nI (N + 1)) 8 (25 * N + 5 * a + j) = K2 8 (25 * N + 5 * a + j) := fun j hj => by
      rw [ms_q (by decide), r3 _ (by omega), ms_q (by decide), ms_q (by decide)]
    have h7 : ms K3 0 3 (nI (N + 1)) 7 (5 * N + a) = K2 7 (5 * N + a) := by
      rw [ms_q (by decide), r2 _ (by omega), ms_q (by decide), ms_q (by decide)]
    rw [h7, show 25 * N + 5 * a = 25 * N + 5 * a + 0 from rfl, hx 0 (by omega)]
    obtain ⟨t1, t2, t3⟩ := ht
    refine ⟨t1, t2, fun hh => ⟨(t3 hh).1, fun b hb => ?_⟩⟩
    have := (t3 hh).2 b hb
    show ms K3 0 3 (nI (N + 1)) 8 (25 * N + 5 * a + (b + 1)) = _
    rw [hx (b + 1) (by omega)]
    exact this
  · rw [ms_q (q2 := 7) (by decide), ms_q (q2 := 8) (by decide)]
    have hfun : (fun b => if d = 1 then !(ib (nI s2) b) else ib (nI s2) b) = (fun b => if (!decide (d = 1)) = true then ib (nI s2) b else !(ib (nI s2) b)) := by
      funext b
      by_cases h0 : d = 1 <;> simp [h0]
    rw [hfun]
    exact ht'
/-- the class's unused parts -/
def RL (N : Nat) (M : Mem) : Prop := ∀ k, N ≤ k → k < 120 → M 9 k = -1 ∧ M 10 k = -1
theorem s_hi {s w : Nat} (h : s < 2 ^ w) (hw : w ≤ 4) : ∀ j, 5 ≤ j → ib (nI s) j = false := fun _ hj => ib_lt h (by omega) (by omega)
theorem TW_b {a s w : Nat} (ha : a < 5) (h : s < 2 ^ w) (hw : w ≤ 4) : (∀ i b, i < 5 → b < 5 → ib (TW a (nI s)) (5 * i + b) = if i = a then ib (nI s) b else true) ∧ ∀ j, 25 ≤ j → ib (TW a (nI s)) j = false := ⟨wantedIn_bits ha (s_hi h hw), wantedIn_hi ha (s_hi h hw)⟩
theorem TN_b {a s w : Nat} (ha : a < 5) (h : s < 2 ^ w) (hw : w ≤ 4) : (∀ i b, i < 5 → b < 5 → ib (TN a (nI s)) (5 * i + b) = if i = a then !(ib (nI s) b) else true) ∧ ∀ j, 25 ≤ j → ib (TN a (nI s)) j = false := ⟨notIn_bits ha (s_hi h hw), notIn_hi⟩
/-- a node's bits out of its terms -/
theorem NRb_of {n : Nat} {v : Nat → Nat} {T : Int32} {has says : Nat → Int32} (hhi : ∀ j, 25 ≤ j → ib T j = false) (h : ∀ i, i < 5 → (has i = 0 ∧ ∀ b, b < 5 → ib T (5 * i + b) = true) ∨ (i < n ∧ TR (v i) (fun b => ib T (5 * i + b)) (has i) (says (5 * i)) (fun b => says (5 * i + b + 1)))) : NRb n v T has says := by
  refine ⟨hhi, fun i hi => ?_⟩
  rcases h i hi with ⟨h0, h1⟩ | ⟨hin, t1, t2, t3⟩
  · refine ⟨fun _ b hb => h1 b hb, Or.inl ⟨h0, h1⟩, fun _ => ⟨fun b _ hb => by rw [h1 b (by omega), h1 4 (by omega)], fun hh => ?_⟩⟩
    rw [h0] at hh
    exact absurd hh (by decide)
  · exact ⟨fun hni => absurd hin (by omega), t1, fun _ => ⟨t2, t3⟩⟩
