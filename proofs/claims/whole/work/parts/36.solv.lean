/-- a world in which each leaf that counts has a term that isn't true -/
def Solv (n N : Nat) (v : Nat → Nat) (M : Mem) (act : Nat → Prop) : Prop := ∃ w : Nat → Nat, (∀ i, i < n → w i < v i ∨ w i = 4) ∧ ∀ k, k < N → M 3 k ≠ 4 → act k → kept n (M 4 k) w
theorem S_allOptions {n : Nat} {v : Nat → Nat} {M : Mem} (hn : n ≤ 5) (h1 : M 1 1 = nI n) (hv : ∀ i, i < n → v i ≤ 4 ∧ M 2 i = nI (v i)) : ∃ F : Int32, f_S_allOptions M = some (F, M) ∧ (∀ t, 25 ≤ t → ib F t = false) ∧ ∀ i o, i < n → o < 5 → ib F (5 * i + o) = (decide (o < v i) || decide (o = 4)) := by
  have loop : ∀ (c i m : Nat) (F : Int32), i + c = n → c < m → (∀ t, 5 * i ≤ t → ib F t = false) → (∀ j o, j < i → o < 5 → ib F (5 * j + o) = (decide (o < v j) || decide (o = 4))) → ∃ F' : Int32, f_S_allOptions_4 m F (nI i) M = some (F', M) ∧ (∀ t, 25 ≤ t → ib F' t = false) ∧ ∀ j o, j < n → o < 5 → ib F' (5 * j + o) = (decide (o < v j) || decide (o = 4)) := by
    intro c
    induction c with
    | zero =>
      intro i m F hi hm hF hb
      obtain ⟨m, rfl⟩ : ∃ m', m = m' + 1 := ⟨m - 1, by omega⟩
      rw [f_S_allOptions_4, f_F_countNames, ob_s, h1, if_pos (nI_le (by omega) (by omega))]
      exact ⟨F, rfl, fun t ht => hF t (by omega), fun j o hj ho => hb j o (by omega) ho⟩
    | succ c ih =>
      intro i m F hi hm hF hb
      obtain ⟨m, rfl⟩ : ∃ m', m = m' + 1 := ⟨m - 1, by omega⟩
      obtain ⟨w1, w2⟩ := hv i (by omega)
      rw [f_S_allOptions_4, f_F_countNames, ob_s, h1, if_neg (nI_ge (by omega) (by omega)), F_allVersions hn h1 (by omega) w1 w2, ob_s, nI_1]
      refine ih (i + 1) m _ (by omega) (by omega) (fun t ht => ?_) (fun j o hj ho => ?_)
      · rw [ib_or, hF t (by omega), sh5 i (by omega), ib_shl (by omega), ib_or, av_ib _ w1, ib_16, decide_eq_false (show ¬ t - 5 * i < v i by omega), decide_eq_false (show ¬ t - 5 * i = 4 by omega)]
        simp
      · rw [ib_or, sh5 i (by omega), ib_shl (by omega), ib_or, av_ib _ w1, ib_16]
        by_cases hji : j = i
        · subst hji
          rw [hF _ (by omega), show 5 * j + o - 5 * j = o by omega, decide_eq_true (show 5 * j + o < 32 by omega), decide_eq_false (show ¬ 5 * j + o < 5 * j by omega)]
          simp
        · rw [hb j o (by omega) ho, decide_eq_true (show 5 * j + o < 5 * i by omega)]
          simp
  exact loop n 0 100000 0 (by omega) (by omega) (fun t _ => ib_0 t) (fun j o hj _ => by omega)
theorem F_isLeaf {N k d : Nat} {M : Mem} (hN : N ≤ 120) (h10 : M 1 10 = nI N) (hk : k < N) (hd : d ≤ 4) (h3 : M 3 k = nI d) : f_F_isLeaf (nI k) M = some (bi (!decide (d = 4)), M) := by
  rw [f_F_isLeaf, F_hasNode_t hN h10 hk, ob_s, if_neg (by decide), gd_nI (by omega) (by decide), nI_clamp (by omega), h3]
  by_cases h : d = 4
  · subst h; rw [if_pos (by decide)]; rfl
  · rw [if_neg (show ¬ nI d = 4 from fun e => h ((nI_eq (b := 4) (by omega) (by decide)).mp e)), decide_eq_false h]; rfl
/-- at most two terms in a leaf -/
theorem leaf_two {n k d : Nat} {v : Nat → Nat} {M K : Mem} (hn : n ≤ 5) (h : NR n v M K k) (hd : M 3 k = nI d) (hd4 : d < 4) : 0 < n ∧ ∃ a b : Nat, ∀ i, i < n → i ≠ a → i ≠ b → hasT (M 4 k) i = false := by
  have hx := NR_hi h
  obtain ⟨d', g1, g2, g3, -, -, g9⟩ := h
  have hdd : d' = d := (nI_eq (by omega) (by omega)).mp (g2.symm.trans hd)
  subst hdd
  obtain ⟨-, -, a, s, ha, -, -, -, -, -, g10, g11⟩ := g9 hd4
  refine ⟨by omega, ?_⟩
  have done : ∀ i, i < n → (∀ o, o < 5 → ib (M 4 k) (5 * i + o) = true) → hasT (M 4 k) i = false := fun i hi ho => by
    unfold hasT
    rw [decide_eq_true ((opt_31 (by omega) hx).mpr ho)]; rfl
  by_cases h02 : d' = 0 ∨ d' = 2
  · exact ⟨a, a, fun i hi hia _ => done i hi (g10 h02 i (by omega) hia)⟩
  · obtain ⟨a2, s2, -, -, -, -, -, -, -, g12⟩ := g11 (by omega)
    exact ⟨a, a2, fun i hi hia hia2 => done i hi (g12 i (by omega) hia hia2)⟩
theorem S_findsWorld {n N : Nat} {v : Nat → Nat} {M K : Mem} (h : RF n N v M K) : ∃ (z : Bool) (M' : Mem), f_S_findsWorld M = some (bi z, M') ∧ (∀ q, q ≠ 27 → M' q = M q) ∧ (z = true ↔ Solv n N v M (fun k => M 26 k = 0)) := by
  obtain ⟨h1, h2, h3, -, h5, -, h7, h8⟩ := id h
  have m1 : mf M 27 25 (0 : Int32) 1 = M 1 := mf_q (by decide)
  have m2 : mf M 27 25 (0 : Int32) 2 = M 2 := mf_q (by decide)
  obtain ⟨F0, a1, a2, a3⟩ := S_allOptions (M := mf M 27 25 (0 : Int32)) (n := n) (v := v) h1 (by rw [m1]; exact h3) (fun i hi => ⟨(h7 i hi).1, by rw [m2]; exact (h7 i hi).2.1⟩)
  rw [f_S_findsWorld, a1, ob_s]
  have loop : ∀ (c k m : Nat) (F : Int32) (M1 : Mem), k + c = N → c < m → (∀ q, q ≠ 27 → M1 q = M q) → (∀ t, 25 ≤ t → ib F t = false) → (∀ w : Nat → Nat, (∀ i, i < n → w i < 5) → ((okF n F w ∧ okB n (M1 27) w) ↔ ((∀ i, i < n → w i < v i ∨ w i = 4) ∧ ∀ j, j < k → M 3 j ≠ 4 → M 26 j = 0 → kept n (M 4 j) w))) →
      ∃ (z : Bool) (M' : Mem), f_S_findsWorld_15 m F (nI k) M1 = some (bi z, M') ∧ (∀ q, q ≠ 27 → M' q = M q) ∧ (z = true ↔ Solv n N v M (fun k => M 26 k = 0)) := by
    intro c
    induction c with
    | zero =>
      intro k m F M1 hk hm hM hF hw
      obtain ⟨m, rfl⟩ : ∃ m', m = m' + 1 := ⟨m - 1, by omega⟩
      have hkN : k = N := by omega
      subst hkN
      rw [f_S_findsWorld_15, f_F_countNodes, ob_s, hM 1 (by decide), h5, if_pos (nI_le (Nat.le_refl k) (by omega)), f_F_countNames, ob_s, hM 1 (by decide), h3, show (0 : Int32) = nI 0 from rfl, S_canChoose h1 n 0 7 F (by omega) (by omega) hF, ob_s, nar01]
      refine ⟨_, M1, rfl, hM, ?_⟩
      rw [chB_iff (M1 27) n 0 F hF (by omega)]
      constructor
      · intro ⟨w, e1, e2⟩
        have hw5 : ∀ i, i < n → w i < 5 := fun i hi => (e1 i (by omega) (by omega)).1
        have := (hw w hw5).mp ⟨fun i hi => (e1 i (by omega) (by omega)).2, fun i i' a b => e2 i i' (by omega) a (by omega)⟩
        exact ⟨w, this.1, fun j hj hj4 hact => this.2 j hj hj4 hact⟩
      · intro ⟨w, e1, e2⟩
        have hw5 : ∀ i, i < n → w i < 5 := fun i hi => by
          have := (h7 i hi).1
          rcases e1 i hi with q | q <;> omega
        have := (hw w hw5).mpr ⟨e1, fun j hj hj4 hact => e2 j hj hj4 hact⟩
        exact ⟨w, fun i _ hi => ⟨hw5 i (by omega), this.1 i (by omega)⟩, fun i i' _ a b => this.2 i i' a (by omega)⟩
    | succ c ih =>
      intro k m F M1 hk hm hM hF hw
      obtain ⟨m, rfl⟩ : ∃ m', m = m' + 1 := ⟨m - 1, by omega⟩
      have hkN : k < N := by omega
      have hR := h8 k hkN
      obtain ⟨d, hd, hd3, -⟩ := id hR
      rw [f_S_findsWorld_15, f_F_countNodes, ob_s, hM 1 (by decide), h5, if_neg (nI_ge hkN (by omega)), F_isLeaf (M := M1) (d := d) h2 (by rw [hM 1 (by decide)]; exact h5) hkN hd (by rw [hM 3 (by decide)]; exact hd3), ob_s, nI_1]
      by_cases hd4 : d = 4
      · rw [if_pos (show bi (!decide (d = 4)) = 0 by rw [decide_eq_true hd4]; rfl)]
        refine ih (k + 1) m F M1 (by omega) (by omega) hM hF (fun w hw5 => (hw w hw5).trans ⟨fun ⟨x, y⟩ => ⟨x, fun j hj hj4 ha => ?_⟩, fun ⟨x, y⟩ => ⟨x, fun j hj hj4 ha => y j (by omega) hj4 ha⟩⟩)
        by_cases hjk : j = k
        · subst hjk
          rw [hd3, hd4] at hj4
          exact absurd rfl hj4
        · exact y j (by omega) hj4 ha
      · rw [if_neg (show ¬ bi (!decide (d = 4)) = 0 by rw [decide_eq_false hd4]; decide), gd_nI (by omega) (by decide), nI_clamp (by omega), hM 26 (by decide)]
        by_cases hact : M 26 k = 0
        · rw [if_pos hact]
          obtain ⟨n0, a, b, hab⟩ := leaf_two h1 hR hd3 (by omega)
          obtain ⟨r, M2, b1, b2, b3⟩ := S_bar (n := n) (N := N) (k := k) (a := a) (b := b) (M := M1) h1 n0 h2 (by rw [hM 1 (by decide)]; exact h3) (by rw [hM 1 (by decide)]; exact h5) hkN (by rw [hM 4 (by decide)]; exact NR_hi hR) (by rw [hM 4 (by decide)]; exact hab)
          rw [b1, ob_s]
          refine ih (k + 1) m _ M2 (by omega) (by omega) (fun q hq => by rw [b2 q hq, hM q hq]) (fun t ht => by rw [ib_and, hF t ht]; rfl) (fun w hw5 => (b3 F w hw5).trans ?_)
          rw [hM 4 (by decide)]
          constructor
          · intro ⟨e1, e2, e3⟩
            obtain ⟨x, y⟩ := (hw w hw5).mp ⟨e1, e2⟩
            refine ⟨x, fun j hj hj4 ha => ?_⟩
            by_cases hjk : j = k
            · subst hjk; exact e3
            · exact y j (by omega) hj4 ha
          · intro ⟨x, y⟩
            obtain ⟨e1, e2⟩ := (hw w hw5).mpr ⟨x, fun j hj hj4 ha => y j (by omega) hj4 ha⟩
            exact ⟨e1, e2, y k (by omega) (by rw [hd3]; exact fun e => hd4 ((nI_eq (b := 4) (by omega) (by decide)).mp e)) hact⟩
        · rw [if_neg hact]
          refine ih (k + 1) m F M1 (by omega) (by omega) hM hF (fun w hw5 => (hw w hw5).trans ⟨fun ⟨x, y⟩ => ⟨x, fun j hj hj4 ha => ?_⟩, fun ⟨x, y⟩ => ⟨x, fun j hj hj4 ha => y j (by omega) hj4 ha⟩⟩)
          by_cases hjk : j = k
          · subst hjk; exact absurd ha hact
          · exact y j (by omega) hj4 ha
  refine loop N 0 100000 F0 (mf M 27 25 0) (by omega) (by omega) (fun q hq => mf_q hq) a2 (fun w hw5 => ⟨fun ⟨e1, _⟩ => ⟨fun i hi => ?_, fun j hj => by omega⟩, fun ⟨e1, _⟩ => ⟨fun i hi => ?_, fun i i' a b => ?_⟩⟩)
  · have := e1 i hi
    rw [a3 i (w i) hi (hw5 i hi)] at this
    simpa using this
  · rw [a3 i (w i) hi (hw5 i hi)]
    simpa using e1 i hi
  · have := hw5 i (by omega)
    rw [mf_in (by omega)]
    exact ib_0 _
