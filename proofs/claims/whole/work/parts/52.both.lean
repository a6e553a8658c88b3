/-! PURE: what both sides do together -/
theorem okC_none {N : Nat} : okC N none := fun _ e => nomatch e
theorem okN_none {M0 : Mem} {num : Nat → Nat} : okN M0 num none := fun _ e => nomatch e
theorem okC_some {N c : Nat} (h : c < N) : okC N (some c) := fun _ e => by
  injection e with e
  rw [← e]; exact h
theorem okN_some {M0 : Mem} {num : Nat → Nat} {c : Nat} (h : M0 3 c ≠ 4 ∨ num c ≠ 0) : okN M0 num (some c) := fun _ e => by
  injection e with e
  rw [← e]; exact h
theorem both_later {N nn L x s0 k0 s k y : Nat} {v num : Nat → Nat} {M0 K0 M K : Mem} {R : List WEnt} {rs : List WRec} (hW : WS N v M0 K0 M K ((x, s0, k0) :: R) num nn rs) (hL : R.length = L) (hL2 : L ≤ 118) (h14 : M 11 14 = nI L) (h23 : K 0 23 = nI (L + 1)) : ∃ M' K', (om (f_W_await (nI (cS s)) (nI x) (onI (eF M0 x s k)) (onI (eS M0 x s k)) M) fun M1 => om (f_W_await (0 : Int32) (nI y) (-1 : Int32) (-1 : Int32) M1) fun M2 => some M2) = some M' ∧ f_K_later (nI s) (nI k) (nI y) K = some K' ∧ WS N v M0 K0 M' K' ((y, 0, 0) :: (x, s, k) :: R) num nn rs ∧ M' 11 14 = nI (L + 2) ∧ K' 0 23 = nI (L + 2) := by
  subst hL
  obtain ⟨a1, a2, a3, a4, a5, a6, a7, ⟨⟨-, -, -, -, p5, -, -⟩, a8⟩, a9, a10⟩ := hW
  obtain ⟨M1, m1, m2, m3, m4, ⟨m5, m6, m7, m8⟩, m9⟩ := W_await (x1 := nI (cS s)) (x2 := nI x) (x3 := onI (eF M0 x s k)) (x4 := onI (eS M0 x s k)) h14 (by omega)
  obtain ⟨M2, n1, n2, n3, n4, ⟨n5, n6, n7, n8⟩, n9⟩ := W_await (x1 := (0 : Int32)) (x2 := nI y) (x3 := (-1 : Int32)) (x4 := (-1 : Int32)) m4 (by omega)
  obtain ⟨K', k1, k2, k3, k4, ⟨k5, k6, k7, k8, k9⟩, k10⟩ := K_later (s := nI s) (k := nI k) (y := nI y) h23 (by omega)
  have q2 : ∀ q, q ≠ 11 → (q < 19 ∨ 22 < q) → M2 q = M q := fun q h1 h2 => by rw [n2 q h1 h2, m2 q h1 h2]
  have j2 : ∀ j, j ≠ 14 → M2 11 j = M 11 j := fun j h => by rw [n3 j h, m3 j h]
  refine ⟨M2, K', by rw [m1, om_s, n1, om_s], k1, ⟨fun q h1 h2 => by rw [q2 q h1 (by omega)]; exact a1 q h1 h2, ⟨fun q h1 h2 => by rw [k2 q h1 (by omega) (by omega) (by omega)]; exact a2.1 q h1 h2, fun j b1 b2 b3 b4 => by rw [k3 j b4]; exact a2.2 j b1 b2 b3 b4⟩, fun i hi => by rw [q2 13 (by decide) (by decide), k2 12 (by decide) (by decide) (by decide) (by decide)]; exact a3 i hi, ⟨by rw [j2 3 (by decide)]; exact a4.1, by rw [k3 18 (by decide)]; exact a4.2⟩, ⟨by rw [j2 9 (by decide)]; exact a5.1, by rw [k3 17 (by decide)]; exact a5.2⟩, ⟨by rw [k3 16 (by decide)]; exact a6.1, fun j h => by rw [k2 9 (by decide) (by decide) (by decide) (by decide)]; exact a6.2 j h⟩, RecR_keep rs a7 (fun q i h1 h2 _ => by rw [q2 q (by omega) (by omega)]) (fun q i h1 h2 _ => by rw [k2 q (by omega) (by omega) (by omega) (by omega)]) (fun _ _ _ => rfl), ⟨⟨?_, ?_, ?_, ?_, ?_, ?_, fun h => absurd rfl h⟩, ⟨⟨?_, ?_, ?_, ?_, ?_, ?_, fun _ => ?_⟩, PileR_keep R a8 (fun q i h1 h2 h3 => ?_) (fun q i h1 h2 h3 => ?_)⟩⟩, a9, a10⟩, n4, k4⟩
  · exact n5
  · exact n6
  · exact n7
  · exact n8
  · exact k8
  · exact k9
  · show M2 19 R.length = _
    rw [n9 19 R.length (by decide) (by omega)]; exact m5
  · show M2 20 R.length = _
    rw [n9 20 R.length (by decide) (by omega)]; exact m6
  · show M2 21 R.length = _
    rw [n9 21 R.length (by decide) (by omega)]; exact m7
  · show M2 22 R.length = _
    rw [n9 22 R.length (by decide) (by omega)]; exact m8
  · show K' 15 R.length = _
    rw [k5]; exact p5
  · exact k6
  · exact k7
  · rw [n9 q i (by omega) (by omega), m9 q i (by omega) (by omega)]
  · exact k10 q i (by omega) h3
theorem both_give {N nn g : Nat} {v num : Nat → Nat} {M0 K0 M K : Mem} {P : List WEnt} {c : WRec} {rs : List WRec} (hW : WS N v M0 K0 M K P num nn (c :: rs)) (hN : N ≤ 120) (h10 : M0 1 10 = nI N) (hg : g < N) (h0 : num g = 0) (h4 : M0 3 g = 4) (hS : rs.length < 120) : ∃ M' K', f_W_giveNumber (nI g) M = some M' ∧ f_K_give (nI g) K = some K' ∧ WS N v M0 K0 M' K' P (numU num g (nn + 1)) (nn + 1) ((c.1, c.2.1, c.2.2.1, c.2.2.2.1, nn + 1) :: rs) ∧ M' 11 14 = M 11 14 ∧ K' 0 23 = K 0 23 := by
  obtain ⟨a1, a2, a3, a4, a5, a6, ⟨⟨r1, r2, r3, r4, r5, r6, r7⟩, a7⟩, a8, a9, a10⟩ := hW
  have hV : ∀ d ∈ rs, RecV N M0 num d := fun d hd => a9 d (List.mem_cons_of_mem _ hd)
  have hT : allT v M0 (numU num g (nn + 1)) rs = allT v M0 num rs := allT_num h0 h4 rs hV
  obtain ⟨w1, w2, w3, w4, w5, w6⟩ := a9 c List.mem_cons_self
  have hm : ∀ o : Option Nat, okN M0 num o → okN M0 (numU num g (nn + 1)) o := fun o ho a ha => by
    rcases ho a ha with h | h
    · exact Or.inl h
    · refine Or.inr ?_
      unfold numU
      split
      · omega
      · exact h
  have hM := W_give (g := g) hN (by rw [a1 1 (by decide) (Or.inl (by decide))]; exact h10) hg a5.1 hS a4.1
  have hK := K_give (g := g) (by omega) (by rw [(a3 g (by omega)).2, h0]) a5.2 hS a4.2
  refine ⟨_, _, hM, hK, ⟨fun q h1 h2 => by rw [ms_q (by omega), ms_q (by omega), ms_q h1]; exact a1 q h1 h2, ⟨fun q h1 h2 => by rw [ms_q (by omega), ms_q (by omega), ms_q h1]; exact a2.1 q h1 h2, fun j b1 b2 b3 b4 => by rw [ms_q (by decide), ms_q (by decide), ms_i b3]; exact a2.2 j b1 b2 b3 b4⟩, fun k hk => ?_, ⟨by rw [ms_q (by decide), ms_q (by decide), ms_s], by rw [ms_q (by decide), ms_q (by decide), ms_s]⟩, ⟨by rw [ms_q (by decide), ms_q (by decide), ms_i (by decide)]; exact a5.1, by rw [ms_q (by decide), ms_q (by decide), ms_i (by decide)]; exact a5.2⟩, ?_, ⟨⟨by rw [ms_q (by decide), ms_q (by decide), ms_q (by decide)]; exact r1, by rw [ms_q (by decide), ms_q (by decide), ms_q (by decide)]; exact r2, by rw [ms_q (by decide), ms_q (by decide), ms_q (by decide)]; exact r3, by rw [ms_q (by decide), ms_q (by decide), ms_q (by decide)]; exact r4, by rw [ms_s], by rw [ms_s], by rw [ms_q (by decide), ms_q (by decide), ms_q (by decide), hT]; exact r7⟩, RecR_keep rs a7 (fun q i h1 h2 h3 => ?_) (fun q i h1 h2 h3 => ?_) (fun A B e => allT_num h0 h4 B (fun d hd => hV d (by rw [e]; exact List.mem_append_right A hd)))⟩, PileR_keep P a8 (fun q i h1 h2 _ => by rw [ms_q (by omega), ms_q (by omega), ms_q (by omega)]) (fun q i h1 h2 _ => by rw [ms_q (by omega), ms_q (by omega), ms_q (by omega)]), fun d hd => ?_, fun k => ?_⟩, by rw [ms_q (by decide), ms_q (by decide), ms_i (by decide)], by rw [ms_q (by decide), ms_q (by decide), ms_i (by decide)]⟩
  · unfold numU
    by_cases hkg : k = g
    · subst hkg
      rw [if_pos rfl]
      exact ⟨by rw [ms_q (by decide), ms_s], by rw [ms_q (by decide), ms_s]⟩
    · rw [if_neg hkg]
      exact ⟨by rw [ms_q (by decide), ms_i hkg, ms_q (by decide)]; exact (a3 k hk).1, by rw [ms_q (by decide), ms_i hkg, ms_q (by decide)]; exact (a3 k hk).2⟩
  · have e : allT v M0 (numU num g (nn + 1)) ((c.1, c.2.1, c.2.2.1, c.2.2.2.1, nn + 1) :: rs) = allT v M0 num (c :: rs) := by
      show allT v M0 (numU num g (nn + 1)) rs ++ textL v M0 (numU num g (nn + 1)) c.1 c.2.1 c.2.2.1 c.2.2.2.1 = allT v M0 num rs ++ textL v M0 num c.1 c.2.1 c.2.2.1 c.2.2.2.1
      rw [hT, textL_num h0 h4 w5 w6]
    rw [e]
    exact ⟨by rw [ms_q (by decide), ms_q (by decide), ms_i (by decide)]; exact a6.1, fun j h => by rw [ms_q (by decide), ms_q (by decide), ms_q (by decide)]; exact a6.2 j h⟩
  · rw [ms_qi, if_neg (fun e => absurd e.2 (by omega)), ms_q (by omega), ms_q (by omega)]
  · rw [ms_qi, if_neg (fun e => absurd e.2 (by omega)), ms_q (by omega), ms_q (by omega)]
  · rcases List.mem_cons.mp hd with e | e
    · subst e
      exact ⟨w1, w2, w3, w4, hm _ w5, hm _ w6⟩
    · obtain ⟨u1, u2, u3, u4, u5, u6⟩ := hV d e
      exact ⟨u1, u2, u3, u4, hm _ u5, hm _ u6⟩
  · unfold numU
    have := a10 k
    split <;> omega
theorem both_say {N nn o x : Nat} {c1 c2 : Option Nat} {v num : Nat → Nat} {M0 K0 M K K' : Mem} {P : List WEnt} {rs : List WRec} (hW : WS N v M0 K0 M K P num nn rs) (hS : rs.length < 120) (hV : RecV N M0 num (o, c1, c2, x, 0)) (hb : BufK K' (allT v M0 num rs ++ textL v M0 num o c1 c2 x)) (hs : SayK rs.length (allT v M0 num rs).length K K') : ∃ M', f_W_say (nI o) (onI c1) (onI c2) (nI x) M = some M' ∧ WS N v M0 K0 M' K' P num nn ((o, c1, c2, x, 0) :: rs) ∧ M' 11 14 = M 11 14 ∧ K' 0 23 = K 0 23 := by
  obtain ⟨a1, a2, a3, a4, a5, a6, a7, a8, a9, a10⟩ := hW
  obtain ⟨s1, s2, s3, s4, s5, s6, s7⟩ := hs
  obtain ⟨M', m1, m2, m3, m4, ⟨m5, m6, m7, m8, m8'⟩, m9⟩ := W_say (x1 := nI o) (x2 := onI c1) (x3 := onI c2) (x4 := nI x) a5.1 hS
  refine ⟨M', m1, ⟨fun q h1 h2 => by rw [m2 q h1 (by omega)]; exact a1 q h1 h2, ⟨fun q h1 h2 => by rw [s1 q h1 (by omega) (by omega) (by omega)]; exact a2.1 q h1 h2, fun j b1 b2 b3 b4 => by rw [s2 j b1 b2]; exact a2.2 j b1 b2 b3 b4⟩, fun k hk => by rw [m2 13 (by decide) (Or.inl (by decide)), s1 12 (by decide) (by decide) (by decide) (by decide)]; exact a3 k hk, ⟨by rw [m3 3 (by decide)]; exact a4.1, by rw [s2 18 (by decide) (by decide)]; exact a4.2⟩, ⟨m4, s3⟩, hb, ⟨⟨m5, m6, m7, m8, m8', s6, s4⟩, RecR_keep rs a7 (fun q i h1 h2 h3 => m9 q i (by omega) (by omega)) (fun q i h1 h2 h3 => ?_) (fun _ _ _ => rfl)⟩, PileR_keep P a8 (fun q i h1 h2 _ => by rw [m2 q (by omega) (Or.inr (by omega))]) (fun q i h1 h2 _ => by rw [s1 q (by omega) (by omega) (by omega) (by omega)]), fun d hd => ?_, a10⟩, m3 14 (by decide), s2 23 (by decide) (by decide)⟩
  · by_cases hq : q = 10
    · subst hq; exact s5 i (by omega)
    · have : q = 11 := by omega
      subst this; exact s7 i (by omega)
  · rcases List.mem_cons.mp hd with e | e
    · subst e; exact hV
    · exact a9 d e
/-- x is said and done -/
def Closed (N : Nat) (v : Nat → Nat) (us : Nat → Nat) (M0 K0 : Mem) (x : Nat) (R : List WEnt) (num : Nat → Nat) (nn : Nat) (rs : List WRec) (M' K' : Mem) : Prop := ∃ (num' : Nat → Nat) (nn' : Nat) (c : WRec), WS N v M0 K0 M' K' R num' nn' (c :: rs) ∧ M' 11 14 = nI R.length ∧ K' 0 23 = nI R.length ∧ nn' ≤ nn + 1 ∧ (∀ y, y ≠ x → num' y = num y) ∧ (2 ≤ us x → num' x ≠ 0)
theorem both_close {n N nn o x s k r : Nat} {c1 c2 : Option Nat} {v num us : Nat → Nat} {M0 K0 M K K1 : Mem} {R : List WEnt} {rs : List WRec} (hF : RF n N v M0 K0) (hU : UR r us M0 K0) (hus : ∀ k, us k ≤ 240) (hW : WS N v M0 K0 M K ((x, s, k) :: R) num nn rs) (hS : rs.length < 120) (hx : x < N) (hx0 : num x = 0) (hx4 : M0 3 x = 4) (hV : RecV N M0 num (o, c1, c2, x, 0)) (h14 : M 11 14 = nI R.length) (h23 : K 0 23 = nI (R.length + 1)) (hb : BufK K1 (allT v M0 num rs ++ textL v M0 num o c1 c2 x)) (hs : SayK rs.length (allT v M0 num rs).length K K1) : ∃ M' K', f_W_close (nI o) (onI c1) (onI c2) (nI x) M = some M' ∧ f_K_end (nI x) K1 = some K' ∧ Closed N v us M0 K0 x R num nn rs M' K' := by
  have hN := hF.2.1
  have h10 := hF.2.2.2.2.1
  obtain ⟨M1, m1, w1, e14, e23⟩ := both_say hW hS hV hb hs
  have w1' := WS_tail w1
  obtain ⟨a1, a2, -⟩ := id w1
  have u12 : M1 12 x = nI (us x) := by rw [a1 12 (by decide) (Or.inl (by decide))]; exact (hU x (by omega)).1
  have u13 : K1 13 x = nI (us x) := by rw [a2.1 13 (by decide) (Or.inr (Or.inl rfl))]; exact (hU x (by omega)).2.1
  have hb2 := hus x
  have sh := W_isShared (g := x) hN (show M1 1 10 = nI N by rw [a1 1 (by decide) (Or.inl (by decide))]; exact h10) hx u12 hb2
  have p23 : K1 0 23 - 1 = nI R.length := by rw [e23, h23, nI_pred]
  by_cases h2 : 2 ≤ us x
  · rw [decide_eq_true h2] at sh
    obtain ⟨M2, K2, g1, g2, w2, e14', e23'⟩ := both_give w1' hN h10 hx hx0 hx4 hS
    refine ⟨M2, ms K2 0 23 (nI R.length), ?_, ?_, numU num x (nn + 1), nn + 1, _, WS_k23 w2, by rw [e14', e14, h14], by rw [ms_s], Nat.le_refl _, fun y hy => by rw [numU, if_neg hy], fun _ => by rw [numU, if_pos rfl]; omega⟩
    · rw [f_W_close, m1, om_s, sh, ob_s, if_neg (by decide), g1, om_s]
    · rw [f_K_end, gd_nI (by omega) (by decide), nI_clamp (by omega), u13, if_neg (show ¬ nI (us x) ≤ 1 from nI_ge (a := 1) (by omega) (by omega)), g2, om_s, e23', p23]
  · rw [decide_eq_false h2] at sh
    refine ⟨M1, ms K1 0 23 (nI R.length), ?_, ?_, num, nn, _, WS_k23 w1', by rw [e14, h14], by rw [ms_s], Nat.le_succ _, fun _ _ => rfl, fun h => absurd h h2⟩
    · rw [f_W_close, m1, om_s, sh, ob_s, if_pos (show bi false = 0 from rfl)]
    · rw [f_K_end, gd_nI (by omega) (by decide), nI_clamp (by omega), u13, if_pos (show nI (us x) ≤ 1 from nI_le (b := 1) (by omega) (by decide)), p23]
theorem WS_numK {N nn : Nat} {v num : Nat → Nat} {M0 K0 M K : Mem} {P : List WEnt} {rs : List WRec} (hW : WS N v M0 K0 M K P num nn rs) (hN : N ≤ 120) (hnn : nn < 1000) : numK N num K := fun k hk => by
  obtain ⟨-, -, a3, -, -, -, -, -, -, a10⟩ := hW
  exact ⟨(a3 k (by omega)).2, by have := a10 k; omega⟩
theorem both_end {n N nn x s k r c : Nat} {o : Bool} {c2 : Option Nat} {v num us : Nat → Nat} {M0 K0 M K : Mem} {R : List WEnt} {rs : List WRec} (hF : RF n N v M0 K0) (hU : UR r us M0 K0) (hus : ∀ k, us k ≤ 240) (hnn : nn < 1000) (hW : WS N v M0 K0 M K ((x, s, k) :: R) num nn rs) (hS : rs.length < 120) (hx : x < N) (hx0 : num x = 0) (hx4 : M0 3 x = 4) (hc : c < N) (hc' : M0 3 c ≠ 4 ∨ num c ≠ 0) (hc2 : okC N c2) (hc2' : okN M0 num c2) (h14 : M 11 14 = nI R.length) (h23 : K 0 23 = nI (R.length + 1)) : ∃ M' K', f_W_close (if o then (2 : Int32) else 1) (nI c) (onI c2) (nI x) M = some M' ∧ f_K_endWith (bi o) (nI c) (onI c2) (nI x) K = some K' ∧ Closed N v us M0 K0 x R num nn rs M' K' := by
  obtain ⟨-, hFK⟩ := WS_RF hF hW
  obtain ⟨a1, a2, a3, a4, a5, a6, a7, a8, a9, a10⟩ := id hW
  have hl := allT_len hF rs a9
  obtain ⟨K1, k1, kb, ks⟩ := K_because (o := o) hFK (WS_numK hW hF.2.1 hnn) hc hc2 hx hx0 a6 (by omega) a5.2 (by omega)
  have hV : RecV N M0 num ((if o then 2 else 1), some c, c2, x, 0) := ⟨show (if o then 2 else 1) < 4 by cases o <;> decide, hx, okC_some hc, hc2, okN_some hc', hc2'⟩
  obtain ⟨M', K', m1, e1, hC⟩ := both_close hF hU hus hW hS hx hx0 hx4 hV h14 h23 kb ks
  refine ⟨M', K', ?_, by rw [f_K_endWith, k1, om_s, e1, om_s], hC⟩
  have : (if o then (2 : Int32) else 1) = nI (if o then 2 else 1) := by cases o <;> rfl
  rw [this]
  exact m1
theorem both_thus {n N nn x s k r : Nat} {v num us : Nat → Nat} {M0 K0 M K : Mem} {R : List WEnt} {rs : List WRec} (hF : RF n N v M0 K0) (hU : UR r us M0 K0) (hus : ∀ k, us k ≤ 240) (hnn : nn < 1000) (hW : WS N v M0 K0 M K ((x, s, k) :: R) num nn rs) (hS : rs.length < 120) (hx : x < N) (hx0 : num x = 0) (hx4 : M0 3 x = 4) (h14 : M 11 14 = nI R.length) (h23 : K 0 23 = nI (R.length + 1)) : ∃ M' K', f_W_close (3 : Int32) (-1 : Int32) (-1 : Int32) (nI x) M = some M' ∧ (om (f_K_thus (nI x) K) fun M287 => f_K_go_301 (nI x) M287) = some K' ∧ Closed N v us M0 K0 x R num nn rs M' K' := by
  obtain ⟨-, hFK⟩ := WS_RF hF hW
  obtain ⟨a1, a2, a3, a4, a5, a6, a7, a8, a9, a10⟩ := id hW
  have hl := allT_len hF rs a9
  obtain ⟨K1, k1, kb, ks⟩ := K_thus hFK (WS_numK hW hF.2.1 hnn) hx hx0 a6 (by omega) a5.2 (by omega)
  have hV : RecV N M0 num (3, none, none, x, 0) := ⟨show 3 < 4 by decide, hx, okC_none, okC_none, okN_none, okN_none⟩
  obtain ⟨M', K', m1, e1, hC⟩ := both_close hF hU hus hW hS hx hx0 hx4 hV h14 h23 kb ks
  exact ⟨M', K', m1, by rw [k1, om_s, f_K_go_301, e1, om_s], hC⟩
