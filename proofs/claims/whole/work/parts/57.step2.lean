/-! PURE: the other steps, and all steps -/
theorem step_close {n N nn r x s k t : Nat} {v num us : Nat → Nat} {M0 K0 M K : Mem} {R : List WEnt} {rs : List WRec} {D : Nat → Bool} (hc : Ctx n N v r us M0 K0) (hW : WS N v M0 K0 M K ((x, s, k) :: R) num nn rs) (hS : DS M0 r us num D ((x, s, k) :: R)) (h14 : M 11 14 = nI R.length) (h23 : K 0 23 = nI (R.length + 1)) (ht : t + 1 + pend R ≤ 3 * cnt D 120 0) (hr : rs.length + 1 + ops R ≤ cnt D 120 0) (hnn : nn ≤ 2 * t) (hs : s = 1 ∨ s = 2 ∨ s = 4) : Nxt N v r us M0 K0 t (f_W_close (if eF M0 x s k = none then (3 : Int32) else 2) (onI (eF M0 x s k)) (onI (eS M0 x s k)) (nI x) M) (f_K_go K) := by
  obtain ⟨hF, hrN, hU, hUF, hus⟩ := id hc
  have hN := hF.2.1
  have hcl := cnt_le D 120 0
  have dx := DX_of hS (by omega)
  obtain ⟨-, -, -, ⟨⟨hxr, hx4, hxi, hx0, ev⟩, -, -⟩, -⟩ := id hS
  have hxr : x ≤ r := hxr
  have hx4 : M0 3 x = 4 := hx4
  have hx0 : num x = 0 := hx0
  obtain ⟨q1, q2, n1, n2, u1, u2⟩ := WS_see hc hW (by omega)
  obtain ⟨j1, j2⟩ := part_le hc hxr hx4
  have hlen : R.length + x ≤ r := PileV_len R (x, s, k) hS.2.2.2.1
  obtain ⟨-, -, -, -, -, -, -, ⟨⟨-, -, -, -, p5, p6, p7⟩, -⟩, -⟩ := id hW
  have hk17 : K 17 R.length = nI k := p7 (by show s ≠ 0; omega)
  have lfx : lfp M0 x < x := by
    unfold lfp
    split <;> omega
  have go : k < N → f_K_go K = _ := fun hk => K_go1 (s := s) (k := k) hF q2 (show x < N by omega) hx4 h23 (by omega) p5 p6 (by omega) hk17 hk
  rcases ev with ⟨g, -⟩ | ⟨-, ⟨c1, c2, c3, c4⟩ | ⟨c1, c2, c3⟩ | ⟨c1, -⟩ | ⟨c1, ⟨c2, c3⟩, c4, c5⟩⟩
  · have g : s = 0 := g
    omega
  · have c1 : s = 1 := c1
    have c2 : k ≤ r := c2
    have c3 : M0 3 k ≠ 4 := c3
    have c4 : M0 3 (lfp M0 x) ≠ 4 := c4
    subst c1
    have hg := go (by omega)
    rw [if_pos rfl] at hg
    exact end_Nxt (o := true) (c := k) (c2 := some (lfp M0 x)) hc hW h14 h23 (by omega) hx4 dx (by omega) (Or.inl c3) (okC_some (by omega)) (okN_some (Or.inl c4)) ht hr (by omega) rfl rfl rfl rfl rfl rfl hg
  · have c1 : s = 2 := c1
    have c2 : k ≤ r := c2
    have c3 : M0 3 k ≠ 4 ∨ num k ≠ 0 := c3
    subst c1
    have hg := go (by omega)
    rw [if_neg (by decide), if_pos rfl] at hg
    exact end_Nxt (o := true) (c := k) (c2 := none) hc hW h14 h23 (by omega) hx4 dx (by omega) c3 okC_none okN_none ht hr (by omega) rfl rfl rfl rfl rfl rfl hg
  · have c1 : s = 3 := c1
    omega
  · have c1 : s = 4 := c1
    have c4 : k = pa M0 x ∨ k = pb M0 x := c4
    have c5 : (isS M0 (pa M0 x) || isS M0 (pb M0 x)) = false → num k ≠ 0 := c5
    have hkx : k < x := by rcases c4 with e | e <;> omega
    subst c1
    have hg := go (by omega)
    rw [if_neg (by decide), if_neg (by decide), if_neg (by decide)] at hg
    cases hany : (isS M0 (pa M0 x) || isS M0 (pb M0 x)) with
    | true =>
      have eFn : eF M0 x 4 k = none := by rw [eF, if_neg (by decide), if_pos ⟨rfl, hany⟩]
      rw [hany, if_pos rfl] at hg
      obtain ⟨M', K', m1, k1, hC⟩ := both_thus hF hU hus (by omega) hW (by omega) (show x < N by omega) hx0 hx4 h14 h23
      obtain ⟨num', nn', rs', hS'⟩ := ST_closed hC dx ht hr (by omega)
      rw [eFn, if_pos rfl]
      exact ⟨M', K', R, num', nn', rs', D, m1, hg.trans k1, hS'⟩
    | false =>
      have eFn : eF M0 x 4 k = some k := by rw [eF, if_neg (by decide), if_neg (fun e => by rw [hany] at e; exact absurd e.2 (by decide))]
      rw [hany, if_neg (by decide)] at hg
      rw [eFn]
      exact end_Nxt (o := true) (c := k) (c2 := none) hc hW h14 h23 (by omega) hx4 dx (by omega) (Or.inr (c5 hany)) okC_none okN_none ht hr (by omega) rfl rfl rfl rfl rfl rfl hg
theorem step_3 {n N nn r x k t : Nat} {v num us : Nat → Nat} {M0 K0 M K : Mem} {R : List WEnt} {rs : List WRec} {D : Nat → Bool} (hc : Ctx n N v r us M0 K0) (hW : WS N v M0 K0 M K ((x, 3, k) :: R) num nn rs) (hS : DS M0 r us num D ((x, 3, k) :: R)) (h14 : M 11 14 = nI R.length) (h23 : K 0 23 = nI (R.length + 1)) (ht : t + 2 + pend R ≤ 3 * cnt D 120 0) (hr : rs.length + 1 + ops R ≤ cnt D 120 0) (hnn : nn ≤ 2 * t) (hrs : 1 ≤ rs.length) : Nxt N v r us M0 K0 t (f_W_goOn (nI x) (nI k) (nI (oth M0 x k)) M) (f_K_go K) := by
  obtain ⟨hF, hrN, hU, hUF, hus⟩ := id hc
  have hN := hF.2.1
  have h10 := hF.2.2.2.2.1
  have hcl := cnt_le D 120 0
  have dx := DX_of hS (by decide)
  obtain ⟨-, -, -, ⟨ev0, -, -⟩, -⟩ := id hS
  obtain ⟨kp, ko⟩ := EV_3 ev0 rfl
  have kp : k = pa M0 x ∨ k = pb M0 x := kp
  have ko : D (oth M0 x k) = true → 2 ≤ us (oth M0 x k) := ko
  obtain ⟨hxr, hx4, hxi, hx0, ev⟩ := ev0
  have hxr : x ≤ r := hxr
  have hx4 : M0 3 x = 4 := hx4
  have hxi : x = r ∨ 0 < us x := hxi
  have hx0 : num x = 0 := hx0
  have both4 : M0 3 (pa M0 x) = 4 ∧ M0 3 (pb M0 x) = 4 := by
    rcases ev with ⟨g, -⟩ | ⟨-, ⟨c1, -⟩ | ⟨c1, -⟩ | ⟨-, c2, -⟩ | ⟨c1, -⟩⟩
    · exact absurd (show (3 : Nat) = 0 from g) (by decide)
    · exact absurd (show (3 : Nat) = 1 from c1) (by decide)
    · exact absurd (show (3 : Nat) = 2 from c1) (by decide)
    · exact c2
    · exact absurd (show (3 : Nat) = 4 from c1) (by decide)
  obtain ⟨q1, q2, n1, n2, u1, u2⟩ := WS_see hc hW (by omega)
  obtain ⟨j1, j2⟩ := part_le hc hxr hx4
  have hlen : R.length + x ≤ r := PileV_len R (x, 3, k) hS.2.2.2.1
  obtain ⟨-, -, -, -, -, -, -, ⟨⟨-, -, -, -, p5, p6, p7⟩, -⟩, -⟩ := id hW
  have hk17 : K 17 R.length = nI k := p7 (show (3 : Nat) ≠ 0 by decide)
  have oo := oth_or M0 x k
  have hkx : k < x := by rcases kp with e | e <;> omega
  have hox : oth M0 x k < x := by rcases oo with e | e <;> omega
  have hk4 : M0 3 k = 4 := by
    rcases kp with e | e
    · rw [e]; exact both4.1
    · rw [e]; exact both4.2
  have ho4 : M0 3 (oth M0 x k) = 4 := by
    rcases oo with e | e
    · rw [e]; exact both4.1
    · rw [e]; exact both4.2
  have ux := hUF x (Nat.zero_le _) hxr hxi hx4
  have hou : 0 < us (oth M0 x k) := by
    rcases oo with e | e
    · rw [e]; exact ux.1.1
    · rw [e]; exact ux.1.2
  have hany : (isS M0 (pa M0 x) || isS M0 (pb M0 x)) = (isS M0 k || isS M0 (oth M0 x k)) := by
    unfold oth
    by_cases e : pa M0 x = k
    · rw [if_pos e, e]
    · have : k = pb M0 x := kp.resolve_left (fun g => e g.symm)
      rw [if_neg e, ← this, Bool.or_comm]
  have hg : f_K_go K = f_K_goOn (nI x) (nI k) (nI (oth M0 x k)) K := by
    have := K_go1 (s := 3) (k := k) hF q2 (show x < N by omega) hx4 h23 (by omega) p5 p6 (by decide) hk17 (by omega)
    rw [if_neg (by decide), if_neg (by decide), if_pos rfl] at this
    exact this
  have hm := C_goOn (x := x) (k := k) (o := oth M0 x k) hF q1 n1 (by omega) (by omega)
  have hk2 := K_goOn (x := x) (k := k) (o := oth M0 x k) hF q2 (by omega) (by omega)
  rw [hg]
  generalize hA : (isS M0 k || isS M0 (oth M0 x k)) = any at hany hm hk2
  have fin : ∀ (M2 K2 : Mem) (num2 : Nat → Nat) (nn2 : Nat) (rs2 : List WRec), WS N v M0 K0 M2 K2 ((x, 3, k) :: R) num2 nn2 rs2 → DX M0 r us num2 D x R → M2 11 14 = nI R.length → K2 0 23 = nI (R.length + 1) → nn2 ≤ 2 * t + 1 → rs2.length = rs.length → (any = false → num2 k ≠ 0) → Nxt N v r us M0 K0 t (f_W_goOn_47 (nI x) (nI k) (nI (oth M0 x k)) (bi any) M2) (f_K_goOn_21 (nI x) (nI k) (nI (oth M0 x k)) K2) := fun M2 K2 num2 nn2 rs2 w2 dx2 e14 e23 hn2 hl2 hk0 => by
    obtain ⟨q1', q2', n1', n2', -, -⟩ := WS_see hc w2 (by omega)
    have hm2 := C_47 (x := x) (k := k) (o := oth M0 x k) (y := any) hF q1' n1' (by omega)
    have hk3 := K_21 (x := x) (k := k) (o := oth M0 x k) hF n2' (by omega)
    by_cases o0 : num2 (oth M0 x k) = 0
    · rw [if_neg (show ¬ num2 (oth M0 x k) ≠ 0 from fun e => e o0)] at hm2 hk3
      have hDo : D (oth M0 x k) = false := by
        cases hD : D (oth M0 x k) with
        | false => rfl
        | true => exact absurd o0 (dx2.2.1 _ hD (by omega) (fun e he => by have := (dx2.2.2.2.2.1 e he).1; omega) (ko hD))
      refine later_Nxt (s := 4) (k := k) (y := oth M0 x k) hc w2 e14 e23 hlen dx2 ⟨hxr, hx4, hxi, dx2.2.2.2.2.2.2, Or.inr ⟨dx2.2.2.2.2.2.1, Or.inr (Or.inr (Or.inr ⟨rfl, both4, kp, fun e => ?_⟩))⟩⟩ (by decide) ⟨?_, ho4, Or.inr hou, o0, Or.inl ⟨rfl, hDo⟩⟩ hox ⟨x, dx2.2.2.2.2.2.1, oo, Nat.le_refl x, fun _ e => absurd e (by decide)⟩ ?_ (by omega) hn2 rfl ?_ rfl hm2 hk3
      · have e' : (isS M0 (pa M0 x) || isS M0 (pb M0 x)) = false := e
        rw [hany] at e'
        exact hk0 e'
      · show oth M0 x k ≤ r
        omega
      · rw [if_neg (by decide)]; omega
      · rw [eF, hany]
        cases any <;> rfl
    · rw [if_pos (show num2 (oth M0 x k) ≠ 0 from o0)] at hm2 hk3
      exact end_Nxt (o := true) (c := oth M0 x k) (c2 := none) hc w2 e14 e23 (by omega) hx4 dx2 (by omega) (Or.inr o0) okC_none okN_none (by omega) (by omega) hn2 rfl rfl rfl rfl rfl hm2 hk3
  cases any with
  | false =>
    rw [if_pos rfl] at hk2
    by_cases k0 : num k = 0
    · rw [if_pos ⟨rfl, k0⟩] at hm
      cases rs with
      | nil => exact absurd hrs (by decide)
      | cons c rs' =>
        obtain ⟨M2, K2, g1, g2, w2, e14, e23⟩ := both_give hW hN h10 (show k < N by omega) k0 hk4 (by rw [List.length_cons] at hr; omega)
        rw [hm, hk2, g1, g2, om_s, om_s]
        exact fin M2 K2 _ _ _ w2 (DX_num dx hkx (by omega)) (e14.trans h14) (e23.trans h23) (by omega) rfl (fun _ => by rw [numU, if_pos rfl]; omega)
    · rw [if_neg (fun e => k0 e.2)] at hm
      rw [hm, hk2, K_give_no (show k < 120 by omega) (n2 k (by omega)).1 k0 (n2 k (by omega)).2, om_s]
      exact fin M K num nn rs hW dx h14 h23 (by omega) rfl (fun _ => k0)
  | true =>
    rw [if_neg (fun e => absurd e.1 (by decide))] at hm
    rw [if_neg (by decide)] at hk2
    rw [hm, hk2]
    exact fin M K num nn rs hW dx h14 h23 (by omega) rfl (fun e => absurd e (by decide))
theorem step {n N nn r x s k t : Nat} {v num us : Nat → Nat} {M0 K0 M K : Mem} {R : List WEnt} {rs : List WRec} {D : Nat → Bool} (hc : Ctx n N v r us M0 K0) (hS : ST N v r us M0 K0 M K ((x, s, k) :: R) num nn rs D t) : Nxt N v r us M0 K0 t (stp x s (eF M0 x s k) (eS M0 x s k) (ms M 11 14 (nI R.length))) (f_K_go K) := by
  obtain ⟨w, d, ⟨-, h23⟩, h1, h2, h3, h4⟩ := hS
  have w1 : WS N v M0 K0 (ms M 11 14 (nI R.length)) K ((x, s, k) :: R) num nn rs := WS_m14 w
  have h14 : ms M 11 14 (nI R.length) 11 14 = nI R.length := ms_s _ _ _ _
  have hp : pend ((x, s, k) :: R) = (if s = 0 then 0 else if s = 3 then 2 else 1) + pend R := rfl
  have ho : ops ((x, s, k) :: R) = (if s = 0 then 0 else 1) + ops R := rfl
  rw [hp] at h1
  rw [ho] at h2
  unfold stp
  by_cases s0 : s = 0
  · subst s0
    rw [if_pos rfl] at h1 h2
    rw [if_pos rfl]
    exact step_0 hc w1 d h14 h23 (by omega) (by omega) h3
  · rw [if_neg s0] at h1 h2
    rw [if_neg s0]
    have hrs : 1 ≤ rs.length := h4 (x, s, k) R rfl s0
    by_cases s3 : s = 3
    · subst s3
      rw [if_pos rfl] at h1
      rw [if_pos rfl]
      exact step_3 hc w1 d h14 h23 (by omega) (by omega) h3 hrs
    · rw [if_neg s3] at h1
      rw [if_neg s3]
      refine step_close hc w1 d h14 h23 (by omega) (by omega) h3 ?_
      obtain ⟨-, -, -, ⟨⟨-, -, -, -, ev⟩, -, -⟩, -⟩ := d
      rcases ev with ⟨g, -⟩ | ⟨-, ⟨c1, -⟩ | ⟨c1, -⟩ | ⟨c1, -⟩ | ⟨c1, -⟩⟩
      · exact absurd g s0
      · exact Or.inl c1
      · exact Or.inr (Or.inl c1)
      · exact absurd c1 s3
      · exact Or.inr (Or.inr c1)
theorem C_loop {m t L x s : Nat} {f1 f2 : Option Nat} {M : Mem} (h14 : M 11 14 = nI (L + 1)) (hL : L < 121) (ht : t < 360) (h19 : M 19 L = nI (cS s)) (h20 : M 20 L = nI x) (h21 : M 21 L = onI f1) (h22 : M 22 L = onI f2) (hf : ∀ a, f1 = some a → a < 120) : f_W_writeAll_38 (m + 1) (nI t) M = om (stp x s f1 f2 (ms M 11 14 (nI L))) fun M' => f_W_writeAll_38 m (nI (t + 1)) M' := by
  have hp : nI (L + 1) - 1 = nI L := nI_pred L
  have e19 : ∀ z : Int32, ms M 11 14 z 19 = M 19 := fun z => ms_q (by decide)
  have e20 : ∀ z : Int32, ms M 11 14 z 20 = M 20 := fun z => ms_q (by decide)
  have e21 : ∀ z : Int32, ms M 11 14 z 21 = M 21 := fun z => ms_q (by decide)
  have e22 : ∀ z : Int32, ms M 11 14 z 22 = M 22 := fun z => ms_q (by decide)
  rw [f_W_writeAll_38]
  simp only [h14, hp, ms_s, e19, e20, e21, e22, nI_clamp (show L < 2 ^ 31 by omega), gd_nI hL (show 121 < 2 ^ 31 by decide), h19, h20, h21, h22, nI_1]
  rw [if_neg (show ¬ (360 : Int32) ≤ nI t from nI_ge (b := 360) ht (by decide)), if_neg (nI_nle (by omega) (by omega)), stp]
  by_cases s0 : s = 0
  · rw [if_pos s0, if_pos (show nI (cS s) = 0 by rw [s0]; rfl)]
  · rw [if_neg s0]
    by_cases s3 : s = 3
    · rw [if_pos s3, if_neg (show ¬ nI (cS s) = 0 by rw [s3]; decide), if_pos (show nI (cS s) = 1 by rw [s3]; rfl)]
    · have e : cS s = 2 := by rw [cS, if_neg s0, if_neg s3]
      rw [if_neg s3, e, if_neg (show ¬ nI 2 = 0 by decide), if_neg (show ¬ nI 2 = 1 by decide)]
      cases f1 with
      | none => rw [if_pos (show onI none = -1 from rfl), if_pos (show (none : Option Nat) = none from rfl), f_W_writeAll_160, nI_1]
      | some a => rw [if_neg (show ¬ onI (some a) = -1 from nI_m1 (hf a rfl)), if_neg (show ¬ (some a : Option Nat) = none from fun h => by cases h), f_W_writeAll_160, nI_1]
theorem write_loop {n N r : Nat} {v us : Nat → Nat} {M0 K0 : Mem} (hc : Ctx n N v r us M0 K0) : ∀ (w t m1 m2 : Nat) (M K : Mem) (P : List WEnt) (num : Nat → Nat) (nn : Nat) (rs : List WRec) (D : Nat → Bool), t + w = 400 → w < m1 → w < m2 → ST N v r us M0 K0 M K P num nn rs D t → ∃ M' K' num' nn' rs' D' t', f_W_writeAll_38 m1 (nI t) M = some (nI rs'.length, M') ∧ f_K_write_76 m2 K = f_K_write_105 K' ∧ ST N v r us M0 K0 M' K' [] num' nn' rs' D' t' := by
  obtain ⟨hF, hrN, hU, hUF, hus⟩ := id hc
  have hN := hF.2.1
  intro w
  induction w with
  | zero =>
    intro t m1 m2 M K P num nn rs D htw _ _ hS
    obtain ⟨-, -, -, h1, -⟩ := hS
    have := cnt_le D 120 0
    omega
  | succ w ih =>
    intro t m1 m2 M K P num nn rs D htw hm1 hm2 hS
    obtain ⟨m1, rfl⟩ : ∃ m', m1 = m' + 1 := ⟨m1 - 1, by omega⟩
    obtain ⟨m2, rfl⟩ : ∃ m', m2 = m' + 1 := ⟨m2 - 1, by omega⟩
    cases P with
    | nil =>
      obtain ⟨w0, d, ⟨h14, h23⟩, h1, h2, h3, h4⟩ := id hS
      have h14 : M 11 14 = nI 0 := h14
      have h23 : K 0 23 = nI 0 := h23
      refine ⟨M, K, num, nn, rs, D, t, ?_, ?_, hS⟩
      · rw [f_W_writeAll_38, w0.2.2.2.2.1.1, h14, if_pos (show nI 0 ≤ (0 : Int32) by decide)]
        split <;> rfl
      · rw [f_K_write_76, h23, if_pos (show nI 0 ≤ (0 : Int32) by decide)]
    | cons e R =>
      obtain ⟨x, s, k⟩ := e
      obtain ⟨w0, d, ⟨h14, h23⟩, h1, h2, h3, h4⟩ := id hS
      have h14 : M 11 14 = nI (R.length + 1) := h14
      have h23 : K 0 23 = nI (R.length + 1) := h23
      have hcl := cnt_le D 120 0
      have hlen : R.length + x ≤ r := PileV_len R (x, s, k) d.2.2.2.1
      obtain ⟨M', K', P', num', nn', rs', D', g1, g2, g3⟩ := step hc hS
      obtain ⟨-, -, -, -, -, -, -, ⟨⟨p1, p2, p3, p4, -, -, -⟩, -⟩, -⟩ := id w0
      have hp : pend ((x, s, k) :: R) = (if s = 0 then 0 else if s = 3 then 2 else 1) + pend R := rfl
      have t360 : t < 360 := by
        by_cases s0 : s = 0
        · subst s0
          have hxD : D x = false := (DX_open hUF d).2.1
          have := cnt_setD hxD 120 0 (Nat.zero_le _) (by omega)
          have := cnt_le (setD D x) 120 0
          omega
        · have : 1 ≤ pend ((x, s, k) :: R) := by
            rw [hp, if_neg s0]
            split <;> omega
          omega
      have hf : ∀ a, eF M0 x s k = some a → a < 120 := fun a ha => by
        obtain ⟨-, -, -, ⟨⟨e1, e2, -, -, ev⟩, -, -⟩, -⟩ := d
        have e1 : x ≤ r := e1
        have e2 : M0 3 x = 4 := e2
        obtain ⟨j1, j2⟩ := part_le hc e1 e2
        have hak : s ≠ 0 → a = k := fun s0 => by
          rw [eF, if_neg s0] at ha
          split at ha
          · cases ha
          · cases ha; rfl
        rcases ev with ⟨g, -⟩ | ⟨-, ⟨c1, c2, -⟩ | ⟨c1, c2, -⟩ | ⟨c1, -, c2, -⟩ | ⟨c1, -, c2, -⟩⟩
        · have g : s = 0 := g
          rw [eF, if_pos g] at ha; cases ha
        · have c1 : s = 1 := c1
          have c2 : k ≤ r := c2
          have := hak (by omega)
          omega
        · have c1 : s = 2 := c1
          have c2 : k ≤ r := c2
          have := hak (by omega)
          omega
        · have c1 : s = 3 := c1
          have c2 : k = pa M0 x ∨ k = pb M0 x := c2
          have := hak (by omega)
          rcases c2 with e | e <;> omega
        · have c1 : s = 4 := c1
          have c2 : k = pa M0 x ∨ k = pb M0 x := c2
          have := hak (by omega)
          rcases c2 with e | e <;> omega
      rw [C_loop (x := x) (s := s) h14 (by omega) t360 p1 p2 p3 p4 hf, g1, om_s, f_K_write_76, h23, if_neg (nI_nle (by omega) (by omega)), g2, om_s]
      exact ih (t + 1) m1 m2 M' K' P' num' nn' rs' D' (by omega) (by omega) (by omega) g3
