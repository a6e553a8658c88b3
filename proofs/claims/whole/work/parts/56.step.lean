/-! PURE: one step of both writers -/
def stp (x s : Nat) (f1 f2 : Option Nat) (M : Mem) : Option Mem := if s = 0 then f_W_open (nI x) M else if s = 3 then f_W_goOn (nI x) (onI f1) (onI f2) M else f_W_close (if f1 = none then (3 : Int32) else 2) (onI f1) (onI f2) (nI x) M
def Ctx (n N : Nat) (v : Nat → Nat) (r : Nat) (us : Nat → Nat) (M0 K0 : Mem) : Prop := RF n N v M0 K0 ∧ r < N ∧ UR r us M0 K0 ∧ UF M0 r us 0 ∧ ∀ k, us k ≤ 240
def Nxt (N : Nat) (v : Nat → Nat) (r : Nat) (us : Nat → Nat) (M0 K0 : Mem) (t : Nat) (oc ok : Option Mem) : Prop := ∃ M' K' P' num' nn' rs' D', oc = some M' ∧ ok = some K' ∧ ST N v r us M0 K0 M' K' P' num' nn' rs' D' (t + 1)
theorem WS_see {n N nn r : Nat} {v num us : Nat → Nat} {M0 K0 M K : Mem} {P : List WEnt} {rs : List WRec} (hc : Ctx n N v r us M0 K0) (hW : WS N v M0 K0 M K P num nn rs) (hnn : nn < 1000) : (∀ q, 1 ≤ q → q ≤ 10 → M q = M0 q) ∧ (∀ q, 1 ≤ q → q ≤ 8 → K q = K0 q) ∧ (∀ k, k < 120 → M 13 k = nI (num k) ∧ num k < 1000) ∧ (∀ k, k < 120 → K 12 k = nI (num k) ∧ num k < 1000) ∧ (∀ k, k < 120 → M 12 k = nI (us k) ∧ us k ≤ 240) ∧ ∀ k, k < 120 → K 13 k = nI (us k) ∧ us k ≤ 240 := by
  obtain ⟨a1, a2, a3, -, -, -, -, -, -, a10⟩ := hW
  obtain ⟨-, -, hU, -, hus⟩ := hc
  exact ⟨fun q _ h2 => a1 q (by omega) (Or.inl (by omega)), fun q h1 h2 => a2.1 q (by omega) (Or.inl (by omega)), fun k hk => ⟨(a3 k hk).1, by have := a10 k; omega⟩, fun k hk => ⟨(a3 k hk).2, by have := a10 k; omega⟩, fun k hk => ⟨by rw [a1 12 (by decide) (Or.inl (by decide))]; exact (hU k hk).1, hus k⟩, fun k hk => ⟨by rw [a2.1 13 (by decide) (Or.inr (Or.inl rfl))]; exact (hU k hk).2.1, hus k⟩⟩
theorem later_Nxt {n N nn r x s0 k0 s k y t : Nat} {v num us : Nat → Nat} {M0 K0 M K : Mem} {R : List WEnt} {rs : List WRec} {D : Nat → Bool} {oc ok : Option Mem} {c1 c2 c3 : Int32} (hc : Ctx n N v r us M0 K0) (hW : WS N v M0 K0 M K ((x, s0, k0) :: R) num nn rs) (h14 : M 11 14 = nI R.length) (h23 : K 0 23 = nI (R.length + 1)) (hL : R.length + x ≤ r) (hD : DX M0 r us num D x R) (hE : EV M0 r us num D (x, s, k)) (hs : s ≠ 0) (hy : EV M0 r us num D (y, 0, 0)) (hyx : y < x) (hT : ∃ q, D q = true ∧ (y = pa M0 q ∨ y = pb M0 q) ∧ q ≤ x ∧ (q = x → s = 3 → y = k)) (ht : t + 1 + (if s = 3 then 2 else 1) + pend R ≤ 3 * cnt D 120 0) (hr : rs.length + 1 + ops R ≤ cnt D 120 0) (hnn : nn ≤ 2 * t + 1) (e1 : c1 = nI (cS s)) (e2 : c2 = onI (eF M0 x s k)) (e3 : c3 = onI (eS M0 x s k)) (hoc : oc = om (f_W_await c1 (nI x) c2 c3 M) fun M1 => om (f_W_await (0 : Int32) (nI y) (-1 : Int32) (-1 : Int32) M1) fun M2 => some M2) (hok : ok = f_K_later (nI s) (nI k) (nI y) K) : Nxt N v r us M0 K0 t oc ok := by
  obtain ⟨hF, hrN, -⟩ := hc
  have hN := hF.2.1
  obtain ⟨M', K', m1, k1, w, w14, w23⟩ := both_later (s := s) (k := k) (y := y) hW rfl (by omega) h14 h23
  subst e1
  subst e2
  subst e3
  exact ⟨M', K', _, num, nn, rs, D, hoc.trans m1, hok.trans k1, ST_later w w14 w23 hD hE hs hy hyx hT ht hr hnn⟩
theorem end_Nxt {n N nn r x s k c t : Nat} {o : Bool} {c2 : Option Nat} {v num us : Nat → Nat} {M0 K0 M K : Mem} {R : List WEnt} {rs : List WRec} {D : Nat → Bool} {oc ok : Option Mem} {z1 z2 z3 z4 z5 : Int32} (hc : Ctx n N v r us M0 K0) (hW : WS N v M0 K0 M K ((x, s, k) :: R) num nn rs) (h14 : M 11 14 = nI R.length) (h23 : K 0 23 = nI (R.length + 1)) (hx : x < N) (hx4 : M0 3 x = 4) (hD : DX M0 r us num D x R) (hcN : c < N) (hc' : M0 3 c ≠ 4 ∨ num c ≠ 0) (hc2 : okC N c2) (hc2' : okN M0 num c2) (ht : t + 1 + pend R ≤ 3 * cnt D 120 0) (hr : rs.length + 1 + ops R ≤ cnt D 120 0) (hnn : nn ≤ 2 * t + 1) (e1 : z1 = if o then (2 : Int32) else 1) (e2 : z2 = nI c) (e3 : z3 = onI c2) (e4 : z4 = bi o) (e5 : z5 = nI x) (hoc : oc = f_W_close z1 z2 z3 z5 M) (hok : ok = f_K_endWith z4 z2 z3 z5 K) : Nxt N v r us M0 K0 t oc ok := by
  obtain ⟨hF, hrN, hU, hUF, hus⟩ := hc
  have hcl := cnt_le D 120 0
  have hx0 : num x = 0 := hD.2.2.2.2.2.2
  obtain ⟨M', K', m1, k1, hC⟩ := both_end (o := o) hF hU hus (by omega) hW (by omega) hx hx0 hx4 hcN hc' hc2 hc2' h14 h23
  subst e1
  subst e2
  subst e3
  subst e4
  subst e5
  obtain ⟨num', nn', rs', hS⟩ := ST_closed hC hD ht hr hnn
  exact ⟨M', K', R, num', nn', rs', D, hoc.trans m1, hok.trans k1, hS⟩
theorem part_le {n N r x : Nat} {v us : Nat → Nat} {M0 K0 : Mem} (hc : Ctx n N v r us M0 K0) (hx : x ≤ r) (hx4 : M0 3 x = 4) : pa M0 x < x ∧ pb M0 x < x := by
  obtain ⟨hF, hrN, -⟩ := hc
  obtain ⟨a, b, -⟩ := parts_of hF (show x < N by omega) hx4
  exact ⟨a, b⟩
theorem step_mixed {n N nn r x k0 lf jn t : Nat} {v num us : Nat → Nat} {M0 K0 M K : Mem} {R : List WEnt} {rs : List WRec} {D : Nat → Bool} (hc : Ctx n N v r us M0 K0) (hW : WS N v M0 K0 M K ((x, 0, k0) :: R) num nn rs) (hS : DS M0 r us num D ((x, 0, k0) :: R)) (h14 : M 11 14 = nI R.length) (h23 : K 0 23 = nI (R.length + 1)) (ht : t + pend R ≤ 3 * cnt D 120 0) (hr : rs.length + ops R ≤ cnt D 120 0) (hnn : nn ≤ 2 * t) (hlf : lf < x) (hjn : jn < x) (hlf4 : M0 3 lf ≠ 4) (hjn4 : M0 3 jn = 4) (hjp : jn = pa M0 x ∨ jn = pb M0 x) (hlfp : lfp M0 x = lf) : Nxt N v r us M0 K0 t (f_W_openOfLeafAndJoin (nI x) (nI lf) (nI jn) M) (f_K_startOne (nI x) (nI lf) (nI jn) K) := by
  obtain ⟨hF, hrN, hU, hUF, hus⟩ := id hc
  have hN := hF.2.1
  obtain ⟨dx, hxD, hxr, hx4, hxi⟩ := DX_open hUF hS
  have hlen : R.length + x ≤ r := PileV_len R (x, 0, k0) hS.2.2.2.1
  have hcn := cnt_setD hxD 120 0 (Nat.zero_le _) (by omega)
  have hcl := cnt_le (setD D x) 120 0
  have hcl0 := cnt_le D 120 0
  obtain ⟨q1, q2, n1, n2, u1, u2⟩ := WS_see hc hW (by omega)
  have hm := C_mixed (x := x) (lf := lf) (jn := jn) hF q1 n1 u1 (by omega) hjn4
  have hk := K_mixed (x := x) (lf := lf) (jn := jn) hF q2 n2 u2 (by omega) hjn4
  have hx0 : num x = 0 := dx.2.2.2.2.2.2
  obtain ⟨j1, j2⟩ := part_le hc (show jn ≤ r by omega) hjn4
  have ux := hUF x (Nat.zero_le _) hxr hxi hx4
  have hji : 0 < us jn := by
    rcases hjp with e | e
    · rw [e]; exact ux.1.1
    · rw [e]; exact ux.1.2
  by_cases h0 : num jn = 0
  · have hjD : D jn = false := DS_new hUF hS hxr hx4 hxi hxD hjp hjn (Nat.le_refl x) h0
    have hjD1 : setD D x jn = false := by rw [setD_o (by omega)]; exact hjD
    rw [if_neg (show ¬ num jn ≠ 0 from fun e => e h0)] at hm hk
    by_cases hsk : us jn < 2 ∧ (decide (M0 3 (pa M0 jn) = 4) != decide (M0 3 (pb M0 jn) = 4)) = true ∧ num (jnp M0 jn) = 0
    · rw [if_pos hsk] at hm hk
      obtain ⟨s1, s2, s3⟩ := hsk
      have dx2 := DX_skip hUF dx hjp hjn hjn4 s1
      have hcn2 := cnt_setD hjD1 120 0 (Nat.zero_le _) (by omega)
      have uj := hUF jn (Nat.zero_le _) (by omega) (Or.inr hji) hjn4
      have hmx : M0 3 (jnp M0 jn) = 4 ∧ M0 3 (lfp M0 jn) ≠ 4 ∧ (jnp M0 jn = pa M0 jn ∨ jnp M0 jn = pb M0 jn) ∧ lfp M0 jn < jn := by
        unfold jnp lfp
        by_cases ha : M0 3 (pa M0 jn) = 4
        · rw [if_pos ha, if_pos ha]
          refine ⟨ha, fun hb => ?_, Or.inl rfl, j2⟩
          rw [decide_eq_true ha, decide_eq_true hb] at s2
          exact absurd s2 (by decide)
        · rw [if_neg ha, if_neg ha]
          refine ⟨?_, ha, Or.inr rfl, j1⟩
          by_cases hb : M0 3 (pb M0 jn) = 4
          · exact hb
          · rw [decide_eq_false ha, decide_eq_false hb] at s2
            exact absurd s2 (by decide)
      obtain ⟨z1, z2, z3, z4⟩ := hmx
      have hzj : jnp M0 jn < jn := by
        rcases z3 with e | e
        · rw [e]; exact j1
        · rw [e]; exact j2
      have hzu : 0 < us (jnp M0 jn) := by
        rcases z3 with e | e
        · rw [e]; exact uj.1.1
        · rw [e]; exact uj.1.2
      have hzD : D (jnp M0 jn) = false := DS_new hUF hS (show jn ≤ r by omega) hjn4 (Or.inr hji) hjD z3 hzj (by omega) s3
      have hzD2 : setD (setD D x) jn (jnp M0 jn) = false := by rw [setD_o (by omega), setD_o (by omega)]; exact hzD
      refine later_Nxt (s := 1) (k := lfp M0 jn) (y := jnp M0 jn) hc hW h14 h23 hlen dx2 ⟨hxr, hx4, hxi, hx0, Or.inr ⟨dx2.2.2.2.2.2.1, Or.inl ⟨rfl, ?_, z2, ?_⟩⟩⟩ (by decide) ⟨?_, z1, Or.inr hzu, s3, Or.inl ⟨rfl, hzD2⟩⟩ (by omega) ⟨jn, setD_s _ _, z3, by omega, fun e => absurd e (by omega)⟩ ?_ (by omega) (by omega) rfl rfl ?_ hm hk
      · show lfp M0 jn ≤ r
        omega
      · show M0 3 (lfp M0 x) ≠ 4
        rw [hlfp]; exact hlf4
      · show jnp M0 jn ≤ r
        omega
      · rw [if_neg (by decide)]; omega
      · show nI lf = nI (lfp M0 x)
        rw [hlfp]
    · rw [if_neg hsk] at hm hk
      refine later_Nxt (s := 2) (k := lf) (y := jn) hc hW h14 h23 hlen dx ⟨hxr, hx4, hxi, hx0, Or.inr ⟨dx.2.2.2.2.2.1, Or.inr (Or.inl ⟨rfl, ?_, Or.inl hlf4⟩)⟩⟩ (by decide) ⟨?_, hjn4, Or.inr hji, h0, Or.inl ⟨rfl, hjD1⟩⟩ hjn ⟨x, setD_s _ _, hjp, Nat.le_refl x, fun _ e => absurd e (by decide)⟩ ?_ (by omega) (by omega) rfl rfl rfl hm hk
      · show lf ≤ r
        omega
      · show jn ≤ r
        omega
      · rw [if_neg (by decide)]; omega
  · rw [if_pos (show num jn ≠ 0 from h0)] at hm hk
    exact end_Nxt (o := false) (c := lf) (c2 := some jn) hc hW h14 h23 (by omega) hx4 dx (by omega) (Or.inl hlf4) (okC_some (by omega)) (okN_some (Or.inr h0)) (by omega) (by omega) (by omega) rfl rfl rfl rfl rfl hm hk
theorem step_two {n N nn r x k0 t : Nat} {v num us : Nat → Nat} {M0 K0 M K : Mem} {R : List WEnt} {rs : List WRec} {D : Nat → Bool} (hc : Ctx n N v r us M0 K0) (hW : WS N v M0 K0 M K ((x, 0, k0) :: R) num nn rs) (hS : DS M0 r us num D ((x, 0, k0) :: R)) (h14 : M 11 14 = nI R.length) (h23 : K 0 23 = nI (R.length + 1)) (ht : t + pend R ≤ 3 * cnt D 120 0) (hr : rs.length + ops R ≤ cnt D 120 0) (hnn : nn ≤ 2 * t) (ha4 : M0 3 (pa M0 x) = 4) (hb4 : M0 3 (pb M0 x) = 4) : Nxt N v r us M0 K0 t (f_W_openOfJoins (nI x) (nI (pa M0 x)) (nI (pb M0 x)) M) (f_K_startTwo (nI x) (nI (pa M0 x)) (nI (pb M0 x)) K) := by
  obtain ⟨hF, hrN, hU, hUF, hus⟩ := id hc
  have hN := hF.2.1
  obtain ⟨dx, hxD, hxr, hx4, hxi⟩ := DX_open hUF hS
  have hlen : R.length + x ≤ r := PileV_len R (x, 0, k0) hS.2.2.2.1
  have hcn := cnt_setD hxD 120 0 (Nat.zero_le _) (by omega)
  have hcl := cnt_le (setD D x) 120 0
  have hcl0 := cnt_le D 120 0
  obtain ⟨q1, q2, n1, n2, u1, u2⟩ := WS_see hc hW (by omega)
  obtain ⟨j1, j2⟩ := part_le hc hxr hx4
  have hm := C_two (x := x) (a := pa M0 x) (b := pb M0 x) hF q1 n1 (by omega) (by omega)
  have hk := K_two (x := x) (a := pa M0 x) (b := pb M0 x) hF q2 n2 (by omega) (by omega)
  have hx0 : num x = 0 := dx.2.2.2.2.2.2
  have ux := hUF x (Nat.zero_le _) hxr hxi hx4
  have newD : ∀ z, (z = pa M0 x ∨ z = pb M0 x) → num z = 0 → setD D x z = false := fun z hz h0 => by
    have hzx : z < x := by rcases hz with e | e <;> omega
    rw [setD_o (by omega)]
    exact DS_new hUF hS hxr hx4 hxi hxD hz hzx (Nat.le_refl x) h0
  have evy : ∀ z, (z = pa M0 x ∨ z = pb M0 x) → num z = 0 → EV M0 r us num (setD D x) (z, 0, 0) := fun z hz h0 => by
    have hzx : z < x := by rcases hz with e | e <;> omega
    refine ⟨by show z ≤ r; omega, ?_, Or.inr ?_, h0, Or.inl ⟨rfl, newD z hz h0⟩⟩
    · show M0 3 z = 4
      rcases hz with e | e
      · rw [e]; exact ha4
      · rw [e]; exact hb4
    · show 0 < us z
      rcases hz with e | e
      · rw [e]; exact ux.1.1
      · rw [e]; exact ux.1.2
  have two : ∀ (c y : Nat), (c = pa M0 x ∨ c = pb M0 x) → (y = pa M0 x ∨ y = pb M0 x) → num c ≠ 0 → num y = 0 → f_W_openOfJoins (nI x) (nI (pa M0 x)) (nI (pb M0 x)) M = (om (f_W_await (2 : Int32) (nI x) (nI c) (-1 : Int32) M) fun M1 => om (f_W_await (0 : Int32) (nI y) (-1 : Int32) (-1 : Int32) M1) fun M2 => some M2) → f_K_startTwo (nI x) (nI (pa M0 x)) (nI (pb M0 x)) K = f_K_later (2 : Int32) (nI c) (nI y) K → Nxt N v r us M0 K0 t (f_W_openOfJoins (nI x) (nI (pa M0 x)) (nI (pb M0 x)) M) (f_K_startTwo (nI x) (nI (pa M0 x)) (nI (pb M0 x)) K) := fun c y hcx hyx hc0 hy0 e1 e2 => by
    have hcx' : c < x := by rcases hcx with e | e <;> omega
    have hyx' : y < x := by rcases hyx with e | e <;> omega
    refine later_Nxt (s := 2) (k := c) (y := y) hc hW h14 h23 hlen dx ⟨hxr, hx4, hxi, hx0, Or.inr ⟨dx.2.2.2.2.2.1, Or.inr (Or.inl ⟨rfl, ?_, Or.inr hc0⟩)⟩⟩ (by decide) (evy y hyx hy0) hyx' ⟨x, setD_s _ _, hyx, Nat.le_refl x, fun _ e => absurd e (by decide)⟩ ?_ (by omega) (by omega) rfl rfl rfl e1 e2
    · show c ≤ r
      omega
    · rw [if_neg (by decide)]; omega
  have three : ∀ (c o : Nat), (c = pa M0 x ∨ c = pb M0 x) → oth M0 x c = o → num c = 0 → num o = 0 → f_W_openOfJoins (nI x) (nI (pa M0 x)) (nI (pb M0 x)) M = (om (f_W_await (1 : Int32) (nI x) (nI c) (nI o) M) fun M1 => om (f_W_await (0 : Int32) (nI c) (-1 : Int32) (-1 : Int32) M1) fun M2 => some M2) → f_K_startTwo (nI x) (nI (pa M0 x)) (nI (pb M0 x)) K = f_K_later (3 : Int32) (nI c) (nI c) K → Nxt N v r us M0 K0 t (f_W_openOfJoins (nI x) (nI (pa M0 x)) (nI (pb M0 x)) M) (f_K_startTwo (nI x) (nI (pa M0 x)) (nI (pb M0 x)) K) := fun c o hcx hox hc0 ho0 e1 e2 => by
    have hcx' : c < x := by rcases hcx with e | e <;> omega
    have hop : o = pa M0 x ∨ o = pb M0 x := by rw [← hox]; exact oth_or M0 x c
    refine later_Nxt (s := 3) (k := c) (y := c) hc hW h14 h23 hlen dx ⟨hxr, hx4, hxi, hx0, Or.inr ⟨dx.2.2.2.2.2.1, Or.inr (Or.inr (Or.inl ⟨rfl, ⟨ha4, hb4⟩, hcx, fun hD => ?_⟩))⟩⟩ (by decide) (evy c hcx hc0) hcx' ⟨x, setD_s _ _, hcx, Nat.le_refl x, fun _ _ => rfl⟩ ?_ (by omega) (by omega) rfl rfl ?_ e1 e2
    · have hD' : setD D x (oth M0 x c) = true := hD
      rw [hox, newD o hop ho0] at hD'
      cases hD'
    · rw [if_pos rfl]; omega
    · show nI o = nI (oth M0 x c)
      rw [hox]
  by_cases a0 : num (pa M0 x) = 0
  · rw [if_neg (show ¬ (num (pa M0 x) ≠ 0 ∧ num (pb M0 x) ≠ 0) from fun e => e.1 a0), if_neg (show ¬ num (pa M0 x) ≠ 0 from fun e => e a0)] at hm hk
    by_cases b0 : num (pb M0 x) = 0
    · rw [if_neg (show ¬ num (pb M0 x) ≠ 0 from fun e => e b0)] at hm hk
      by_cases hs : isS M0 (pa M0 x) = true ∧ isS M0 (pb M0 x) = false
      · rw [if_pos hs] at hm hk
        have hne : pa M0 x ≠ pb M0 x := fun e => by
          rw [e, hs.2] at hs; exact absurd hs.1 (by decide)
        exact three (pb M0 x) (pa M0 x) (Or.inr rfl) (by rw [oth, if_neg hne]) b0 a0 hm hk
      · rw [if_neg hs] at hm hk
        exact three (pa M0 x) (pb M0 x) (Or.inl rfl) (by rw [oth, if_pos rfl]) a0 b0 hm hk
    · rw [if_pos (show num (pb M0 x) ≠ 0 from b0)] at hm hk
      exact two (pb M0 x) (pa M0 x) (Or.inr rfl) (Or.inl rfl) b0 a0 hm hk
  · by_cases b0 : num (pb M0 x) = 0
    · rw [if_neg (show ¬ (num (pa M0 x) ≠ 0 ∧ num (pb M0 x) ≠ 0) from fun e => e.2 b0), if_pos (show num (pa M0 x) ≠ 0 from a0)] at hm hk
      exact two (pa M0 x) (pb M0 x) (Or.inl rfl) (Or.inr rfl) a0 b0 hm hk
    · rw [if_pos (show num (pa M0 x) ≠ 0 ∧ num (pb M0 x) ≠ 0 from ⟨a0, b0⟩)] at hm hk
      exact end_Nxt (o := false) (c := pa M0 x) (c2 := some (pb M0 x)) hc hW h14 h23 (by omega) hx4 dx (by omega) (Or.inr a0) (okC_some (by omega)) (okN_some (Or.inr b0)) (by omega) (by omega) (by omega) rfl rfl rfl rfl rfl hm hk
theorem step_0 {n N nn r x k0 t : Nat} {v num us : Nat → Nat} {M0 K0 M K : Mem} {R : List WEnt} {rs : List WRec} {D : Nat → Bool} (hc : Ctx n N v r us M0 K0) (hW : WS N v M0 K0 M K ((x, 0, k0) :: R) num nn rs) (hS : DS M0 r us num D ((x, 0, k0) :: R)) (h14 : M 11 14 = nI R.length) (h23 : K 0 23 = nI (R.length + 1)) (ht : t + pend R ≤ 3 * cnt D 120 0) (hr : rs.length + ops R ≤ cnt D 120 0) (hnn : nn ≤ 2 * t) : Nxt N v r us M0 K0 t (f_W_open (nI x) M) (f_K_go K) := by
  obtain ⟨hF, hrN, hU, hUF, hus⟩ := id hc
  have hN := hF.2.1
  obtain ⟨dx, hxD, hxr, hx4, hxi⟩ := DX_open hUF hS
  have hlen : R.length + x ≤ r := PileV_len R (x, 0, k0) hS.2.2.2.1
  have hcn := cnt_setD hxD 120 0 (Nat.zero_le _) (by omega)
  have hcl := cnt_le (setD D x) 120 0
  have hcl0 := cnt_le D 120 0
  obtain ⟨q1, q2, n1, n2, u1, u2⟩ := WS_see hc hW (by omega)
  obtain ⟨j1, j2⟩ := part_le hc hxr hx4
  have hx0 : num x = 0 := dx.2.2.2.2.2.2
  obtain ⟨-, -, -, -, -, -, -, ⟨⟨-, -, -, -, p5, p6, -⟩, -⟩, -⟩ := id hW
  have hm := C_open hF q1 (show x < N by omega) hx4
  have hk := K_go0 hF q2 (show x < N by omega) hx4 h23 (by omega) p5 p6 (by rw [(n2 x (by omega)).1, hx0])
  rw [hm, hk]
  by_cases ha : M0 3 (pa M0 x) = 4
  · rw [if_pos ha, if_pos ha]
    by_cases hb : M0 3 (pb M0 x) = 4
    · rw [if_pos hb, if_pos hb]
      exact step_two hc hW hS h14 h23 ht hr hnn ha hb
    · rw [if_neg hb, if_neg hb]
      exact step_mixed hc hW hS h14 h23 ht hr hnn j2 j1 hb ha (Or.inl rfl) (by rw [lfp, if_pos ha])
  · rw [if_neg ha, if_neg ha]
    by_cases hb : M0 3 (pb M0 x) = 4
    · rw [if_pos hb, if_pos hb]
      exact step_mixed hc hW hS h14 h23 ht hr hnn j1 j2 ha hb (Or.inr rfl) (by rw [lfp, if_neg ha])
    · rw [if_neg hb, if_neg hb]
      exact end_Nxt (o := false) (c := pa M0 x) (c2 := some (pb M0 x)) hc hW h14 h23 (by omega) hx4 dx (by omega) (Or.inl ha) (okC_some (by omega)) (okN_some (Or.inl hb)) (by omega) (by omega) (by omega) rfl rfl rfl rfl rfl rfl rfl
