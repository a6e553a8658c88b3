/-! PURE: write -/
def RecB (N : Nat) (c : WRec) : Prop := c.1 < 4 ∧ c.2.2.2.1 < N ∧ okC N c.2.1 ∧ okC N c.2.2.1
/-- what was written last, both sides -/
def WD (N : Nat) (v : Nat → Nat) (M K : Mem) (num : Nat → Nat) (rs : List WRec) : Prop :=
  (∀ k, k < 120 → M 13 k = nI (num k) ∧ K 12 k = nI (num k) ∧ num k < 1000) ∧ (M 11 9 = nI rs.length ∧ K 0 17 = nI rs.length ∧ rs.length ≤ 120) ∧ (∀ j, j < (allT v M num rs).length → K 9 j = (allT v M num rs).getD j 0) ∧ RecR v M num M K rs ∧ K 10 rs.length = nI (allT v M num rs).length ∧ ∀ c ∈ rs, RecB N c
theorem textL_keep {v v' num : Nat → Nat} {M M' : Mem} {N o x : Nat} {c1 c2 : Option Nat} (hk : ∀ k, k < N → nodeL v' M' k = nodeL v M k) (hx : x < N) (h1 : okC N c1) (h2 : okC N c2) : textL v' M' num o c1 c2 x = textL v M num o c1 c2 x := by
  have e1 : fstL v' M' num c1 = fstL v M num c1 := by
    cases c1 with
    | none => rfl
    | some a =>
      show causeL v' M' num a = causeL v M num a
      rw [causeL, causeL, hk a (h1 a rfl)]
  have e2 : sndL v' M' num c2 = sndL v M num c2 := by
    cases c2 with
    | none => rfl
    | some a =>
      show tx 5 ++ causeL v' M' num a = tx 5 ++ causeL v M num a
      rw [causeL, causeL, hk a (h2 a rfl)]
  rw [textL, textL, e1, e2, hk x hx]
theorem allT_keep {v v' num : Nat → Nat} {M M' : Mem} {N : Nat} (hk : ∀ k, k < N → nodeL v' M' k = nodeL v M k) : ∀ (rs : List WRec), (∀ c ∈ rs, RecB N c) → allT v' M' num rs = allT v M num rs := by
  intro rs
  induction rs with
  | nil => intro _; rfl
  | cons c rs ih =>
    intro h
    obtain ⟨-, b, d, e⟩ := h c List.mem_cons_self
    rw [allT, allT, ih (fun d hd => h d (List.mem_cons_of_mem _ hd)), textL_keep hk b d e]
theorem RecR_move {v v' : Nat → Nat} {M0 M0' M K M' K' : Mem} {num : Nat → Nat} : ∀ (rs : List WRec), RecR v M0 num M K rs → (∀ q i, 14 ≤ q → q ≤ 18 → i < rs.length → M' q i = M q i) → (∀ q i, 10 ≤ q → q ≤ 11 → i < rs.length → K' q i = K q i) → (∀ A B, rs = A ++ B → allT v' M0' num B = allT v M0 num B) → RecR v' M0' num M' K' rs := by
  intro rs
  induction rs with
  | nil => intro _ _ _ _; exact True.intro
  | cons c rs ih =>
    intro h hM hK hT
    obtain ⟨⟨h1, h2, h3, h4, h5, h6, h7⟩, h8⟩ := h
    have hl : rs.length < (c :: rs).length := by rw [List.length_cons]; omega
    have hT1 : allT v' M0' num rs = allT v M0 num rs := hT [c] rs rfl
    refine ⟨⟨by rw [hM 14 _ (by omega) (by omega) hl]; exact h1, by rw [hM 15 _ (by omega) (by omega) hl]; exact h2, by rw [hM 16 _ (by omega) (by omega) hl]; exact h3, by rw [hM 17 _ (by omega) (by omega) hl]; exact h4, by rw [hM 18 _ (by omega) (by omega) hl]; exact h5, by rw [hK 11 _ (by omega) (by omega) hl]; exact h6, by rw [hK 10 _ (by omega) (by omega) hl, hT1]; exact h7⟩, ih h8 (fun q i a b d => hM q i a b (by rw [List.length_cons]; omega)) (fun q i a b d => hK q i a b (by rw [List.length_cons]; omega)) (fun A B e => hT (c :: A) B (by rw [e]; rfl))⟩
/-- what was written stays while names and nodes come in -/
theorem WD_keep {N N' : Nat} {v v' num : Nat → Nat} {M K M' K' : Mem} {rs : List WRec} (h : WD N v M K num rs) (hN : N ≤ N') (hk : ∀ k, k < N → nodeL v' M' k = nodeL v M k) (hM : ∀ q, 13 ≤ q → q ≤ 18 → M' q = M q) (hM9 : M' 11 9 = M 11 9) (hK : ∀ q, 9 ≤ q → q ≤ 12 → K' q = K q) (hK17 : K' 0 17 = K 0 17) : WD N' v' M' K' num rs := by
  obtain ⟨h1, h2, h3, h4, h5, h6⟩ := h
  have hT := allT_keep (num := num) hk rs h6
  refine ⟨fun k hk => by rw [hM 13 (by omega) (by omega), hK 12 (by omega) (by omega)]; exact h1 k hk, by rw [hM9, hK17]; exact h2, by rw [hT, hK 9 (by omega) (by omega)]; exact h3, RecR_move rs h4 (fun q i a b _ => by rw [hM q (by omega) b]) (fun q i a b _ => by rw [hK q (by omega) (by omega)]) (fun A B e => allT_keep hk B (fun c hc => h6 c (by rw [e]; exact List.mem_append_right A hc))), by rw [hT, hK 10 (by omega) (by omega)]; exact h5, fun c hc => ?_⟩
  obtain ⟨a, b, d, e⟩ := h6 c hc
  exact ⟨a, Nat.lt_of_lt_of_le b hN, fun x hx => Nat.lt_of_lt_of_le (d x hx) hN, fun x hx => Nat.lt_of_lt_of_le (e x hx) hN⟩
theorem UF_congr {M M' : Mem} {r c : Nat} {us : Nat → Nat} (h : UF M r us c) (h3 : M' 3 = M 3) (h9 : M' 9 = M 9) (h10 : M' 10 = M 10) : UF M' r us c := by
  have ea : pa M' = pa M := by funext k; rw [pa, pa, h9]
  have eb : pb M' = pb M := by funext k; rw [pb, pb, h10]
  unfold UF at h ⊢
  rw [h3, ea, eb]
  exact h
theorem om_inv {β : Type} {o : Option Mem} {k : Mem → Option β} {r : β} (h : om o k = some r) : ∃ M, o = some M ∧ k M = some r := by
  cases o with
  | none =>
    have h' : (none : Option β) = some r := h
    cases h'
  | some M => exact ⟨M, rfl, h⟩
theorem K_clear12 {x : Int32} : ∀ (c i m : Nat) (K : Mem), i + c = 120 → c < m → (∀ k, k < i → K 12 k = 0) → ∃ K', f_K_write_37 m x (nI i) K = (om (f_K_countUses x K') fun M58 => gd (inb x 120) (if (M58 2 x.toNatClampNeg) = (4 : Int32) then om (f_K_push x M58) fun M73 => f_K_write_76 100000 M73 else om (f_K_begin M58) fun M91 => om (f_K_told x M91) fun M96 => om (f_K_put (46 : Int32) M96) fun M102 => f_K_write_105 M102)) ∧ (∀ q, q ≠ 12 → K' q = K q) ∧ ∀ k, k < 120 → K' 12 k = 0 := by
  intro c
  induction c with
  | zero =>
    intro i m K hi hm h
    obtain ⟨m, rfl⟩ : ∃ m', m = m' + 1 := ⟨m - 1, by omega⟩
    have : i = 120 := by omega
    subst this
    exact ⟨K, by rw [f_K_write_37, if_pos (by decide)], fun _ _ => rfl, h⟩
  | succ c ih =>
    intro i m K hi hm h
    obtain ⟨m, rfl⟩ : ∃ m', m = m' + 1 := ⟨m - 1, by omega⟩
    obtain ⟨K', a, b, d⟩ := ih (i + 1) m (ms K 12 i 0) (by omega) (by omega) (fun k hk => by
      by_cases hki : k = i
      · subst hki; rw [ms_s]
      · rw [ms_i hki]; exact h k (by omega))
    refine ⟨K', ?_, fun q hq => by rw [b q hq, ms_q hq], d⟩
    rw [f_K_write_37, if_neg (show ¬ (120 : Int32) ≤ nI i from nI_ge (b := 120) (by omega) (by decide)), gd_nI (by omega) (by decide), nI_clamp (by omega), nI_1]
    exact a
theorem finish {n N nn : Nat} {v num : Nat → Nat} {M0 K0 M K : Mem} {rs : List WRec} (hF : RF n N v M0 K0) (hW : WS N v M0 K0 M K [] num nn rs) (hnn : nn < 1000) (hl : rs.length ≤ 120) : ∃ K', f_K_write_105 K = some (nI rs.length, K') ∧ (∀ q, q ≠ 10 → K' q = K q) ∧ WD N v M K' num rs := by
  obtain ⟨a1, a2, a3, a4, a5, a6, a7, -, a9, a10⟩ := hW
  have hB : ∀ c ∈ rs, RecB N c := fun c hc => by
    obtain ⟨b1, b2, b3, b4, -, -⟩ := a9 c hc
    exact ⟨b1, b2, b3, b4⟩
  have hk : ∀ k, k < N → nodeL v M k = nodeL v M0 k := fun k _ => nodeL_keep (fun q h1 h2 => by rw [a1 q (by omega) (Or.inl (by omega))])
  have hT := allT_keep (num := num) hk rs hB
  refine ⟨ms K 10 rs.length (nI (allT v M0 num rs).length), ?_, fun q hq => ms_q hq, fun k hk => ?_, ⟨a5.1, by rw [ms_q (by decide)]; exact a5.2, hl⟩, ?_, RecR_move rs a7 (fun _ _ _ _ _ => rfl) (fun q i h1 h2 h3 => ?_) (fun A B e => allT_keep hk B (fun c hc => hB c (by rw [e]; exact List.mem_append_right A hc))), by rw [ms_s, hT], hB⟩
  · rw [f_K_write_105, a5.2, gd_nI (by omega) (by decide), nI_clamp (by omega), a6.1, ms_q (by decide), a5.2]
  · rw [ms_q (by decide)]
    exact ⟨(a3 k hk).1, (a3 k hk).2, by have := a10 k; omega⟩
  · rw [hT, ms_q (by decide)]
    exact a6.2
  · rw [ms_qi, if_neg (fun e => absurd e.2 (by omega))]
theorem st_write {n N : Nat} {v : Nat → Nat} {M K : Mem} (h : RF n N v M K) (x : Int32) : ∃ (r : Int32) (M' K' : Mem), f_N_write x M = some (r, M') ∧ f_K_write x K = some (r, K') ∧ ((M' = M ∧ K' = ms K 0 0 0) ∨ ∃ (num : Nat → Nat) (rs : List WRec), (∀ q, (1 ≤ q ∧ q ≤ 10) ∨ 23 < q → M' q = M q) ∧ M' 23 4 = -1 ∧ (∀ q, (1 ≤ q ∧ q ≤ 8) ∨ 17 < q → K' q = K q) ∧ (K' 0 2 = K 0 2 ∧ K' 0 3 = K 0 3 ∧ K' 0 27 = K 0 27) ∧ WD N v M' K' num rs) := by
  have hN := h.2.1
  have hk3 : ms K 0 0 (0 : Int32) 0 3 = nI N := by rw [ms_i (by decide)]; exact h.2.2.2.2.2.1
  rcases nm_cases x hN with ⟨r, hr, rfl⟩ | ⟨hx, -⟩
  · -- a node
    obtain ⟨Kb, kb1, kb2, kb3⟩ := K_clear12 (x := nI r) 120 0 100000 (ms (ms (ms (ms (ms K 0 0 (0 : Int32)) 0 16 (0 : Int32)) 0 17 (0 : Int32)) 0 18 (0 : Int32)) 0 23 (0 : Int32)) (by omega) (by omega) (fun k hk => absurd hk (Nat.not_lt_zero k))
    have kbq : ∀ q, q ≠ 0 → q ≠ 12 → Kb q = K q := fun q h0 h12 => by rw [kb2 q h12, ms_q h0, ms_q h0, ms_q h0, ms_q h0, ms_q h0]
    have kbj : ∀ j, j ≠ 0 → j ≠ 16 → j ≠ 17 → j ≠ 18 → j ≠ 23 → Kb 0 j = K 0 j := fun j b0 b1 b2 b3 b4 => by rw [kb2 0 (by decide), ms_i b4, ms_i b3, ms_i b2, ms_i b1, ms_i b0]
    have kb16 : Kb 0 16 = 0 := by rw [kb2 0 (by decide), ms_i (by decide), ms_i (by decide), ms_i (by decide), ms_s]
    have kb17 : Kb 0 17 = 0 := by rw [kb2 0 (by decide), ms_i (by decide), ms_i (by decide), ms_s]
    have kb18 : Kb 0 18 = 0 := by rw [kb2 0 (by decide), ms_i (by decide), ms_s]
    have kb23 : Kb 0 23 = 0 := by rw [kb2 0 (by decide), ms_s]
    obtain ⟨Mb, hMb⟩ : ∃ Mb : Mem, Mb = mf (ms (ms (ms (ms M 23 4 (-1 : Int32)) 11 9 (0 : Int32)) 11 3 (0 : Int32)) 11 14 (0 : Int32)) 13 120 (0 : Int32) := ⟨_, rfl⟩
    have mbq : ∀ q, q ≠ 11 → q ≠ 13 → q ≠ 23 → Mb q = M q := fun q h1 h2 h3 => by rw [hMb, mf_q h2, ms_q h1, ms_q h1, ms_q h1, ms_q h3]
    have mb13 : ∀ k, k < 120 → Mb 13 k = 0 := fun k hk => by rw [hMb, mf_in hk]
    have mb9 : Mb 11 9 = 0 := by rw [hMb, mf_q (by decide), ms_i (by decide), ms_i (by decide), ms_s]
    have mb3 : Mb 11 3 = 0 := by rw [hMb, mf_q (by decide), ms_i (by decide), ms_s]
    have mb14 : Mb 11 14 = 0 := by rw [hMb, mf_q (by decide), ms_s]
    have mb23 : Mb 23 4 = -1 := by rw [hMb, mf_q (by decide), ms_q (by decide), ms_q (by decide), ms_q (by decide), ms_s]
    have hb : RF n N v Mb Kb := RF_keep h (fun q h1 h2 => mbq q (by omega) (by omega) (by omega)) (fun q h1 h2 => kbq q (by omega) (by omega)) (kbj 2 (by decide) (by decide) (by decide) (by decide) (by decide)) (kbj 3 (by decide) (by decide) (by decide) (by decide) (by decide))
    obtain ⟨M1, K1, us, c1, c2, c3, c4, c5, c6, c7⟩ := both_uses hb hr
    have h1 : RF n N v M1 K1 := RF_keep hb (fun q a b => c3 q (by omega)) (fun q a b => c4 q (by omega) (by omega)) (by rw [c4 0 (by decide) (by decide)]) (by rw [c4 0 (by decide) (by decide)])
    have hctx : Ctx n N v r us M1 K1 := ⟨h1, hr, c5, UF_congr c6 (c3 3 (by decide)) (c3 9 (by decide)) (c3 10 (by decide)), c7⟩
    obtain ⟨M2, m1, m2, m3, m4, ⟨m5, m6, m7, m8⟩, m9⟩ := W_await (L := 0) (x1 := (0 : Int32)) (x2 := nI r) (x3 := (-1 : Int32)) (x4 := (-1 : Int32)) (M := M1) (by rw [c3 11 (by decide)]; exact mb14) (by decide)
    have hN1 : f_N_write (nI r) M = ob (f_W_writeAll_38 100000 (nI 0) M2) fun r25 M25 => some (r25, M25) := by
      rw [f_N_write, F_hasNode_t hN h.2.2.2.2.1 hr, ob_s, if_neg (by decide), f_P_forget, om_s, f_W_writeAll, ← hMb, c1, om_s, m1, om_s]
      rfl
    have hK1 : f_K_write (nI r) K = gd (inb (nI r) 120) (if (K1 2 (nI r).toNatClampNeg) = (4 : Int32) then om (f_K_push (nI r) K1) fun M73 => f_K_write_76 100000 M73 else om (f_K_begin K1) fun M91 => om (f_K_told (nI r) M91) fun M96 => om (f_K_put (46 : Int32) M96) fun M102 => f_K_write_105 M102) := by
      rw [f_K_write, K_isNode_t hN hk3 hr, ob_s, if_neg (by decide)]
      refine Eq.trans kb1 ?_
      rw [c2, om_s]
    rw [hN1, hK1, gd_nI (by omega) (by decide), nI_clamp (by omega)]
    -- what holds when the last word is said
    have last : ∀ (M' K' : Mem) (num : Nat → Nat) (nn : Nat) (rs : List WRec), WS N v M1 K1 M' K' [] num nn rs → nn < 1000 → rs.length ≤ 120 → ∃ K'', f_K_write_105 K' = some (nI rs.length, K'') ∧ ((M' = M ∧ K'' = ms K 0 0 0) ∨ ∃ (num : Nat → Nat) (rs : List WRec), (∀ q, (1 ≤ q ∧ q ≤ 10) ∨ 23 < q → M' q = M q) ∧ M' 23 4 = -1 ∧ (∀ q, (1 ≤ q ∧ q ≤ 8) ∨ 17 < q → K'' q = K q) ∧ (K'' 0 2 = K 0 2 ∧ K'' 0 3 = K 0 3 ∧ K'' 0 27 = K 0 27) ∧ WD N v M' K'' num rs) := fun M' K' num nn rs w hnn hl => by
      obtain ⟨K'', e1, e2, e3⟩ := finish h1 w hnn hl
      obtain ⟨a1, a2, -⟩ := w
      have j0 : ∀ j, j ≠ 0 → j ≠ 16 → j ≠ 17 → j ≠ 18 → j ≠ 23 → K'' 0 j = K 0 j := fun j b0 b1 b2 b3 b4 => by rw [e2 0 (by decide), a2.2 j b1 b2 b3 b4, c4 0 (by decide) (by decide), kbj j b0 b1 b2 b3 b4]
      refine ⟨K'', e1, Or.inr ⟨num, rs, fun q hq => by rw [a1 q (by omega) (by omega), c3 q (by omega), mbq q (by omega) (by omega) (by omega)], by rw [a1 23 (by decide) (Or.inr (by decide)), c3 23 (by decide)]; exact mb23, fun q hq => by rw [e2 q (by omega), a2.1 q (by omega) (by omega), c4 q (by omega) (by omega), kbq q (by omega) (by omega)], ⟨j0 2 (by decide) (by decide) (by decide) (by decide) (by decide), j0 3 (by decide) (by decide) (by decide) (by decide) (by decide), j0 27 (by decide) (by decide) (by decide) (by decide) (by decide)⟩, e3⟩⟩
    have buf : BufK K1 [] := ⟨by rw [c4 0 (by decide) (by decide)]; exact kb16, fun j hj => absurd hj (Nat.not_lt_zero j)⟩
    have fr2 : FrM M1 M2 := fun q a b => m2 q a (by omega)
    have nums : ∀ k, k < 120 → M2 13 k = nI 0 ∧ K1 12 k = nI 0 := fun k hk => ⟨by rw [m2 13 (by decide) (Or.inl (by decide)), c3 13 (by decide)]; exact mb13 k hk, by rw [c4 12 (by decide) (by decide)]; exact kb3 k hk⟩
    have n3 : M2 11 3 = nI 0 := by rw [m3 3 (by decide), c3 11 (by decide)]; exact mb3
    have n9 : M2 11 9 = nI 0 := by rw [m3 9 (by decide), c3 11 (by decide)]; exact mb9
    have k18 : K1 0 18 = nI 0 := by rw [c4 0 (by decide) (by decide)]; exact kb18
    have k17 : K1 0 17 = nI 0 := by rw [c4 0 (by decide) (by decide)]; exact kb17
    have k23 : K1 0 23 = nI 0 := by rw [c4 0 (by decide) (by decide)]; exact kb23
    have w0 : WS N v M1 K1 M2 K1 [] (fun _ => 0) 0 [] := ⟨fr2, ⟨fun _ _ _ => rfl, fun _ _ _ _ _ => rfl⟩, nums, ⟨n3, k18⟩, ⟨n9, k17⟩, buf, True.intro, True.intro, fun c hc => absurd hc List.not_mem_nil, fun _ => Nat.le_refl 0⟩
    rcases kind_of h1 hr with ⟨j1, j2⟩ | ⟨d, -, -, -, j1, j2⟩
    · rw [if_pos j2, K_push k23 (by decide), om_s]
      obtain ⟨w1, w2, w3, w4, w5, w6, w7, w8, w9, w10⟩ := id w0
      have nf : ∀ y : Nat, (fun _ : Nat => false) y = true → False := fun y hy => Bool.false_ne_true hy
      have hST : ST N v r us M1 K1 M2 (ms (ms (ms K1 15 0 (nI r)) 16 0 0) 0 23 (nI (0 + 1))) [(r, 0, 0)] (fun _ => 0) 0 [] (fun _ => false) 0 := by
        refine ⟨⟨w1, ⟨fun q a b => by rw [ms_q a, ms_q (by omega), ms_q (by omega)], fun j a b c d => by rw [ms_i d, ms_q (by decide), ms_q (by decide)]⟩, fun k hk => by rw [ms_q (by decide), ms_q (by decide), ms_q (by decide)]; exact w3 k hk, ⟨n3, by rw [ms_i (by decide), ms_q (by decide), ms_q (by decide)]; exact k18⟩, ⟨n9, by rw [ms_i (by decide), ms_q (by decide), ms_q (by decide)]; exact k17⟩, ⟨by rw [ms_i (by decide), ms_q (by decide), ms_q (by decide)]; exact buf.1, fun j hj => absurd hj (Nat.not_lt_zero j)⟩, True.intro, ⟨⟨m5, m6, m7, m8, ?_, ?_, fun e => absurd rfl e⟩, True.intro⟩, w9, w10⟩, ⟨fun y hy => (nf y hy).elim, fun y hy => (nf y hy).elim, fun y hy => (nf y hy).elim, ⟨⟨Nat.le_refl r, j1, Or.inl rfl, rfl, Or.inl ⟨rfl, rfl⟩⟩, fun e he => absurd he List.not_mem_nil, True.intro⟩, fun _ e => absurd rfl e⟩, ⟨m4, by rw [ms_s]; rfl⟩, Nat.zero_le _, Nat.zero_le _, Nat.le_refl 0, fun e R he h0 => ?_⟩
        · show ms (ms (ms K1 15 0 (nI r)) 16 0 0) 0 23 (nI (0 + 1)) 15 0 = nI r
          rw [ms_q (by decide), ms_q (by decide), ms_s]
        · show ms (ms (ms K1 15 0 (nI r)) 16 0 0) 0 23 (nI (0 + 1)) 16 0 = nI 0
          rw [ms_q (by decide), ms_s]; rfl
        · have : e = (r, 0, 0) := (List.cons.inj he).1.symm
          subst this
          exact absurd rfl h0
      obtain ⟨M', K', num', nn', rs', D', t', g1, g2, g3⟩ := write_loop hctx 400 0 100000 100000 _ _ _ _ _ _ _ rfl (by decide) (by decide) hST
      obtain ⟨s1, -, -, s4, s5, s6, -⟩ := g3
      have hcl := cnt_le D' 120 0
      have s5 : rs'.length + 0 ≤ cnt D' 120 0 := s5
      obtain ⟨K'', e1, e2⟩ := last M' K' num' nn' rs' s1 (by omega) (by omega)
      exact ⟨nI rs'.length, M', K'', by rw [g1, ob_s], by rw [g2, e1], e2⟩
    · rw [if_neg j2]
      obtain ⟨K3, a1, a2, a3⟩ := K_alone (num := fun _ => 0) (S := 0) h1 (fun k hk => ⟨(nums k (by omega)).2, show 0 < 1000 by decide⟩) hr rfl buf (by decide) k17 (by decide)
      obtain ⟨Ka, b1, b2⟩ := om_inv a1
      obtain ⟨Kc, b3, b4⟩ := om_inv b2
      obtain ⟨Kd, b5, b6⟩ := om_inv b4
      cases b6
      obtain ⟨M3, d1, d2, d3, -⟩ := both_say (o := 0) (c1 := none) (c2 := none) (x := r) (WS_m14 (z := nI 0) w0) (by decide) ⟨show 0 < 4 by decide, hr, okC_none, okC_none, okN_none, okN_none⟩ a2 a3
      have q1 : ∀ q, 1 ≤ q → q ≤ 10 → ms M2 11 14 (nI 0) q = M1 q := fun q a b => by rw [ms_q (by omega)]; exact fr2 q (by omega) (Or.inl (by omega))
      have ho : f_W_open (nI r) (ms M2 11 14 (nI 0)) = some M3 := by
        obtain ⟨p1, p2⟩ := C_part h1 q1 hr
        rw [f_W_open, p1, ob_s, p2, ob_s, C_isJoin h1 q1 hr, ob_s, decide_eq_false j1, if_pos (show bi false = 0 from rfl), om_id]
        exact d1
      have hl : f_W_writeAll_38 100000 (nI 0) M2 = some (nI 1, M3) := by
        have h14 : M3 11 14 = nI 0 := by rw [d3, ms_s]
        have := C_loop (m := 99999) (t := 0) (L := 0) (x := r) (s := 0) (f1 := none) (f2 := none) (M := M2) m4 (by decide) (by decide) m5 m6 m7 m8 (fun a e => by cases e)
        rw [stp, if_pos rfl, ho, om_s] at this
        rw [this, f_W_writeAll_38, d2.2.2.2.2.1.1, h14, if_pos (show nI 0 ≤ (0 : Int32) by decide)]
        split <;> rfl
      obtain ⟨K'', e1, e2⟩ := last M3 K3 (fun _ => 0) 0 [(0, none, none, r, 0)] d2 (by decide) (show 1 ≤ 120 by decide)
      exact ⟨nI 1, M3, K'', by rw [hl, ob_s], by rw [b1, om_s, b3, om_s, b5, om_s, e1]; rfl, e2⟩
  · exact ⟨-1, M, ms K 0 0 0, by rw [f_N_write, F_hasNode_f h.2.2.2.2.1 hx, ob_s, if_pos rfl], by rw [f_K_write, K_isNode_f hk3 hx, ob_s, if_pos rfl], Or.inl ⟨rfl, rfl⟩⟩
