/-! PURE: the writer's state, both sides -/
abbrev WEnt : Type := Nat × Nat × Nat
abbrev WRec : Type := Nat × Option Nat × Option Nat × Nat × Nat
def isS (M : Mem) (y : Nat) : Bool := decide (M 3 y = 4) && (!decide (M 3 (pa M y) = 4) && !decide (M 3 (pb M y) = 4))
def lfp (M : Mem) (x : Nat) : Nat := if M 3 (pa M x) = 4 then pb M x else pa M x
def jnp (M : Mem) (x : Nat) : Nat := if M 3 (pa M x) = 4 then pa M x else pb M x
def oth (M : Mem) (x k : Nat) : Nat := if pa M x = k then pb M x else pa M x
def eF (M : Mem) (x s k : Nat) : Option Nat := if s = 0 then none else if s = 4 ∧ (isS M (pa M x) || isS M (pb M x)) = true then none else some k
def eS (M : Mem) (x s k : Nat) : Option Nat := if s = 1 then some (lfp M x) else if s = 3 then some (oth M x k) else none
def cS (s : Nat) : Nat := if s = 0 then 0 else if s = 3 then 1 else 2
/-- what waits -/
def PileR (M0 M K : Mem) : List WEnt → Prop
  | [] => True
  | e :: R => (M 19 R.length = nI (cS e.2.1) ∧ M 20 R.length = nI e.1 ∧ M 21 R.length = onI (eF M0 e.1 e.2.1 e.2.2) ∧ M 22 R.length = onI (eS M0 e.1 e.2.1 e.2.2) ∧ K 15 R.length = nI e.1 ∧ K 16 R.length = nI e.2.1 ∧ (e.2.1 ≠ 0 → K 17 R.length = nI e.2.2)) ∧ PileR M0 M K R
theorem PileR_keep {M0 M K M' K' : Mem} : ∀ (R : List WEnt), PileR M0 M K R → (∀ q i, 19 ≤ q → q ≤ 22 → i < R.length → M' q i = M q i) → (∀ q i, 15 ≤ q → q ≤ 17 → i < R.length → K' q i = K q i) → PileR M0 M' K' R := by
  intro R
  induction R with
  | nil => intro _ _ _; exact True.intro
  | cons e R ih =>
    intro h hM hK
    obtain ⟨⟨h1, h2, h3, h4, h5, h6, h7⟩, h8⟩ := h
    have hl : R.length < (e :: R).length := by rw [List.length_cons]; omega
    refine ⟨⟨by rw [hM 19 _ (by omega) (by omega) hl]; exact h1, by rw [hM 20 _ (by omega) (by omega) hl]; exact h2, by rw [hM 21 _ (by omega) (by omega) hl]; exact h3, by rw [hM 22 _ (by omega) (by omega) hl]; exact h4, by rw [hK 15 _ (by omega) (by omega) hl]; exact h5, by rw [hK 16 _ (by omega) (by omega) hl]; exact h6, fun hn => by rw [hK 17 _ (by omega) (by omega) hl]; exact h7 hn⟩, ih h8 (fun q i a b c => hM q i a b (by rw [List.length_cons]; omega)) (fun q i a b c => hK q i a b (by rw [List.length_cons]; omega))⟩
/-- what was said -/
def allT (v : Nat → Nat) (M : Mem) (num : Nat → Nat) : List WRec → List Int32
  | [] => []
  | c :: rs => allT v M num rs ++ textL v M num c.1 c.2.1 c.2.2.1 c.2.2.2.1
def RecR (v : Nat → Nat) (M0 : Mem) (num : Nat → Nat) (M K : Mem) : List WRec → Prop
  | [] => True
  | c :: rs => (M 14 rs.length = nI c.1 ∧ M 15 rs.length = onI c.2.1 ∧ M 16 rs.length = onI c.2.2.1 ∧ M 17 rs.length = nI c.2.2.2.1 ∧ M 18 rs.length = nI c.2.2.2.2 ∧ K 11 rs.length = nI c.2.2.2.2 ∧ K 10 rs.length = nI (allT v M0 num rs).length) ∧ RecR v M0 num M K rs
theorem RecR_keep {v : Nat → Nat} {M0 M K M' K' : Mem} {num num' : Nat → Nat} : ∀ (rs : List WRec), RecR v M0 num M K rs → (∀ q i, 14 ≤ q → q ≤ 18 → i < rs.length → M' q i = M q i) → (∀ q i, 10 ≤ q → q ≤ 11 → i < rs.length → K' q i = K q i) → (∀ A B, rs = A ++ B → allT v M0 num' B = allT v M0 num B) → RecR v M0 num' M' K' rs := by
  intro rs
  induction rs with
  | nil => intro _ _ _ _; exact True.intro
  | cons c rs ih =>
    intro h hM hK hT
    obtain ⟨⟨h1, h2, h3, h4, h5, h6, h7⟩, h8⟩ := h
    have hl : rs.length < (c :: rs).length := by rw [List.length_cons]; omega
    have hT1 : allT v M0 num' rs = allT v M0 num rs := hT [c] rs rfl
    refine ⟨⟨by rw [hM 14 _ (by omega) (by omega) hl]; exact h1, by rw [hM 15 _ (by omega) (by omega) hl]; exact h2, by rw [hM 16 _ (by omega) (by omega) hl]; exact h3, by rw [hM 17 _ (by omega) (by omega) hl]; exact h4, by rw [hM 18 _ (by omega) (by omega) hl]; exact h5, by rw [hK 11 _ (by omega) (by omega) hl]; exact h6, by rw [hK 10 _ (by omega) (by omega) hl, hT1]; exact h7⟩, ih h8 (fun q i a b d => hM q i a b (by rw [List.length_cons]; omega)) (fun q i a b d => hK q i a b (by rw [List.length_cons]; omega)) (fun A B e => hT (c :: A) B (by rw [e]; rfl))⟩
def okN (M0 : Mem) (num : Nat → Nat) (c : Option Nat) : Prop := ∀ a, c = some a → M0 3 a ≠ 4 ∨ num a ≠ 0
def RecV (N : Nat) (M0 : Mem) (num : Nat → Nat) (c : WRec) : Prop := c.1 < 4 ∧ c.2.2.2.1 < N ∧ okC N c.2.1 ∧ okC N c.2.2.1 ∧ okN M0 num c.2.1 ∧ okN M0 num c.2.2.1
def numU (num : Nat → Nat) (g z : Nat) : Nat → Nat := fun k => if k = g then z else num k
theorem okN_g {M0 : Mem} {num : Nat → Nat} {g z : Nat} {a : Nat} (h : M0 3 a ≠ 4 ∨ num a ≠ 0) (h0 : num g = 0) (h4 : M0 3 g = 4) : numU num g z a = num a := by
  have : a ≠ g := fun e => by
    subst e
    rcases h with h | h
    · exact h h4
    · exact h h0
  rw [numU, if_neg this]
theorem textL_num {v : Nat → Nat} {M0 : Mem} {num : Nat → Nat} {g z o x : Nat} {c1 c2 : Option Nat} (h0 : num g = 0) (h4 : M0 3 g = 4) (h1 : okN M0 num c1) (h2 : okN M0 num c2) : textL v M0 (numU num g z) o c1 c2 x = textL v M0 num o c1 c2 x := by
  have e1 : fstL v M0 (numU num g z) c1 = fstL v M0 num c1 := by
    cases c1 with
    | none => rfl
    | some a =>
      show causeL v M0 (numU num g z) a = causeL v M0 num a
      rw [causeL, causeL, okN_g (h1 a rfl) h0 h4]
  have e2 : sndL v M0 (numU num g z) c2 = sndL v M0 num c2 := by
    cases c2 with
    | none => rfl
    | some a =>
      show tx 5 ++ causeL v M0 (numU num g z) a = tx 5 ++ causeL v M0 num a
      rw [causeL, causeL, okN_g (h2 a rfl) h0 h4]
  rw [textL, textL, e1, e2]
theorem allT_num {N : Nat} {v : Nat → Nat} {M0 : Mem} {num : Nat → Nat} {g z : Nat} (h0 : num g = 0) (h4 : M0 3 g = 4) : ∀ (rs : List WRec), (∀ c ∈ rs, RecV N M0 num c) → allT v M0 (numU num g z) rs = allT v M0 num rs := by
  intro rs
  induction rs with
  | nil => intro _; rfl
  | cons c rs ih =>
    intro h
    obtain ⟨-, -, -, -, a, b⟩ := h c List.mem_cons_self
    rw [allT, allT, ih (fun d hd => h d (List.mem_cons_of_mem _ hd)), textL_num h0 h4 a b]
theorem textL_len {n N o x : Nat} {v num : Nat → Nat} {c1 c2 : Option Nat} {M K : Mem} (h : RF n N v M K) (ho : o < 4) (hx : x < N) (hc1 : okC N c1) (hc2 : okC N c2) : (textL v M num o c1 c2 x).length ≤ 240 := by
  have lop : (tx (opn o)).length ≤ 12 := by
    have : ∀ o, o < 4 → (tx (opn o)).length ≤ 12 := by decide +kernel
    exact this o ho
  have l5 : (tx 5).length = 5 := by decide +kernel
  have l19 : (tx 19).length = 2 := by decide +kernel
  have cl : ∀ c, c < N → (causeL v M num c).length ≤ 74 := fun c hc => by
    have a := nodeL_len h hc
    have b := numL_len (x := num c)
    rw [causeL, List.length_append]; omega
  have hl := nodeL_len h hx
  have f1 : (fstL v M num c1).length ≤ 74 := by
    cases c1 with
    | none => exact Nat.zero_le _
    | some a => exact cl a (hc1 a rfl)
  have f2 : (sndL v M num c2).length ≤ 79 := by
    cases c2 with
    | none => exact Nat.zero_le _
    | some a =>
      show (tx 5 ++ causeL v M num a).length ≤ 79
      have := cl a (hc2 a rfl)
      rw [List.length_append]; omega
  have f3 : (comL c1).length ≤ 2 := by
    cases c1 with
    | none => exact Nat.zero_le _
    | some a => exact Nat.le_of_eq l19
  rw [textL]
  simp only [List.length_append, List.length_singleton]
  omega
theorem allT_len {n N : Nat} {v num : Nat → Nat} {M K : Mem} (h : RF n N v M K) : ∀ (rs : List WRec), (∀ c ∈ rs, RecV N M num c) → (allT v M num rs).length ≤ 240 * rs.length := by
  intro rs
  induction rs with
  | nil => intro _; exact Nat.le_refl 0
  | cons c rs ih =>
    intro hV
    obtain ⟨a1, a2, a3, a4, -, -⟩ := hV c List.mem_cons_self
    have t := textL_len (num := num) h a1 a2 a3 a4
    have i := ih (fun d hd => hV d (List.mem_cons_of_mem _ hd))
    rw [allT, List.length_append, List.length_cons]
    omega
def FrM (M0 M : Mem) : Prop := ∀ q, q ≠ 11 → (q < 13 ∨ 22 < q) → M q = M0 q
def FrK (K0 K : Mem) : Prop := (∀ q, q ≠ 0 → (q < 9 ∨ q = 13 ∨ q = 14 ∨ 17 < q) → K q = K0 q) ∧ ∀ j, j ≠ 16 → j ≠ 17 → j ≠ 18 → j ≠ 23 → K 0 j = K0 0 j
def WS (N : Nat) (v : Nat → Nat) (M0 K0 M K : Mem) (P : List WEnt) (num : Nat → Nat) (nn : Nat) (rs : List WRec) : Prop :=
  FrM M0 M ∧ FrK K0 K ∧ (∀ k, k < 120 → M 13 k = nI (num k) ∧ K 12 k = nI (num k)) ∧ (M 11 3 = nI nn ∧ K 0 18 = nI nn) ∧ (M 11 9 = nI rs.length ∧ K 0 17 = nI rs.length) ∧ BufK K (allT v M0 num rs) ∧ RecR v M0 num M K rs ∧ PileR M0 M K P ∧ (∀ c ∈ rs, RecV N M0 num c) ∧ ∀ k, num k ≤ nn
theorem WS_RF {n N nn : Nat} {v num : Nat → Nat} {M0 K0 M K : Mem} {P : List WEnt} {rs : List WRec} (h : RF n N v M0 K0) (hW : WS N v M0 K0 M K P num nn rs) : RF n N v M K ∧ RF n N v M0 K := by
  obtain ⟨a, b, -⟩ := hW
  have hM : ∀ q, 1 ≤ q → q ≤ 10 → M q = M0 q := fun q _ h2 => a q (by omega) (Or.inl (by omega))
  have hK : ∀ q, 1 ≤ q → q ≤ 8 → K q = K0 q := fun q h1 h2 => b.1 q (by omega) (Or.inl (by omega))
  have k2 := b.2 2 (by decide) (by decide) (by decide) (by decide)
  have k3 := b.2 3 (by decide) (by decide) (by decide) (by decide)
  exact ⟨RF_keep h hM hK k2 k3, RF_keep h (fun _ _ _ => rfl) hK k2 k3⟩
theorem WS_k23 {N nn : Nat} {v num : Nat → Nat} {M0 K0 M K : Mem} {P : List WEnt} {rs : List WRec} {z : Int32} (hW : WS N v M0 K0 M K P num nn rs) : WS N v M0 K0 M (ms K 0 23 z) P num nn rs := by
  obtain ⟨a1, a2, a3, a4, a5, a6, a7, a8, a9, a10⟩ := hW
  have hq : ∀ q, q ≠ 0 → ms K 0 23 z q = K q := fun q h => ms_q h
  have hj : ∀ j, j ≠ 23 → ms K 0 23 z 0 j = K 0 j := fun j h => ms_i h
  exact ⟨a1, ⟨fun q h1 h2 => by rw [hq q h1]; exact a2.1 q h1 h2, fun j b1 b2 b3 b4 => by rw [hj j b4]; exact a2.2 j b1 b2 b3 b4⟩, fun k hk => by rw [hq 12 (by decide)]; exact a3 k hk, ⟨a4.1, by rw [hj 18 (by decide)]; exact a4.2⟩, ⟨a5.1, by rw [hj 17 (by decide)]; exact a5.2⟩, ⟨by rw [hj 16 (by decide)]; exact a6.1, fun j h => by rw [hq 9 (by decide)]; exact a6.2 j h⟩, RecR_keep rs a7 (fun _ _ _ _ _ => rfl) (fun q i h _ _ => by rw [hq q (by omega)]) (fun _ _ _ => rfl), PileR_keep P a8 (fun _ _ _ _ _ => rfl) (fun q i h _ _ => by rw [hq q (by omega)]), a9, a10⟩
theorem WS_m14 {N nn : Nat} {v num : Nat → Nat} {M0 K0 M K : Mem} {P : List WEnt} {rs : List WRec} {z : Int32} (hW : WS N v M0 K0 M K P num nn rs) : WS N v M0 K0 (ms M 11 14 z) K P num nn rs := by
  obtain ⟨a1, a2, a3, a4, a5, a6, a7, a8, a9, a10⟩ := hW
  have hq : ∀ q, q ≠ 11 → ms M 11 14 z q = M q := fun q h => ms_q h
  have hj : ∀ j, j ≠ 14 → ms M 11 14 z 11 j = M 11 j := fun j h => ms_i h
  exact ⟨fun q h1 h2 => by rw [hq q h1]; exact a1 q h1 h2, a2, fun k hk => by rw [hq 13 (by decide)]; exact a3 k hk, ⟨by rw [hj 3 (by decide)]; exact a4.1, a4.2⟩, ⟨by rw [hj 9 (by decide)]; exact a5.1, a5.2⟩, a6, RecR_keep rs a7 (fun q i h _ _ => by rw [hq q (by omega)]) (fun _ _ _ _ _ => rfl) (fun _ _ _ => rfl), PileR_keep P a8 (fun q i h _ _ => by rw [hq q (by omega)]) (fun _ _ _ _ _ => rfl), a9, a10⟩
theorem WS_tail {N nn : Nat} {v num : Nat → Nat} {M0 K0 M K : Mem} {e : WEnt} {R : List WEnt} {rs : List WRec} (hW : WS N v M0 K0 M K (e :: R) num nn rs) : WS N v M0 K0 M K R num nn rs := by
  obtain ⟨a1, a2, a3, a4, a5, a6, a7, a8, a9, a10⟩ := hW
  exact ⟨a1, a2, a3, a4, a5, a6, a7, a8.2, a9, a10⟩
/-! what each side does -/
theorem W_await {L : Nat} {x1 x2 x3 x4 : Int32} {M : Mem} (h14 : M 11 14 = nI L) (hL : L < 121) : ∃ M', f_W_await x1 x2 x3 x4 M = some M' ∧ (∀ q, q ≠ 11 → (q < 19 ∨ 22 < q) → M' q = M q) ∧ (∀ j, j ≠ 14 → M' 11 j = M 11 j) ∧ M' 11 14 = nI (L + 1) ∧ (M' 19 L = x1 ∧ M' 20 L = x2 ∧ M' 21 L = x3 ∧ M' 22 L = x4) ∧ ∀ q i, q ≠ 11 → i ≠ L → M' q i = M q i := by
  have e19 : ∀ (X : Mem) i x, ms X 19 i x 11 = X 11 := fun X i x => ms_q (by decide)
  have e20 : ∀ (X : Mem) i x, ms X 20 i x 11 = X 11 := fun X i x => ms_q (by decide)
  have e21 : ∀ (X : Mem) i x, ms X 21 i x 11 = X 11 := fun X i x => ms_q (by decide)
  have e22 : ∀ (X : Mem) i x, ms X 22 i x 11 = X 11 := fun X i x => ms_q (by decide)
  rw [f_W_await]
  simp only [e19, e20, e21, e22, h14, nI_clamp (show L < 2 ^ 31 by omega), gd_nI hL (show 121 < 2 ^ 31 by decide), nI_1]
  rw [if_neg (show ¬ (121 : Int32) ≤ nI L from nI_ge (b := 121) hL (by decide))]
  refine ⟨_, rfl, fun q a b => by rw [ms_q a, ms_q (by omega), ms_q (by omega), ms_q (by omega), ms_q (by omega)], fun j hj => by rw [ms_i hj, e22, e21, e20, e19], by rw [ms_s], ⟨by rw [ms_q (by decide), ms_q (by decide), ms_q (by decide), ms_q (by decide), ms_s], by rw [ms_q (by decide), ms_q (by decide), ms_q (by decide), ms_s], by rw [ms_q (by decide), ms_q (by decide), ms_s], by rw [ms_q (by decide), ms_s]⟩, fun q i hq hi => ?_⟩
  rw [ms_q hq, ms_qi, if_neg (fun e => hi e.2), ms_qi, if_neg (fun e => hi e.2), ms_qi, if_neg (fun e => hi e.2), ms_qi, if_neg (fun e => hi e.2)]
theorem K_push {L : Nat} {x : Int32} {K : Mem} (h23 : K 0 23 = nI L) (hL : L < 130) : f_K_push x K = some (ms (ms (ms K 15 L x) 16 L 0) 0 23 (nI (L + 1))) := by
  have e15 : ∀ (X : Mem) i x, ms X 15 i x 0 = X 0 := fun X i x => ms_q (by decide)
  have e16 : ∀ (X : Mem) i x, ms X 16 i x 0 = X 0 := fun X i x => ms_q (by decide)
  rw [f_K_push]
  simp only [e15, e16, h23, nI_clamp (show L < 2 ^ 31 by omega), gd_nI hL (show 130 < 2 ^ 31 by decide), nI_1]
theorem K_later {L : Nat} {s k y : Int32} {K : Mem} (h23 : K 0 23 = nI (L + 1)) (hL : L + 1 < 130) : ∃ K', f_K_later s k y K = some K' ∧ (∀ q, q ≠ 0 → q ≠ 15 → q ≠ 16 → q ≠ 17 → K' q = K q) ∧ (∀ j, j ≠ 23 → K' 0 j = K 0 j) ∧ K' 0 23 = nI (L + 2) ∧ (K' 15 L = K 15 L ∧ K' 16 L = s ∧ K' 17 L = k ∧ K' 15 (L + 1) = y ∧ K' 16 (L + 1) = 0) ∧ ∀ q i, q ≠ 0 → i < L → K' q i = K q i := by
  have e16 : ∀ (X : Mem) i x, ms X 16 i x 0 = X 0 := fun X i x => ms_q (by decide)
  have e17 : ∀ (X : Mem) i x, ms X 17 i x 0 = X 0 := fun X i x => ms_q (by decide)
  have hp : nI (L + 1) - 1 = nI L := nI_pred L
  rw [f_K_later]
  simp only [e16, h23, hp, nI_clamp (show L < 2 ^ 31 by omega), gd_nI (show L < 130 by omega) (show 130 < 2 ^ 31 by decide)]
  rw [K_push (L := L + 1) (by rw [e17, e16]; exact h23) hL, om_s]
  refine ⟨_, rfl, fun q a b c d => by rw [ms_q a, ms_q c, ms_q b, ms_q d, ms_q c], fun j hj => by rw [ms_i hj, ms_q (by decide), ms_q (by decide), e17, e16], by rw [ms_s], ⟨by rw [ms_q (by decide), ms_q (by decide), ms_i (by omega), ms_q (by decide), ms_q (by decide)], by rw [ms_q (by decide), ms_i (by omega), ms_q (by decide), ms_q (by decide), ms_s], by rw [ms_q (by decide), ms_q (by decide), ms_q (by decide), ms_s], by rw [ms_q (by decide), ms_q (by decide), ms_s], by rw [ms_q (by decide), ms_s]⟩, fun q i hq hi => ?_⟩
  rw [ms_q hq, ms_qi, if_neg (fun e => absurd e.2 (by omega)), ms_qi, if_neg (fun e => absurd e.2 (by omega)), ms_qi, if_neg (fun e => absurd e.2 (by omega)), ms_qi, if_neg (fun e => absurd e.2 (by omega))]
theorem W_say {S : Nat} {x1 x2 x3 x4 : Int32} {M : Mem} (h9 : M 11 9 = nI S) (hS : S < 120) : ∃ M', f_W_say x1 x2 x3 x4 M = some M' ∧ (∀ q, q ≠ 11 → (q < 14 ∨ 18 < q) → M' q = M q) ∧ (∀ j, j ≠ 9 → M' 11 j = M 11 j) ∧ M' 11 9 = nI (S + 1) ∧ (M' 14 S = x1 ∧ M' 15 S = x2 ∧ M' 16 S = x3 ∧ M' 17 S = x4 ∧ M' 18 S = 0) ∧ ∀ q i, q ≠ 11 → i ≠ S → M' q i = M q i := by
  have e14 : ∀ (X : Mem) i x, ms X 14 i x 11 = X 11 := fun X i x => ms_q (by decide)
  have e15 : ∀ (X : Mem) i x, ms X 15 i x 11 = X 11 := fun X i x => ms_q (by decide)
  have e16 : ∀ (X : Mem) i x, ms X 16 i x 11 = X 11 := fun X i x => ms_q (by decide)
  have e17 : ∀ (X : Mem) i x, ms X 17 i x 11 = X 11 := fun X i x => ms_q (by decide)
  have e18 : ∀ (X : Mem) i x, ms X 18 i x 11 = X 11 := fun X i x => ms_q (by decide)
  rw [f_W_say]
  simp only [e14, e15, e16, e17, e18, h9, nI_clamp (show S < 2 ^ 31 by omega), gd_nI hS (show 120 < 2 ^ 31 by decide), nI_1]
  rw [if_neg (show ¬ (120 : Int32) ≤ nI S from nI_ge (b := 120) hS (by decide))]
  refine ⟨_, rfl, fun q a b => by rw [ms_q a, ms_q (by omega), ms_q (by omega), ms_q (by omega), ms_q (by omega), ms_q (by omega)], fun j hj => by rw [ms_i hj, e18, e17, e16, e15, e14], by rw [ms_s], ⟨by rw [ms_q (by decide), ms_q (by decide), ms_q (by decide), ms_q (by decide), ms_q (by decide), ms_s], by rw [ms_q (by decide), ms_q (by decide), ms_q (by decide), ms_q (by decide), ms_s], by rw [ms_q (by decide), ms_q (by decide), ms_q (by decide), ms_s], by rw [ms_q (by decide), ms_q (by decide), ms_s], by rw [ms_q (by decide), ms_s]⟩, fun q i hq hi => ?_⟩
  rw [ms_q hq, ms_qi, if_neg (fun e => hi e.2), ms_qi, if_neg (fun e => hi e.2), ms_qi, if_neg (fun e => hi e.2), ms_qi, if_neg (fun e => hi e.2), ms_qi, if_neg (fun e => hi e.2)]
theorem W_give {N g S nn : Nat} {M : Mem} (hN : N ≤ 120) (h10 : M 1 10 = nI N) (hg : g < N) (h9 : M 11 9 = nI (S + 1)) (hS : S < 120) (h3 : M 11 3 = nI nn) : f_W_giveNumber (nI g) M = some (ms (ms (ms M 11 3 (nI (nn + 1))) 13 g (nI (nn + 1))) 18 S (nI (nn + 1))) := by
  have c1 : ∀ z : Int32, ms (ms M 11 3 z) 13 g z 11 9 = nI (S + 1) := fun z => by rw [ms_q (by decide), ms_i (by decide)]; exact h9
  have c2 : ∀ z : Int32, ms (ms M 11 3 z) 13 g z 11 3 = z := fun z => by rw [ms_q (by decide), ms_s]
  rw [f_W_giveNumber, F_hasNode_t hN h10 hg, ob_s, if_neg (by decide), h9, if_neg (nI_nle (by omega) (by omega)), h3, nI_1, ms_s, nI_clamp (by omega), c1, c2, nI_pred, gd_nI (by omega) (by decide), gd_nI hS (by decide), nI_clamp (by omega)]
theorem K_give {g S nn : Nat} {K : Mem} (hg : g < 120) (h12 : K 12 g = nI 0) (h17 : K 0 17 = nI (S + 1)) (hS : S < 120) (h18 : K 0 18 = nI nn) : f_K_give (nI g) K = some (ms (ms (ms K 0 18 (nI (nn + 1))) 12 g (nI (nn + 1))) 11 S (nI (nn + 1))) := by
  have c1 : ∀ z : Int32, ms (ms K 0 18 z) 12 g z 0 17 = nI (S + 1) := fun z => by rw [ms_q (by decide), ms_i (by decide)]; exact h17
  have c2 : ∀ z : Int32, ms (ms K 0 18 z) 12 g z 0 18 = z := fun z => by rw [ms_q (by decide), ms_s]
  rw [f_K_give, gd_nI hg (by decide), nI_clamp (by omega), h12, if_pos (by decide), gd_nI hg (by decide), h18, nI_1, ms_s, c1, c2, nI_pred, gd_nI (by omega) (by decide), nI_clamp (by omega)]
theorem K_give_no {g u : Nat} {K : Mem} (hg : g < 120) (h12 : K 12 g = nI u) (hu : u ≠ 0) (hu2 : u < 1000) : f_K_give (nI g) K = some K := by
  rw [f_K_give, gd_nI hg (by decide), nI_clamp (by omega), h12, if_neg (nI_nle (by omega) (by omega))]
theorem W_isShared {N g u : Nat} {M : Mem} (hN : N ≤ 120) (h10 : M 1 10 = nI N) (hg : g < N) (hu : M 12 g = nI u) (hu2 : u ≤ 240) : f_W_isShared (nI g) M = some (bi (decide (2 ≤ u)), M) := by
  rw [f_W_isShared, F_hasNode_t hN h10 hg, ob_s, if_neg (by decide), gd_nI (by omega) (by decide), nI_clamp (by omega), hu]
  by_cases h : 2 ≤ u
  · rw [if_neg (show ¬ nI u < 2 from nI_nlt (b := 2) h (by omega)), decide_eq_true h]; rfl
  · rw [if_pos (show nI u < 2 from nI_lt (b := 2) (by omega) (by decide)), decide_eq_false h]; rfl
theorem W_hasNumber {N g u : Nat} {M : Mem} (hN : N ≤ 120) (h10 : M 1 10 = nI N) (hg : g < N) (hu : M 13 g = nI u) (hu2 : u < 1000) : f_W_hasNumber (nI g) M = some (bi (!decide (u = 0)), M) := by
  have e1 : f_W_numberOfNode (nI g) M = some (nI u, M) := by
    rw [f_W_numberOfNode, F_hasNode_t hN h10 hg, ob_s, if_neg (by decide), gd_nI (by omega) (by decide), nI_clamp (by omega), hu]
  rw [f_W_hasNumber, e1, ob_s]
  by_cases h : u = 0
  · rw [if_pos ((nI_eq0 (by omega)).mpr h), decide_eq_true h]; rfl
  · rw [if_neg (fun e => h ((nI_eq0 (by omega)).mp e)), decide_eq_false h]; rfl
