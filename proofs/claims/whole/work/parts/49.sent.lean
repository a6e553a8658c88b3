/-! PURE: a sentence, both sides -/
def opn (o : Nat) : Nat := if o = 1 then 0 else if o = 2 then 1 else if o = 3 then 2 else 3
def causeL (v : Nat → Nat) (M : Mem) (num : Nat → Nat) (c : Nat) : List Int32 := nodeL v M c ++ numL (num c)
def fstL (v : Nat → Nat) (M : Mem) (num : Nat → Nat) (c : Option Nat) : List Int32 := match c with
  | none => []
  | some c => causeL v M num c
def sndL (v : Nat → Nat) (M : Mem) (num : Nat → Nat) (c : Option Nat) : List Int32 := match c with
  | none => []
  | some c => tx 5 ++ causeL v M num c
def comL (c : Option Nat) : List Int32 := match c with
  | none => []
  | some _ => tx 19
def textL (v : Nat → Nat) (M : Mem) (num : Nat → Nat) (o : Nat) (c1 c2 : Option Nat) (x : Nat) : List Int32 :=
  tx (opn o) ++ (fstL v M num c1 ++ (sndL v M num c2 ++ (comL c1 ++ (nodeL v M x ++ [46]))))
def okC (N : Nat) (c : Option Nat) : Prop := ∀ a, c = some a → a < N
def PCi (o : Option (Int32 × Mem)) (M : Mem) (B L : List Int32) (r : Int32) : Prop := ∃ M', o = some (r, M') ∧ BufC M' (B ++ L) ∧ FC M M'
theorem PCi_om {o : Option Mem} {k : Mem → Option (Int32 × Mem)} {M : Mem} {B L1 L2 : List Int32} {r : Int32} (h : PC o M B L1) (h2 : ∀ M1, BufC M1 (B ++ L1) → FC M M1 → PCi (k M1) M1 (B ++ L1) L2 r) : PCi (om o k) M B (L1 ++ L2) r := by
  obtain ⟨M1, rfl, a, b⟩ := h
  obtain ⟨M2, c, d, e⟩ := h2 M1 a b
  exact ⟨M2, by rw [om_s, c], by rw [← List.append_assoc]; exact d, FC_t b e⟩
theorem W_has {S j : Nat} {M : Mem} (hS : S ≤ 120) (h9 : M 11 9 = nI S) (hj : j < S) : f_W_hasSentence (nI j) M = some (1, M) := by
  rw [f_W_hasSentence, if_neg (nI_pos (by omega)), h9, if_neg (nI_ge hj (by omega))]
theorem W_has0 {S : Nat} {x : Int32} {M : Mem} (h9 : M 11 9 = nI S) (hj : x < 0 ∨ nI S ≤ x) : f_W_hasSentence x M = some (0, M) := by
  rw [f_W_hasSentence, h9]
  by_cases h : x < 0
  · rw [if_pos h]
  · rw [if_neg h, if_pos (hj.resolve_left h)]
theorem W_rec {S j : Nat} {M : Mem} (hS : S ≤ 120) (h9 : M 11 9 = nI S) (hj : j < S) : f_W_opening (nI j) M = some (M 14 j, M) ∧ f_W_firstCause (nI j) M = some (M 15 j, M) ∧ f_W_secondCause (nI j) M = some (M 16 j, M) ∧ f_W_conclusion (nI j) M = some (M 17 j, M) ∧ f_W_numberOfSentence (nI j) M = some (M 18 j, M) := by
  refine ⟨?_, ?_, ?_, ?_, ?_⟩
  · rw [f_W_opening, W_has hS h9 hj, ob_s, if_neg (by decide), gd_nI (by omega) (by decide), nI_clamp (by omega)]
  · rw [f_W_firstCause, W_has hS h9 hj, ob_s, if_neg (by decide), gd_nI (by omega) (by decide), nI_clamp (by omega)]
  · rw [f_W_secondCause, W_has hS h9 hj, ob_s, if_neg (by decide), gd_nI (by omega) (by decide), nI_clamp (by omega)]
  · rw [f_W_conclusion, W_has hS h9 hj, ob_s, if_neg (by decide), gd_nI (by omega) (by decide), nI_clamp (by omega)]
  · rw [f_W_numberOfSentence, W_has hS h9 hj, ob_s, if_neg (by decide), gd_nI (by omega) (by decide), nI_clamp (by omega)]
theorem P_openingWords {o : Nat} (ho : o < 4) (M : Mem) : f_P_openingWords (nI o) M = some (opn o, M) := by
  rw [f_P_openingWords, opn]
  have c1 : nI o = 1 ↔ o = 1 := nI_eq (b := 1) (by omega) (by decide)
  have c2 : nI o = 2 ↔ o = 2 := nI_eq (b := 2) (by omega) (by decide)
  have c3 : nI o = 3 ↔ o = 3 := nI_eq (b := 3) (by omega) (by decide)
  by_cases h1 : o = 1
  · rw [if_pos (c1.mpr h1), if_pos h1]
  · rw [if_neg (fun e => h1 (c1.mp e)), if_neg h1]
    by_cases h2 : o = 2
    · rw [if_pos (c2.mpr h2), if_pos h2]
    · rw [if_neg (fun e => h2 (c2.mp e)), if_neg h2]
      by_cases h3 : o = 3
      · rw [if_pos (c3.mpr h3), if_pos h3]
      · rw [if_neg (fun e => h3 (c3.mp e)), if_neg h3]
theorem P_cause {n N c : Nat} {v num : Nat → Nat} {M0 M K : Mem} {B L : List Int32} {r : Int32} {k : Mem → Option (Int32 × Mem)} (h : RF n N v M0 K) (hnum : ∀ k, k < N → M0 13 k = nI (num k) ∧ num k < 1000) (hc : c < N) (f : FC M0 M) (hb : BufC M B) (hB : B.length + 79 ≤ 256) (hk : ∀ M1, BufC M1 (B ++ causeL v M0 num c) → FC M0 M1 → PCi (k M1) M1 (B ++ causeL v M0 num c) L r) : PCi (om (f_P_tellNode (nI c) M) fun M73 => om (f_P_tellNumber (nI c) M73) k) M B (causeL v M0 num c ++ L) r := by
  have hl := nodeL_len h hc
  rw [causeL, List.append_assoc]
  have t := P_tellNode (RF_C h f) hc hb hB
  rw [nodeL_C f] at t
  refine PCi_om t (fun M1 b1 f1 => ?_)
  have f01 := FC_t f f1
  refine PCi_om (P_tellNumber h.2.1 (by rw [f01.1 1 (by decide) (by decide)]; exact h.2.2.2.2.1) hc (by rw [f01.1 13 (by decide) (by decide)]; exact (hnum c hc).1) (hnum c hc).2 b1 (by rw [List.length_append]; omega)) (fun M2 b2 f2 => ?_)
  rw [List.append_assoc] at b2 ⊢
  exact hk M2 b2 (FC_t f01 f2)
theorem P_show {n N S j o x : Nat} {c1 c2 : Option Nat} {v num : Nat → Nat} {M K : Mem} (h : RF n N v M K) (hnum : ∀ k, k < N → M 13 k = nI (num k) ∧ num k < 1000) (hS : S ≤ 120) (h9 : M 11 9 = nI S) (hj : j < S) (hsh : M 23 4 ≠ nI j) (ho : o < 4) (hx : x < N) (hc1 : okC N c1) (hc2 : okC N c2) (e14 : M 14 j = nI o) (e15 : M 15 j = onI c1) (e16 : M 16 j = onI c2) (e17 : M 17 j = nI x) : ∃ M', f_P_show (nI j) M = some (1, M') ∧ BufC M' (textL v M num o c1 c2 x) ∧ M' 23 4 = nI j ∧ ∀ q, q ≠ 23 → q ≠ 24 → M' q = M q := by
  have hN := h.2.1
  have q0 : ∀ q, q ≠ 23 → ms (ms M 23 4 (nI j)) 23 3 0 q = M q := fun q hq => by rw [ms_q hq, ms_q hq]
  have h0 : RF n N v (ms (ms M 23 4 (nI j)) 23 3 0) K := RF_keep h (fun q _ _ => q0 q (by omega)) (fun _ _ _ => rfl) rfl rfl
  have b0 : BufC (ms (ms M 23 4 (nI j)) 23 3 0) [] := ⟨by rw [ms_s]; rfl, fun _ h => absurd h (Nat.not_lt_zero _)⟩
  have hn0 : ∀ k, k < N → ms (ms M 23 4 (nI j)) 23 3 0 13 k = nI (num k) ∧ num k < 1000 := fun k hk => by rw [q0 13 (by decide)]; exact hnum k hk
  have tL : textL v M num o c1 c2 x = textL v (ms (ms M 23 4 (nI j)) 23 3 0) num o c1 c2 x := by
    have hk : ∀ k, nodeL v (ms (ms M 23 4 (nI j)) 23 3 0) k = nodeL v M k := fun k => nodeL_keep (fun q _ _ => by rw [q0 q (by omega)])
    cases c1 <;> cases c2 <;> simp only [textL, fstL, sndL, comL, causeL, hk]
  rw [f_P_show, W_has hS h9 hj, ob_s, if_neg (by decide), if_neg (fun e => hsh e.symm), tL]
  have m4 : ms (ms M 23 4 (nI j)) 23 3 0 23 4 = nI j := by rw [ms_i (by decide), ms_s]
  have m11 : ms (ms M 23 4 (nI j)) 23 3 0 11 9 = nI S := by rw [q0 11 (by decide)]; exact h9
  rw [← q0 14 (by decide)] at e14
  rw [← q0 15 (by decide)] at e15
  rw [← q0 16 (by decide)] at e16
  rw [← q0 17 (by decide)] at e17
  generalize ms (ms M 23 4 (nI j)) 23 3 0 = M0 at *
  obtain ⟨w1, w2, w3, -, -⟩ := W_rec hS m11 hj
  rw [w2, ob_s, w3, ob_s, w1, ob_s, e14, e15, e16, P_openingWords ho, ob_s]
  have lop : (tx (opn o)).length ≤ 12 := by
    have : ∀ o, o < 4 → (tx (opn o)).length ≤ 12 := by decide +kernel
    exact this o ho
  have l5 : (tx 5).length = 5 := by decide +kernel
  have l19 : (tx 19).length = 2 := by decide +kernel
  have cl : ∀ c, c < N → (causeL v M0 num c).length ≤ 74 := fun c hc => by
    have a := nodeL_len h0 hc
    have b := numL_len (x := num c)
    rw [causeL, List.length_append]; omega
  have s113 : ∀ (M1 : Mem) (B1 : List Int32), FC M0 M1 → BufC M1 B1 → B1.length + 79 ≤ 256 → PCi (f_P_show_113 (nI j) M1) M1 B1 (nodeL v M0 x ++ [46]) 1 := fun M1 B1 f1 b1 g1 => by
    have hl := nodeL_len h0 hx
    obtain ⟨-, -, -, w4, -⟩ := W_rec hS (show M1 11 9 = nI S by rw [f1.1 11 (by decide) (by decide)]; exact m11) hj
    rw [f_P_show_113, w4, ob_s, f1.1 17 (by decide) (by decide), e17]
    have t := P_tellNode (RF_C h0 f1) hx b1 g1
    rw [nodeL_C f1] at t
    refine PCi_om t (fun M2 b2 f2 => ?_)
    obtain ⟨M3, a, b, c⟩ := P_putC b2 (show (B1 ++ nodeL v M0 x).length < 256 by rw [List.length_append]; omega) (x := 46) (by decide)
    exact ⟨M3, by rw [a, om_s], b, c⟩
  have s102 : ∀ (M1 : Mem) (B1 : List Int32), FC M0 M1 → BufC M1 B1 → B1.length + 81 ≤ 256 → PCi (f_P_show_102 (nI j) (onI c1) M1) M1 B1 (comL c1 ++ (nodeL v M0 x ++ [46])) 1 := fun M1 B1 f1 b1 g1 => by
    rw [f_P_show_102]
    cases c1 with
    | none =>
      rw [if_pos (show onI none = -1 from rfl)]
      exact s113 M1 B1 f1 b1 (by omega)
    | some c =>
      rw [if_neg (show ¬ onI (some c) = -1 from nI_m1 (by have := hc1 c rfl; omega))]
      show PCi _ _ _ (tx 19 ++ _) _
      exact PCi_om (P_putS b1 (by decide) (by omega)) (fun M2 b2 f2 => s113 M2 _ (FC_t f1 f2) b2 (by rw [List.length_append]; omega))
  have s81 : ∀ (M1 : Mem) (B1 : List Int32), FC M0 M1 → BufC M1 B1 → B1.length + 160 ≤ 256 → PCi (f_P_show_81 (nI j) (onI c1) (onI c2) M1) M1 B1 (sndL v M0 num c2 ++ (comL c1 ++ (nodeL v M0 x ++ [46]))) 1 := fun M1 B1 f1 b1 g1 => by
    rw [f_P_show_81]
    cases c2 with
    | none =>
      rw [if_pos (show onI none = -1 from rfl)]
      exact s102 M1 B1 f1 b1 (by omega)
    | some c =>
      have hc := hc2 c rfl
      have hcl := cl c hc
      rw [if_neg (show ¬ onI (some c) = -1 from nI_m1 (by omega)), sndL, List.append_assoc]
      refine PCi_om (P_putS b1 (by decide) (by omega)) (fun M2 b2 f2 => ?_)
      exact P_cause h0 hn0 hc (FC_t f1 f2) b2 (by rw [List.length_append]; omega) (fun M3 b3 f3 => s102 M3 _ f3 b3 (by rw [List.length_append, List.length_append]; omega))
  have main : PCi (om (f_P_putS (opn o) M0) fun M63 => if onI c1 = (-1 : Int32) then f_P_show_81 (nI j) (onI c1) (onI c2) M63 else om (f_P_tellNode (onI c1) M63) fun M73 => om (f_P_tellNumber (onI c1) M73) fun M78 => f_P_show_81 (nI j) (onI c1) (onI c2) M78) M0 [] (textL v M0 num o c1 c2 x) 1 := by
    have hop : opn o < 20 := by
      have : ∀ o, o < 4 → opn o < 20 := by decide
      exact this o ho
    refine PCi_om (P_putS b0 hop (by rw [List.length_nil]; omega)) (fun M1 b1 f1 => ?_)
    cases c1 with
    | none =>
      rw [if_pos (show onI none = -1 from rfl)]
      exact s81 M1 _ f1 b1 (by rw [List.length_append, List.length_nil]; omega)
    | some c =>
      have hc := hc1 c rfl
      have hcl := cl c hc
      rw [if_neg (show ¬ onI (some c) = -1 from nI_m1 (by omega))]
      exact P_cause h0 hn0 hc f1 b1 (by rw [List.length_append, List.length_nil]; omega) (fun M3 b3 f3 => s81 M3 _ f3 b3 (by rw [List.length_append, List.length_append, List.length_nil]; omega))
  obtain ⟨M', a, b, f⟩ := main
  refine ⟨M', a, by rw [List.nil_append] at b; exact b, by rw [f.2 4 (by decide)]; exact m4, fun q h1 h2 => by rw [f.1 q h1 h2, q0 q h1]⟩
/-- what saying a sentence leaves of the reference -/
def SayK (S b : Nat) (K K' : Mem) : Prop := (∀ q, q ≠ 0 → q ≠ 9 → q ≠ 10 → q ≠ 11 → K' q = K q) ∧ (∀ j, j ≠ 16 → j ≠ 17 → K' 0 j = K 0 j) ∧ K' 0 17 = nI (S + 1) ∧ K' 10 S = nI b ∧ (∀ j, j ≠ S → K' 10 j = K 10 j) ∧ K' 11 S = 0 ∧ ∀ j, j ≠ S → K' 11 j = K 11 j
theorem K_sent {S : Nat} {K : Mem} {B L : List Int32} {f : Mem → Option Mem} (hb : BufK K B) (h17 : K 0 17 = nI S) (hS : S < 400) (hf : ∀ K1, BufK K1 B → (∀ q, q ≠ 0 → q ≠ 10 → q ≠ 11 → K1 q = K q) → (∀ j, j ≠ 17 → K1 0 j = K 0 j) → PK (f K1) K1 B L) : ∃ K', om (f_K_begin K) f = some K' ∧ BufK K' (B ++ L) ∧ SayK S B.length K K' := by
  have hk : f_K_begin K = some (ms (ms (ms K 10 S (nI B.length)) 11 S 0) 0 17 (nI (S + 1))) := by
    have a1 : ms K 10 S (nI B.length) 0 17 = nI S := by rw [ms_q (by decide)]; exact h17
    rw [f_K_begin, h17, gd_nI hS (by decide), nI_clamp (by omega), hb.1, a1, gd_nI hS (by decide), nI_clamp (by omega)]
    rw [show ms (ms K 10 S (nI B.length)) 11 S 0 0 17 = nI S by rw [ms_q (by decide)]; exact a1, nI_1]
  have hq : ∀ q, q ≠ 0 → q ≠ 10 → q ≠ 11 → ms (ms (ms K 10 S (nI B.length)) 11 S 0) 0 17 (nI (S + 1)) q = K q := fun q a b c => by rw [ms_q a, ms_q c, ms_q b]
  have h0 : ∀ j, j ≠ 17 → ms (ms (ms K 10 S (nI B.length)) 11 S 0) 0 17 (nI (S + 1)) 0 j = K 0 j := fun j a => by rw [ms_i a, ms_q (by decide), ms_q (by decide)]
  obtain ⟨K', a, b, c⟩ := hf (ms (ms (ms K 10 S (nI B.length)) 11 S 0) 0 17 (nI (S + 1))) ⟨by rw [h0 16 (by decide)]; exact hb.1, fun j hj => by rw [hq 9 (by decide) (by decide) (by decide)]; exact hb.2 j hj⟩ hq h0
  refine ⟨K', by rw [hk, om_s]; exact a, b, fun q a b d e => by rw [c.1 q a b, hq q a d e], fun j a b => by rw [c.2 j a, h0 j b], by rw [c.2 17 (by decide), ms_s], by rw [c.1 10 (by decide) (by decide), ms_q (by decide), ms_q (by decide), ms_s], fun j hj => by rw [c.1 10 (by decide) (by decide), ms_q (by decide), ms_q (by decide), ms_i hj], by rw [c.1 11 (by decide) (by decide), ms_q (by decide), ms_s], fun j hj => by rw [c.1 11 (by decide) (by decide), ms_q (by decide), ms_i hj, ms_q (by decide)]⟩
def numK (N : Nat) (num : Nat → Nat) (K : Mem) : Prop := ∀ k, k < N → K 12 k = nI (num k) ∧ num k < 1000
theorem numK_B {N : Nat} {num : Nat → Nat} {K K' : Mem} (h : numK N num K) (f : FB K K') : numK N num K' := fun k hk => by rw [f.1 12 (by decide) (by decide)]; exact h k hk
theorem K_concl {n N x : Nat} {v num : Nat → Nat} {M K : Mem} {B : List Int32} (h : RF n N v M K) (hnum : numK N num K) (hx : x < N) (hx0 : num x = 0) (hb : BufK K B) (hB : B.length + 1000 ≤ 60000) : PK (om (f_K_told (nI x) K) fun M69 => om (f_K_put (46 : Int32) M69) fun M75 => some M75) K B (nodeL v M x ++ [46]) := by
  have hl := nodeL_len h hx
  have t := K_told h hx (hnum x hx).1 (hnum x hx).2 hb (by omega)
  rw [hx0, show numL 0 = [] from rfl, List.append_nil] at t
  refine PK_om t (fun M1 b1 _ => ?_)
  rw [om_id]
  exact K_put b1 (by rw [List.length_append]; omega)
theorem K_because {n N S c x : Nat} {o : Bool} {c2 : Option Nat} {v num : Nat → Nat} {M K : Mem} {B : List Int32} (h : RF n N v M K) (hnum : numK N num K) (hc : c < N) (hc2 : okC N c2) (hx : x < N) (hx0 : num x = 0) (hb : BufK K B) (hB : B.length + 3000 ≤ 60000) (h17 : K 0 17 = nI S) (hS : S < 400) : ∃ K', f_K_because (bi o) (nI c) (onI c2) (nI x) K = some K' ∧ BufK K' (B ++ textL v M num (if o then 2 else 1) (some c) c2 x) ∧ SayK S B.length K K' := by
  have hN := h.2.1
  rw [f_K_because]
  refine K_sent hb h17 hS (fun K1 b1 q1 z1 => ?_)
  have h1 : RF n N v M K1 := RF_keep h (fun _ _ _ => rfl) (fun q a b => q1 q (by omega) (by omega) (by omega)) (z1 2 (by decide)) (z1 3 (by decide))
  have n1 : numK N num K1 := fun k hk => by rw [q1 12 (by decide) (by decide) (by decide)]; exact hnum k hk
  clear q1 z1
  have cl : ∀ c, c < N → (causeL v M num c).length ≤ 74 := fun c hc => by
    have a := nodeL_len h hc
    have b := numL_len (x := num c)
    rw [causeL, List.length_append]; omega
  have l5 : (tx 5).length = 5 := by decide +kernel
  have s54 : ∀ (K2 : Mem) (B2 : List Int32), FB K1 K2 → BufK K2 B2 → B2.length + 1010 ≤ 60000 → PK (f_K_because_54 (nI x) K2) K2 B2 (tx 19 ++ (nodeL v M x ++ [46])) := fun K2 B2 f2 b2 g2 => by
    rw [f_K_because_54, tx19, List.append_assoc]
    refine PK_om (K_put b2 (by omega)) (fun K3 b3 f3 => ?_)
    refine PK_om (K_put b3 (by rw [List.length_append, List.length_singleton]; omega)) (fun K4 b4 f4 => ?_)
    exact K_concl (RF_B (RF_B (RF_B h1 f2) f3) f4) (numK_B (numK_B (numK_B n1 f2) f3) f4) hx hx0 b4 (by rw [List.length_append, List.length_append, List.length_singleton, List.length_singleton]; omega)
  have s32 : ∀ (K2 : Mem) (B2 : List Int32), FB K1 K2 → BufK K2 B2 → B2.length + 2400 ≤ 60000 → PK (f_K_because_32 (nI c) (onI c2) (nI x) K2) K2 B2 (fstL v M num (some c) ++ (sndL v M num c2 ++ (comL (some c) ++ (nodeL v M x ++ [46])))) := fun K2 B2 f2 b2 g2 => by
    have hcl := cl c hc
    rw [f_K_because_32]
    show PK _ _ _ (causeL v M num c ++ _)
    refine PK_om (K_told (RF_B h1 f2) hc (numK_B n1 f2 c hc).1 (numK_B n1 f2 c hc).2 b2 (by omega)) (fun K3 b3 f3 => ?_)
    have f23 := FB_t f2 f3
    have b3' : BufK K3 (B2 ++ causeL v M num c) := b3
    show PK _ _ (B2 ++ causeL v M num c) _
    cases c2 with
    | none =>
      rw [if_pos (show onI none = -1 from rfl)]
      exact s54 K3 _ f23 b3' (by rw [List.length_append]; omega)
    | some d =>
      have hd := hc2 d rfl
      have hdl := cl d hd
      rw [if_neg (show ¬ onI (some d) = -1 from nI_m1 (by omega)), sndL, List.append_assoc]
      have w := sl8 139073578016
      refine PK_om (PK_l (K_say b3' (by rw [List.length_append]; omega)) say_and) (fun K4 b4 f4 => ?_)
      have f24 := FB_t f23 f4
      refine PK_om (K_told (RF_B h1 f24) hd (numK_B n1 f24 d hd).1 (numK_B n1 f24 d hd).2 b4 (by rw [List.length_append, List.length_append]; omega)) (fun K5 b5 f5 => ?_)
      have b5' : BufK K5 (B2 ++ causeL v M num c ++ tx 5 ++ causeL v M num d) := b5
      exact s54 K5 _ (FB_t f24 f5) b5' (by rw [List.length_append, List.length_append, List.length_append]; omega)
  cases o
  · rw [if_pos (show bi false = 0 from rfl)]
    have w := sl8 4784339449384494368
    show PK _ K1 B (tx 0 ++ _)
    refine PK_om (PK_l (K_say b1 (by omega)) say_because) (fun K2 b2 f2 => ?_)
    exact s32 K2 _ f2 b2 (by have := tx_len 0 (by decide); rw [List.length_append]; omega)
  · rw [if_neg (show ¬ bi true = 0 by decide)]
    have w := sl8 4714815950156030817
    have w2 := sl8 1970496800
    show PK _ K1 B (tx 1 ++ _)
    rw [← say_andb, List.append_assoc]
    refine PK_om (K_say b1 (by omega)) (fun K2 b2 f2 => ?_)
    refine PK_om (K_say b2 (by rw [List.length_append]; omega)) (fun K3 b3 f3 => ?_)
    exact s32 K3 _ (FB_t f2 f3) b3 (by rw [List.length_append, List.length_append]; omega)
theorem K_thus {n N S x : Nat} {v num : Nat → Nat} {M K : Mem} {B : List Int32} (h : RF n N v M K) (hnum : numK N num K) (hx : x < N) (hx0 : num x = 0) (hb : BufK K B) (hB : B.length + 3000 ≤ 60000) (h17 : K 0 17 = nI S) (hS : S < 400) : ∃ K', f_K_thus (nI x) K = some K' ∧ BufK K' (B ++ textL v M num 3 none none x) ∧ SayK S B.length K K' := by
  rw [f_K_thus]
  refine K_sent hb h17 hS (fun K1 b1 q1 z1 => ?_)
  have h1 : RF n N v M K1 := RF_keep h (fun _ _ _ => rfl) (fun q a b => q1 q (by omega) (by omega) (by omega)) (z1 2 (by decide)) (z1 3 (by decide))
  have n1 : numK N num K1 := fun k hk => by rw [q1 12 (by decide) (by decide) (by decide)]; exact hnum k hk
  have w := sl8 92807623814176
  refine PK_om (PK_l (K_say b1 (by omega)) (show sayB 92807623814176 = tx (opn 3) from say_thus)) (fun K2 b2 f2 => ?_)
  exact K_concl (RF_B h1 f2) (numK_B n1 f2) hx hx0 b2 (by have := tx_len (opn 3) (by decide); rw [List.length_append]; omega)
theorem K_alone {n N S x : Nat} {v num : Nat → Nat} {M K : Mem} {B : List Int32} (h : RF n N v M K) (hnum : numK N num K) (hx : x < N) (hx0 : num x = 0) (hb : BufK K B) (hB : B.length + 3000 ≤ 60000) (h17 : K 0 17 = nI S) (hS : S < 400) : ∃ K', (om (f_K_begin K) fun M91 => om (f_K_told (nI x) M91) fun M96 => om (f_K_put (46 : Int32) M96) fun M102 => some M102) = some K' ∧ BufK K' (B ++ textL v M num 0 none none x) ∧ SayK S B.length K K' := by
  refine K_sent hb h17 hS (fun K1 b1 q1 z1 => ?_)
  have h1 : RF n N v M K1 := RF_keep h (fun _ _ _ => rfl) (fun q a b => q1 q (by omega) (by omega) (by omega)) (z1 2 (by decide)) (z1 3 (by decide))
  have n1 : numK N num K1 := fun k hk => by rw [q1 12 (by decide) (by decide) (by decide)]; exact hnum k hk
  exact K_concl h1 n1 hx hx0 b1 (by omega)
