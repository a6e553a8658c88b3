/-! PURE: the number after a cause, a node in words, a sentence -/
def numL (x : Nat) : List Int32 := if x = 0 then [] else tx 18 ++ ((if 100 ≤ x then [nI (48 + x / 100)] else []) ++ ((if 10 ≤ x then [nI (48 + x / 10 % 10)] else []) ++ ([nI (48 + x % 10)] ++ [41])))
theorem P_dig {x : Nat} (hx : x < 2 ^ 31) (M : Mem) : f_P_digit (nI x) M = some (nI (48 + x % 10), M) := by
  have h1 : f_P_digit (nI x) M = f_P_digit (nI (x % 10)) M := by
    rw [f_P_digit, f_P_digit, show (10 : Int32) = nI 10 from rfl, pk_rem hx (by decide) (by decide), pk_rem (by omega) (by decide) (by decide), Nat.mod_mod]
  rw [h1, P_digit (by omega)]
theorem numL_len {x : Nat} : (numL x).length ≤ 6 := by
  have : (tx 18).length = 2 := by decide +kernel
  unfold numL
  repeat' split
  all_goals simp [this]
theorem P_tellNumber {N k x : Nat} {M : Mem} {B : List Int32} (hN : N ≤ 120) (h10 : M 1 10 = nI N) (hk : k < N) (hx : M 13 k = nI x) (hx3 : x < 1000) (hb : BufC M B) (hB : B.length + 6 ≤ 256) : PC (f_P_tellNumber (nI k) M) M B (numL x) := by
  have e1 : f_W_numberOfNode (nI k) M = some (nI x, M) := by
    rw [f_W_numberOfNode, F_hasNode_t hN h10 hk, ob_s, if_neg (by decide), gd_nI (by omega) (by decide), nI_clamp (by omega), hx]
  have d3 : ∀ b, b < 10 → vp_nar .char (nI (48 + b)) = nI (48 + b) := fun b hb => (dig10 b hb).2
  have l18 : (tx 18).length = 2 := by decide +kernel
  rw [f_P_tellNumber, e1, ob_s, numL]
  by_cases h0 : x = 0
  · rw [if_pos ((nI_eq0 (by omega)).mpr h0), if_pos h0]
    exact PC_nil hb
  · rw [if_neg (fun e => h0 ((nI_eq0 (by omega)).mp e)), if_neg h0]
    refine PC_om (P_putS hb (by decide) (by omega)) (fun M1 b1 _ => ?_)
    have s54 : ∀ (M2 : Mem) (B2 : List Int32), BufC M2 B2 → B2.length + 2 ≤ 256 → PC (f_P_tellNumber_54 (nI x) M2) M2 B2 ([nI (48 + x % 10)] ++ [41]) := fun M2 B2 b2 g2 => by
      rw [f_P_tellNumber_54, P_dig (by omega), ob_s]
      refine PC_om (P_putC b2 (by omega) (d3 _ (by omega))) (fun M3 b3 _ => ?_)
      rw [om_id]
      exact P_putC b3 (by rw [List.length_append, List.length_singleton]; omega) (by decide)
    have s37 : ∀ (M2 : Mem) (B2 : List Int32), BufC M2 B2 → B2.length + 3 ≤ 256 → PC (f_P_tellNumber_37 (nI x) M2) M2 B2 ((if 10 ≤ x then [nI (48 + x / 10 % 10)] else []) ++ ([nI (48 + x % 10)] ++ [41])) := fun M2 B2 b2 g2 => by
      rw [f_P_tellNumber_37, show (10 : Int32) = nI 10 from rfl]
      by_cases h10 : 10 ≤ x
      · rw [if_neg (nI_nlt h10 (by omega)), if_pos h10, pk_div (by omega) (by decide) (by decide), P_dig (by omega), ob_s]
        refine PC_om (P_putC b2 (by omega) (d3 _ (by omega))) (fun M3 b3 _ => ?_)
        exact s54 M3 _ b3 (by rw [List.length_append, List.length_singleton]; omega)
      · rw [if_pos (nI_lt (by omega) (by decide)), if_neg h10, List.nil_append]
        exact s54 M2 B2 b2 (by omega)
    rw [show (100 : Int32) = nI 100 from rfl]
    by_cases h100 : 100 ≤ x
    · rw [if_neg (nI_nlt h100 (by omega)), if_pos h100, pk_div (by omega) (by decide) (by decide), P_dig (by omega), ob_s, show x / 100 % 10 = x / 100 by omega]
      refine PC_om (P_putC b1 (by rw [List.length_append]; omega) (d3 _ (by omega))) (fun M3 b3 _ => ?_)
      exact s37 M3 _ b3 (by rw [List.length_append, List.length_append, List.length_singleton]; omega)
    · rw [if_pos (nI_lt (by omega) (by decide)), if_neg h100, List.nil_append]
      exact s37 M1 _ b1 (by rw [List.length_append]; omega)
theorem tx18 : tx 18 = [32] ++ [40] := by decide +kernel
theorem tx19 : tx 19 = [44] ++ [32] := by decide +kernel
theorem K_told23 {k x : Nat} {K : Mem} {B : List Int32} (hk : k < 120) (hx : K 12 k = nI x) (hx3 : x < 1000) (hb : BufK K B) (hB : B.length + 10 ≤ 60000) : PK (f_K_told_23 (nI k) K) K B (numL x) := by
  rw [f_K_told_23, gd_nI hk (by decide), nI_clamp (by omega), hx, numL]
  by_cases h0 : x = 0
  · rw [if_pos ((nI_eq0 (by omega)).mpr h0), if_pos h0]
    exact PK_nil hb
  · rw [if_neg (fun e => h0 ((nI_eq0 (by omega)).mp e)), if_neg h0, tx18, List.append_assoc]
    refine PK_om (K_put hb (by omega)) (fun M1 b1 f1 => ?_)
    refine PK_om (K_put b1 (by rw [List.length_append, List.length_singleton]; omega)) (fun M2 b2 f2 => ?_)
    have e12 : ∀ M3, FB K M3 → M3 12 k = nI x := fun M3 f3 => by rw [f3.1 12 (by decide) (by decide)]; exact hx
    have s102 : ∀ (M3 : Mem) (B3 : List Int32), FB K M3 → BufK M3 B3 → B3.length + 2 ≤ 60000 → PK (f_K_told_102 (nI k) M3) M3 B3 ([nI (48 + x % 10)] ++ [41]) := fun M3 B3 f3 b3 g3 => by
      rw [f_K_told_102, gd_nI hk (by decide), nI_clamp (by omega), e12 M3 f3, show (10 : Int32) = nI 10 from rfl, pk_rem (by omega) (by decide) (by decide), n48 _ (by omega)]
      refine PK_om (K_put b3 (by omega)) (fun M4 b4 _ => ?_)
      rw [om_id]
      exact K_put b4 (by rw [List.length_append, List.length_singleton]; omega)
    have s72 : ∀ (M3 : Mem) (B3 : List Int32), FB K M3 → BufK M3 B3 → B3.length + 3 ≤ 60000 → PK (f_K_told_72 (nI k) M3) M3 B3 ((if 10 ≤ x then [nI (48 + x / 10 % 10)] else []) ++ ([nI (48 + x % 10)] ++ [41])) := fun M3 B3 f3 b3 g3 => by
      rw [f_K_told_72, gd_nI hk (by decide), nI_clamp (by omega), e12 M3 f3]
      by_cases h10 : 10 ≤ x
      · rw [if_neg (show ¬ nI x ≤ 9 from nI_ge (a := 9) (by omega) (by omega)), if_pos h10, gd_nI hk (by decide), show (10 : Int32) = nI 10 from rfl, pk_div (by omega) (by decide) (by decide), pk_rem (by omega) (by decide) (by decide), n48 _ (by omega)]
        refine PK_om (K_put b3 (by omega)) (fun M4 b4 f4 => ?_)
        exact s102 M4 _ (FB_t f3 f4) b4 (by rw [List.length_append, List.length_singleton]; omega)
      · rw [if_pos (show nI x ≤ 9 from nI_le (b := 9) (by omega) (by decide)), if_neg h10, List.nil_append]
        exact s102 M3 B3 f3 b3 (by omega)
    rw [gd_nI hk (by decide), e12 M2 (FB_t f1 f2)]
    by_cases h100 : 100 ≤ x
    · rw [if_neg (show ¬ nI x ≤ 99 from nI_ge (a := 99) (by omega) (by omega)), if_pos h100, gd_nI hk (by decide), show (100 : Int32) = nI 100 from rfl, pk_div (by omega) (by decide) (by decide), n48 _ (by omega)]
      refine PK_om (K_put b2 (by simp; omega)) (fun M4 b4 f4 => ?_)
      exact s72 M4 _ (FB_t f1 (FB_t f2 f4)) b4 (by simp; omega)
    · rw [if_pos (show nI x ≤ 99 from nI_le (b := 99) (by omega) (by decide)), if_neg h100, List.nil_append]
      exact s72 M2 _ (FB_t f1 f2) b2 (by simp; omega)
def nodeL (v : Nat → Nat) (M : Mem) (k : Nat) : List Int32 := if M 3 k = 4 then joinL v (M 4 k) else leafL v M k
theorem nodeL_keep {v : Nat → Nat} {M M' : Mem} {k : Nat} (h : ∀ q, 3 ≤ q → q ≤ 8 → M' q k = M q k) : nodeL v M' k = nodeL v M k := by
  rw [nodeL, nodeL, leafL, leafL, h 3 (by omega) (by omega), h 4 (by omega) (by omega), h 5 (by omega) (by omega), h 6 (by omega) (by omega), h 7 (by omega) (by omega), h 8 (by omega) (by omega)]
theorem nodeL_v {n k : Nat} {v v' : Nat → Nat} {M K : Mem} (hn : n ≤ 5) (h : NR n v M K k) (hv : ∀ i, i < n → v' i = v i) : nodeL v' M k = nodeL v M k := by
  rw [nodeL, nodeL, joinL_v h hv]
  obtain ⟨d, d4, hd, -, -, -, h9⟩ := h
  by_cases h4 : M 3 k = 4
  · rw [if_pos h4, if_pos h4]
  · rw [if_neg h4, if_neg h4, leafL, leafL]
    have hd4 : d < 4 := by
      have : d ≠ 4 := fun e => h4 (by rw [hd, e]; rfl)
      omega
    obtain ⟨-, -, a, s, ha, hs, e1, e2, e3, e4, -, g11⟩ := h9 hd4
    rw [e1, nI_clamp (by omega), hv a ha, hd]
    have c0 : nI d = 0 ↔ d = 0 := nI_eq0 (by omega)
    have c1 : nI d = 1 ↔ d = 1 := nI_eq (b := 1) (by omega) (by decide)
    have c2 : nI d = 2 ↔ d = 2 := nI_eq (b := 2) (by omega) (by decide)
    by_cases h13 : d = 1 ∨ d = 3
    · obtain ⟨a2, s2, f1, f2, f3, f4, f5, f6, f7, f8⟩ := g11 h13
      rw [f4, nI_clamp (by omega), hv a2 f1]
    · by_cases d0 : d = 0
      · rw [if_pos (c0.mpr d0), if_pos (c0.mpr d0)]
      · have d2 : d = 2 := by omega
        rw [if_neg (fun e => d0 (c0.mp e)), if_neg (fun e => d0 (c0.mp e)), if_neg (fun e => h13 (Or.inl (c1.mp e))), if_neg (fun e => h13 (Or.inl (c1.mp e))), if_pos (c2.mpr d2), if_pos (c2.mpr d2)]
theorem leafL_len {n N k d : Nat} {v : Nat → Nat} {M K : Mem} (h : RF n N v M K) (hk : k < N) (hd : M 3 k = nI d) (hd4 : d < 4) : (leafL v M k).length ≤ 29 := by
  obtain ⟨h1, h2, h3, h4, h5, h6, h7, h8⟩ := id h
  obtain ⟨d', g1, g2, g3, -, -, g9⟩ := h8 k hk
  have hdd : d' = d := (nI_eq (by omega) (by omega)).mp (g2.symm.trans hd)
  subst hdd
  obtain ⟨-, -, a, s, ha, hs, e1, e2, e3, e4, -, g11⟩ := g9 hd4
  obtain ⟨va, va2, -⟩ := h7 a ha
  have s16 := pow16 va hs
  have m0 := setL_len (ver := v a) (a := a) s16
  have m1 := tx_len 14 (by decide)
  have m2 := tx_len 15 (by decide)
  have m3 := tx_len 16 (by decide)
  have m4 := tx_len 17 (by decide)
  have c0 : nI d' = 0 ↔ d' = 0 := nI_eq0 (by omega)
  have c1 : nI d' = 1 ↔ d' = 1 := nI_eq (b := 1) (by omega) (by decide)
  have c2 : nI d' = 2 ↔ d' = 2 := nI_eq (b := 2) (by omega) (by decide)
  rw [leafL, e1, e3, nI_clamp (by omega), nI_clamp (by omega), g2, List.length_append]
  by_cases h13 : d' = 1 ∨ d' = 3
  · obtain ⟨a2, s2, k1, k2, k3, k4, k5, k6, k7, -⟩ := g11 h13
    obtain ⟨vb, -, -⟩ := h7 a2 k1
    have s216 := pow16 vb k3
    have m5 := setL_len (ver := v a2) (a := a2) s216
    rw [k4, k6, nI_clamp (by omega), nI_clamp (by omega)]
    repeat' split
    all_goals first | omega | (simp only [List.length_append]; omega)
  · by_cases d0 : d' = 0
    · rw [if_pos (c0.mpr d0)]; omega
    · rw [if_neg (fun e => d0 (c0.mp e)), if_neg (fun e => h13 (Or.inl (c1.mp e))), if_pos (c2.mpr (by omega))]; omega
theorem kind_of {n N k : Nat} {v : Nat → Nat} {M K : Mem} (h : RF n N v M K) (hk : k < N) : (M 3 k = 4 ∧ K 2 k = 4) ∨ ∃ d, d < 4 ∧ M 3 k = nI d ∧ K 2 k = nI d ∧ M 3 k ≠ 4 ∧ K 2 k ≠ 4 := by
  obtain ⟨d, g1, g2, g3, -⟩ := h.2.2.2.2.2.2.2 k hk
  by_cases h4 : d = 4
  · subst h4; exact Or.inl ⟨g2, g3⟩
  · have : nI d ≠ 4 := fun e => h4 ((nI_eq (b := 4) (by omega) (by decide)).mp e)
    exact Or.inr ⟨d, by omega, g2, g3, by rw [g2]; exact this, by rw [g3]; exact this⟩
theorem nodeL_len {n N k : Nat} {v : Nat → Nat} {M K : Mem} (h : RF n N v M K) (hk : k < N) : (nodeL v M k).length ≤ 68 := by
  rw [nodeL]
  rcases kind_of h hk with ⟨e, -⟩ | ⟨d, d4, e, -, ne, -⟩
  · rw [if_pos e]; exact joinL_len h hk
  · rw [if_neg ne]; have := leafL_len h hk e d4; omega
theorem F_isJoin {n N k : Nat} {v : Nat → Nat} {M K : Mem} (h : RF n N v M K) (hk : k < N) : f_F_isJoin (nI k) M = some (bi (decide (M 3 k = 4)), M) := by
  rw [f_F_isJoin, F_hasNode_t h.2.1 h.2.2.2.2.1 hk, ob_s, if_neg (by decide), gd_nI (by have := h.2.1; omega) (by decide), nI_clamp (by have := h.2.1; omega)]
  by_cases h4 : M 3 k = 4
  · rw [if_pos h4, decide_eq_true h4]; rfl
  · rw [if_neg h4, decide_eq_false h4]; rfl
theorem RF_C {n N : Nat} {v : Nat → Nat} {M K M' : Mem} (h : RF n N v M K) (f : FC M M') : RF n N v M' K := RF_keep h (fun q _ _ => f.1 q (by omega) (by omega)) (fun _ _ _ => rfl) rfl rfl
theorem RF_B {n N : Nat} {v : Nat → Nat} {M K K' : Mem} (h : RF n N v M K) (f : FB K K') : RF n N v M K' := RF_keep h (fun _ _ _ => rfl) (fun q _ _ => f.1 q (by omega) (by omega)) (f.2 2 (by decide)) (f.2 3 (by decide))
theorem nodeL_C {v : Nat → Nat} {M M' : Mem} {k : Nat} (f : FC M M') : nodeL v M' k = nodeL v M k := nodeL_keep (fun q _ _ => by rw [f.1 q (by omega) (by omega)])
theorem P_tellNode {n N k : Nat} {v : Nat → Nat} {M K : Mem} {B : List Int32} (h : RF n N v M K) (hk : k < N) (hb : BufC M B) (hB : B.length + 79 ≤ 256) : PC (f_P_tellNode (nI k) M) M B (nodeL v M k) := by
  rw [f_P_tellNode, F_isJoin h hk, ob_s, nodeL]
  rcases kind_of h hk with ⟨e, -⟩ | ⟨d, d4, e, -, ne, -⟩
  · rw [decide_eq_true e, if_neg (by decide), if_pos e, om_id]
    have := joinL_len h hk
    exact P_tellJoin h hk hb (by omega)
  · rw [decide_eq_false ne, if_pos (show bi false = 0 from rfl), if_neg ne, om_id]
    exact P_tellLeaf h hk e d4 hb (by omega)
theorem K_told {n N k x : Nat} {v : Nat → Nat} {M K : Mem} {B : List Int32} (h : RF n N v M K) (hk : k < N) (hx : K 12 k = nI x) (hx3 : x < 1000) (hb : BufK K B) (hB : B.length + 900 ≤ 60000) : PK (f_K_told (nI k) K) K B (nodeL v M k ++ numL x) := by
  have hN := h.2.1
  have hl := nodeL_len h hk
  rw [f_K_told, gd_nI (by omega) (by decide), nI_clamp (by omega)]
  rw [nodeL] at hl ⊢
  rcases kind_of h hk with ⟨e, e'⟩ | ⟨d, d4, e, -, ne, ne'⟩
  · rw [if_pos e] at hl ⊢
    rw [if_pos e']
    refine PK_om (K_joinWords h hk hb (by omega)) (fun M1 b1 f1 => ?_)
    exact K_told23 (by omega) (by rw [f1.1 12 (by decide) (by decide)]; exact hx) hx3 b1 (by rw [List.length_append]; omega)
  · rw [if_neg ne] at hl ⊢
    rw [if_neg ne']
    refine PK_om (K_leafWords h hk e d4 hb (by omega)) (fun M1 b1 f1 => ?_)
    exact K_told23 (by omega) (by rw [f1.1 12 (by decide) (by decide)]; exact hx) hx3 b1 (by rw [List.length_append]; omega)
