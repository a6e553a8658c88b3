/-! PURE: sentence, letter, line, numbered -/
theorem allT_pre {v num : Nat → Nat} {M : Mem} {B : List WRec} : ∀ (A : List WRec), ∃ X, allT v M num (A ++ B) = allT v M num B ++ X := by
  intro A
  induction A with
  | nil => exact ⟨[], by rw [List.append_nil]; rfl⟩
  | cons a A ih =>
    obtain ⟨X, e⟩ := ih
    refine ⟨X ++ textL v M num a.1 a.2.1 a.2.2.1 a.2.2.2.1, ?_⟩
    show allT v M num (A ++ B) ++ textL v M num a.1 a.2.1 a.2.2.1 a.2.2.2.1 = _
    rw [e, List.append_assoc]
theorem getD_mid (A T X : List Int32) {i : Nat} (h : i < T.length) : (A ++ T ++ X).getD (A.length + i) 0 = T.getD i 0 := by
  simp only [List.getD_eq_getElem?_getD]
  rw [List.getElem?_append_left (by rw [List.length_append]; omega), List.getElem?_append_right (by omega), show A.length + i - A.length = i by omega]
theorem RecR_get {v num : Nat → Nat} {M0 M K : Mem} : ∀ (rs : List WRec), RecR v M0 num M K rs → K 10 rs.length = nI (allT v M0 num rs).length → ∀ j, j < rs.length → ∃ A c B, rs = A ++ c :: B ∧ B.length = j ∧ (M 14 j = nI c.1 ∧ M 15 j = onI c.2.1 ∧ M 16 j = onI c.2.2.1 ∧ M 17 j = nI c.2.2.2.1 ∧ M 18 j = nI c.2.2.2.2 ∧ K 11 j = nI c.2.2.2.2 ∧ K 10 j = nI (allT v M0 num B).length) ∧ K 10 (j + 1) = nI ((allT v M0 num B).length + (textL v M0 num c.1 c.2.1 c.2.2.1 c.2.2.2.1).length) := by
  intro rs
  induction rs with
  | nil => intro _ _ j hj; exact absurd hj (Nat.not_lt_zero j)
  | cons c rs ih =>
    intro h hl j hj
    obtain ⟨hc, h8⟩ := h
    by_cases hjl : j = rs.length
    · subst hjl
      refine ⟨[], c, rs, rfl, rfl, hc, ?_⟩
      have hl' : K 10 (rs.length + 1) = nI (allT v M0 num rs ++ textL v M0 num c.1 c.2.1 c.2.2.1 c.2.2.2.1).length := hl
      rw [hl', List.length_append]
    · rw [List.length_cons] at hj
      obtain ⟨A, d, B, e, a1, a2, a3⟩ := ih h8 hc.2.2.2.2.2.2 j (by omega)
      exact ⟨c :: A, d, B, by rw [e]; rfl, a1, a2, a3⟩
theorem allT_lenB {n N : Nat} {v num : Nat → Nat} {M K : Mem} (h : RF n N v M K) : ∀ (rs : List WRec), (∀ c ∈ rs, RecB N c) → (allT v M num rs).length ≤ 240 * rs.length := by
  intro rs
  induction rs with
  | nil => intro _; exact Nat.le_refl 0
  | cons c rs ih =>
    intro hV
    obtain ⟨a1, a2, a3, a4⟩ := hV c List.mem_cons_self
    have t := textL_len (num := num) h a1 a2 a3 a4
    have i := ih (fun d hd => hV d (List.mem_cons_of_mem _ hd))
    rw [allT, List.length_append, List.length_cons]
    omega
/-- what the class has shown last -/
def SP (v : Nat → Nat) (M : Mem) (num : Nat → Nat) (rs : List WRec) : Prop := M 23 4 = -1 ∨ ∃ A c B, rs = A ++ c :: B ∧ M 23 4 = nI B.length ∧ BufC M (textL v M num c.1 c.2.1 c.2.2.1 c.2.2.2.1)
theorem both_show {n N : Nat} {v num : Nat → Nat} {M K : Mem} {rs : List WRec} (h : RF n N v M K) (hw : WD N v M K num rs) (hp : SP v M num rs) (x : Int32) : ((x < 0 ∨ nI rs.length ≤ x) ∧ f_P_show x M = some (0, M)) ∨ ∃ j A c B M', x = nI j ∧ rs = A ++ c :: B ∧ B.length = j ∧ f_P_show x M = some (1, M') ∧ BufC M' (textL v M num c.1 c.2.1 c.2.2.1 c.2.2.2.1) ∧ M' 23 4 = nI j ∧ (∀ q, q ≠ 23 → q ≠ 24 → M' q = M q) ∧ K 10 j = nI (allT v M num B).length ∧ K 10 (j + 1) = nI ((allT v M num B).length + (textL v M num c.1 c.2.1 c.2.2.1 c.2.2.2.1).length) := by
  obtain ⟨w1, ⟨w2, w3, w4⟩, w5, w6, w7, w8⟩ := id hw
  rcases nm_cases x w4 with ⟨j, hj, rfl⟩ | ⟨hx, -⟩
  · obtain ⟨A, c, B, e, e2, ⟨a1, a2, a3, a4, a5, a6, a7⟩, a8⟩ := RecR_get rs w6 w7 j hj
    obtain ⟨b1, b2, b3, b4⟩ := w8 c (by rw [e]; exact List.mem_append_right A List.mem_cons_self)
    by_cases hs : M 23 4 = nI j
    · refine Or.inr ⟨j, A, c, B, M, rfl, e, e2, ?_, ?_, hs, fun _ _ _ => rfl, a7, a8⟩
      · rw [f_P_show, W_has w4 w2 hj, ob_s, if_neg (by decide), if_pos hs.symm]
      · rcases hp with hp | ⟨A', c', B', p1, p2, p3⟩
        · rw [hs] at hp; exact absurd hp (nI_m1 (by omega))
        · have hlen : rs.length = A'.length + (B'.length + 1) := by rw [p1, List.length_append, List.length_cons]
          have hbl : B'.length = j := (nI_eq (by omega) (by omega)).mp (p2.symm.trans hs)
          have hap : A ++ c :: B = A' ++ c' :: B' := by rw [← e, p1]
          obtain ⟨-, hcb⟩ := List.append_inj' hap (by rw [List.length_cons, List.length_cons, e2, hbl])
          injection hcb with hc _
          rw [hc]; exact p3
    · obtain ⟨M', s1, s2, s3, s4⟩ := P_show (K := K) (num := num) h (fun k hk => ⟨(w1 k (by have := h.2.1; omega)).1, (w1 k (by have := h.2.1; omega)).2.2⟩) w4 w2 hj hs b1 b2 b3 b4 a1 a2 a3 a4
      exact Or.inr ⟨j, A, c, B, M', rfl, e, e2, s1, s2, s3, s4, a7, a8⟩
  · exact Or.inl ⟨hx, by rw [f_P_show, W_has0 w2 hx, ob_s, if_pos rfl]⟩
theorem K_isSent {S j : Nat} {K : Mem} (hS : S ≤ 120) (h17 : K 0 17 = nI S) (hj : j < S) : f_K_isSentence (nI j) (ms K 0 0 0) = some (1, ms K 0 0 0) := by
  rw [f_K_isSentence, if_neg (nI_pos (by omega)), ms_i (by decide), h17, if_neg (nI_ge hj (by omega))]
theorem K_isSent0 {S : Nat} {x : Int32} {K : Mem} (h17 : K 0 17 = nI S) (hx : x < 0 ∨ nI S ≤ x) : f_K_isSentence x (ms K 0 0 0) = some (0, ms K 0 0 0) := by
  rw [f_K_isSentence, ms_i (by decide), h17]
  by_cases h : x < 0
  · rw [if_pos h]
  · rw [if_neg h, if_pos (hx.resolve_left h)]
/-- how reading leaves the class -/
def Shown (v num : Nat → Nat) (rs : List WRec) (M M' : Mem) : Prop := (∀ q, q ≠ 23 → q ≠ 24 → M' q = M q) ∧ SP v M' num rs
theorem shown_of {N : Nat} {v num : Nat → Nat} {M M' : Mem} {rs A B : List WRec} {c : WRec} (hB : ∀ c ∈ rs, RecB N c) (e : rs = A ++ c :: B) (hb : BufC M' (textL v M num c.1 c.2.1 c.2.2.1 c.2.2.2.1)) (h4 : M' 23 4 = nI B.length) (hq : ∀ q, q ≠ 23 → q ≠ 24 → M' q = M q) : Shown v num rs M M' := by
  obtain ⟨-, b2, b3, b4⟩ := hB c (by rw [e]; exact List.mem_append_right A List.mem_cons_self)
  refine ⟨hq, Or.inr ⟨A, c, B, e, h4, ?_⟩⟩
  rw [textL_keep (v := v) (v' := v) (M := M) (M' := M') (N := N) (fun k _ => nodeL_keep (fun q h1 h2 => by rw [hq q (by omega) (by omega)])) b2 b3 b4]
  exact hb
theorem st_sentence {n N : Nat} {v num : Nat → Nat} {M K : Mem} {rs : List WRec} (h : RF n N v M K) (hw : WD N v M K num rs) (hp : SP v M num rs) (x : Int32) : ∃ (r : Int32) (M' : Mem), f_N_sentence x M = some (r, M') ∧ f_K_sentence x K = some (r, ms K 0 0 0) ∧ Shown v num rs M M' := by
  obtain ⟨w1, ⟨w2, w3, w4⟩, w5, w6, w7, w8⟩ := id hw
  rcases both_show h hw hp x with ⟨hx, e⟩ | ⟨j, A, c, B, M', rfl, e1, e2, e3, e4, e5, e6, e7, e8⟩
  · exact ⟨-1, M, by rw [f_N_sentence, e, ob_s, if_pos rfl], by rw [f_K_sentence, K_isSent0 w3 hx, ob_s, if_pos rfl], fun _ _ _ => rfl, hp⟩
  · have hl : rs.length = A.length + (B.length + 1) := by rw [e1, List.length_append, List.length_cons]
    refine ⟨nI (textL v M num c.1 c.2.1 c.2.2.1 c.2.2.2.1).length, M', ?_, ?_, shown_of w8 e1 e4 (by rw [e5, e2]) e6⟩
    · rw [f_N_sentence, e3, ob_s, if_neg (by decide), f_P_countSigns, ob_s, e4.1]
    · rw [f_K_sentence, K_isSent w4 w3 (by omega), ob_s, if_neg (by decide), nI_1, gd_nI (by omega) (by decide), gd_nI (by omega) (by decide), nI_clamp (by omega), nI_clamp (by omega), ms_q (by decide), e7, e8, pk_sub (by omega), Nat.add_sub_cancel_left]
theorem st_letter {n N : Nat} {v num : Nat → Nat} {M K : Mem} {rs : List WRec} (h : RF n N v M K) (hw : WD N v M K num rs) (hp : SP v M num rs) (x y : Int32) : ∃ (r : Int32) (M' : Mem), f_N_letter x y M = some (r, M') ∧ f_K_letter x y K = some (r, ms K 0 0 0) ∧ Shown v num rs M M' := by
  obtain ⟨w1, ⟨w2, w3, w4⟩, w5, w6, w7, w8⟩ := id hw
  rcases both_show h hw hp x with ⟨hx, e⟩ | ⟨j, A, c, B, M', rfl, e1, e2, e3, e4, e5, e6, e7, e8⟩
  · exact ⟨-1, M, by rw [f_N_letter, e, ob_s, if_pos rfl], by rw [f_K_letter, K_isSent0 w3 hx, ob_s, if_pos rfl], fun _ _ _ => rfl, hp⟩
  · have hl : rs.length = A.length + (B.length + 1) := by rw [e1, List.length_append, List.length_cons]
    obtain ⟨b1, b2, b3, b4⟩ := w8 c (by rw [e1]; exact List.mem_append_right A List.mem_cons_self)
    have tl := textL_len (num := num) h b1 b2 b3 b4
    have al := allT_lenB (num := num) h rs w8
    obtain ⟨X, hX⟩ := allT_pre (v := v) (num := num) (M := M) (B := c :: B) A
    rw [← e1] at hX
    have hXl : (allT v M num B).length + (textL v M num c.1 c.2.1 c.2.2.1 c.2.2.2.1).length ≤ (allT v M num rs).length := by
      rw [hX]
      show _ ≤ (allT v M num B ++ textL v M num c.1 c.2.1 c.2.2.1 c.2.2.2.1 ++ X).length
      rw [List.length_append, List.length_append]; omega
    have hN1 : f_N_letter (nI j) y M = ob (f_P_signAt y M') fun r16 M16 => some (r16, M16) := by rw [f_N_letter, e3, ob_s, if_neg (by decide)]
    have hK1 : f_K_letter (nI j) y K = if y < 0 then some ((-1 : Int32), ms K 0 0 0) else if y < nI (textL v M num c.1 c.2.1 c.2.2.1 c.2.2.2.1).length then gd (inb (nI (allT v M num B).length + y) 60000) (some (K 9 (nI (allT v M num B).length + y).toNatClampNeg, ms K 0 0 0)) else some ((-1 : Int32), ms K 0 0 0) := by
      rw [f_K_letter, K_isSent w4 w3 (by omega), ob_s, if_neg (by decide), nI_1, gd_nI (by omega) (by decide), gd_nI (by omega) (by decide), nI_clamp (by omega), nI_clamp (by omega), ms_q (by decide), ms_q (show 9 ≠ 0 by decide), e7, e8, pk_sub (by omega), Nat.add_sub_cancel_left, gd_nI (by omega) (by decide)]
    rw [hN1, hK1, f_P_signAt, e4.1]
    rcases pk_ix y (n := (textL v M num c.1 c.2.1 c.2.2.1 c.2.2.2.1).length) (by omega) with hy | hy | ⟨i, hi, rfl⟩
    · exact ⟨-1, M', by rw [if_pos hy, ob_s], by rw [if_pos hy], shown_of w8 e1 e4 (by rw [e5, e2]) e6⟩
    · have hy0 : ¬ y < 0 := fun e => by
        obtain a | ⟨i, hi, rfl⟩ := i_cases y
        · have := Int32.le_iff_toInt_le.mp hy
          have b := Int32.lt_iff_toInt_lt.mp e
          rw [nI_toInt (by omega)] at this
          have z : (0 : Int32).toInt = 0 := by decide
          omega
        · exact nI_pos hi e
      have hy1 : ¬ y < nI (textL v M num c.1 c.2.1 c.2.2.1 c.2.2.2.1).length := fun e => by
        have := Int32.le_iff_toInt_le.mp hy
        have b := Int32.lt_iff_toInt_lt.mp e
        omega
      exact ⟨-1, M', by rw [if_neg hy0, if_pos hy, ob_s], by rw [if_neg hy0, if_neg hy1], shown_of w8 e1 e4 (by rw [e5, e2]) e6⟩
    · refine ⟨(textL v M num c.1 c.2.1 c.2.2.1 c.2.2.2.1).getD i 0, M', ?_, ?_, shown_of w8 e1 e4 (by rw [e5, e2]) e6⟩
      · rw [if_neg (nI_pos (by omega)), if_neg (nI_ge hi (by omega)), gd_nI (by omega) (by decide), ob_s, nI_clamp (by omega), e4.2 i hi]
      · rw [if_neg (nI_pos (by omega)), if_pos (nI_lt hi (by omega)), nI_add, gd_nI (by omega) (by decide), nI_clamp (by omega), w5 _ (by omega), hX]
        have := getD_mid (allT v M num B) (textL v M num c.1 c.2.1 c.2.2.1 c.2.2.2.1) X hi
        rw [show allT v M num (c :: B) = allT v M num B ++ textL v M num c.1 c.2.1 c.2.2.1 c.2.2.2.1 from rfl, this]
theorem st_line {n N : Nat} {v num : Nat → Nat} {M K : Mem} {rs : List WRec} (_h : RF n N v M K) (hw : WD N v M K num rs) (x : Int32) : ∃ r : Int32, f_N_line x M = some (r, M) ∧ f_K_line x K = some (r, ms K 0 0 0) := by
  obtain ⟨w1, ⟨w2, w3, w4⟩, w5, w6, w7, w8⟩ := id hw
  rcases nm_cases x w4 with ⟨j, hj, rfl⟩ | ⟨hx, -⟩
  · obtain ⟨A, c, B, e, e2, ⟨a1, a2, a3, a4, a5, a6, a7⟩, a8⟩ := RecR_get rs w6 w7 j hj
    refine ⟨nI c.2.2.2.2, ?_, ?_⟩
    · rw [f_N_line, (W_rec w4 w2 hj).2.2.2.2, ob_s, a5]
    · rw [f_K_line, K_isSent w4 w3 hj, ob_s, if_neg (by decide), gd_nI (by omega) (by decide), nI_clamp (by omega), ms_q (by decide), a6]
  · refine ⟨0, ?_, ?_⟩
    · rw [f_N_line, f_W_numberOfSentence, W_has0 w2 hx, ob_s, if_pos rfl, ob_s]
    · rw [f_K_line, K_isSent0 w3 hx, ob_s, if_pos rfl]
theorem st_numbered {n N : Nat} {v num : Nat → Nat} {M K : Mem} {rs : List WRec} (h : RF n N v M K) (hw : WD N v M K num rs) (x : Int32) : ∃ r : Int32, f_N_numbered x M = some (r, M) ∧ f_K_numbered x K = some (r, ms K 0 0 0) := by
  obtain ⟨w1, -⟩ := id hw
  have hN := h.2.1
  have hk3 : ms K 0 0 (0 : Int32) 0 3 = nI N := by rw [ms_i (by decide)]; exact h.2.2.2.2.2.1
  rcases nm_cases x hN with ⟨j, hj, rfl⟩ | ⟨hx, -⟩
  · obtain ⟨a1, a2, -⟩ := w1 j (by omega)
    refine ⟨nI (num j), ?_, ?_⟩
    · rw [f_N_numbered, f_W_numberOfNode, F_hasNode_t hN h.2.2.2.2.1 hj, ob_s, if_neg (by decide), gd_nI (by omega) (by decide), nI_clamp (by omega), a1, ob_s]
    · rw [f_K_numbered, K_isNode_t hN hk3 hj, ob_s, if_neg (by decide), gd_nI (by omega) (by decide), nI_clamp (by omega), ms_q (by decide), a2]
  · refine ⟨0, ?_, ?_⟩
    · rw [f_N_numbered, f_W_numberOfNode, F_hasNode_f h.2.2.2.2.1 hx, ob_s, if_pos rfl, ob_s]
    · rw [f_K_numbered, K_isNode_f hk3 hx, ob_s, if_pos rfl]
