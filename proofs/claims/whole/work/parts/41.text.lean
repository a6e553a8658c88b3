/-! PURE: texts -/
def tx (i : Nat) : List Int32 := bytS.getD i []
/-- what the class has put, what the reference has put -/
def BufC (M : Mem) (B : List Int32) : Prop := M 23 3 = nI B.length ∧ ∀ j, j < B.length → M 24 j = B.getD j 0
def FC (M M' : Mem) : Prop := (∀ q, q ≠ 23 → q ≠ 24 → M' q = M q) ∧ ∀ j, j ≠ 3 → M' 23 j = M 23 j
def PC (o : Option Mem) (M : Mem) (B L : List Int32) : Prop := ∃ M', o = some M' ∧ BufC M' (B ++ L) ∧ FC M M'
def BufK (M : Mem) (B : List Int32) : Prop := M 0 16 = nI B.length ∧ ∀ j, j < B.length → M 9 j = B.getD j 0
def FB (M M' : Mem) : Prop := (∀ q, q ≠ 0 → q ≠ 9 → M' q = M q) ∧ ∀ j, j ≠ 16 → M' 0 j = M 0 j
def PK (o : Option Mem) (M : Mem) (B L : List Int32) : Prop := ∃ M', o = some M' ∧ BufK M' (B ++ L) ∧ FB M M'
theorem FC_r (M : Mem) : FC M M := ⟨fun _ _ _ => rfl, fun _ _ => rfl⟩
theorem FB_r (M : Mem) : FB M M := ⟨fun _ _ _ => rfl, fun _ _ => rfl⟩
theorem FC_t {M M1 M2 : Mem} (h : FC M M1) (h2 : FC M1 M2) : FC M M2 := ⟨fun q a b => by rw [h2.1 q a b, h.1 q a b], fun j a => by rw [h2.2 j a, h.2 j a]⟩
theorem FB_t {M M1 M2 : Mem} (h : FB M M1) (h2 : FB M1 M2) : FB M M2 := ⟨fun q a b => by rw [h2.1 q a b, h.1 q a b], fun j a => by rw [h2.2 j a, h.2 j a]⟩
theorem PC_nil {M : Mem} {B : List Int32} (h : BufC M B) : PC (some M) M B [] := ⟨M, rfl, by rw [List.append_nil]; exact h, FC_r M⟩
theorem PK_nil {M : Mem} {B : List Int32} (h : BufK M B) : PK (some M) M B [] := ⟨M, rfl, by rw [List.append_nil]; exact h, FB_r M⟩
/-- one after the other -/
theorem PC_om {o : Option Mem} {k : Mem → Option Mem} {M : Mem} {B L1 L2 : List Int32} (h : PC o M B L1) (h2 : ∀ M1, BufC M1 (B ++ L1) → FC M M1 → PC (k M1) M1 (B ++ L1) L2) : PC (om o k) M B (L1 ++ L2) := by
  obtain ⟨M1, rfl, a, b⟩ := h
  obtain ⟨M2, c, d, e⟩ := h2 M1 a b
  exact ⟨M2, by rw [om_s, c], by rw [← List.append_assoc]; exact d, FC_t b e⟩
theorem PK_om {o : Option Mem} {k : Mem → Option Mem} {M : Mem} {B L1 L2 : List Int32} (h : PK o M B L1) (h2 : ∀ M1, BufK M1 (B ++ L1) → FB M M1 → PK (k M1) M1 (B ++ L1) L2) : PK (om o k) M B (L1 ++ L2) := by
  obtain ⟨M1, rfl, a, b⟩ := h
  obtain ⟨M2, c, d, e⟩ := h2 M1 a b
  exact ⟨M2, by rw [om_s, c], by rw [← List.append_assoc]; exact d, FB_t b e⟩
theorem getD_snoc (B : List Int32) (x : Int32) (j : Nat) (hj : j < (B ++ [x]).length) : (B ++ [x]).getD j 0 = if j = B.length then x else B.getD j 0 := by
  rw [List.length_append] at hj
  simp only [List.getD_eq_getElem?_getD]
  by_cases h : j = B.length
  · subst h
    rw [if_pos rfl, List.getElem?_append_right (Nat.le_refl _)]
    simp
  · rw [if_neg h, List.getElem?_append_left (by simp at hj; omega)]
theorem P_putC {M : Mem} {B : List Int32} {x : Int32} (h : BufC M B) (hB : B.length < 256) (hx : vp_nar .char x = x) : PC (f_P_putC x M) M B [x] := by
  obtain ⟨h1, h2⟩ := h
  rw [f_P_putC, h1, if_neg (show ¬ (256 : Int32) ≤ nI B.length from nI_ge (b := 256) hB (by decide)), gd_nI hB (by decide), nI_clamp (by omega), hx, ms_q (show 23 ≠ 24 by decide), h1, nI_1]
  refine ⟨_, rfl, ⟨by rw [ms_s, List.length_append]; rfl, fun j hj => ?_⟩, ⟨fun q a b => by rw [ms_q a, ms_q b], fun j hj => by rw [ms_i hj, ms_q (by decide)]⟩⟩
  rw [getD_snoc B x j hj, ms_q (by decide)]
  rw [List.length_append] at hj
  by_cases hjB : j = B.length
  · subst hjB; rw [if_pos rfl, ms_s]
  · rw [if_neg hjB, ms_i hjB]
    exact h2 j (by simp at hj; omega)
theorem K_put {M : Mem} {B : List Int32} {x : Int32} (h : BufK M B) (hB : B.length < 60000) : PK (f_K_put x M) M B [x] := by
  obtain ⟨h1, h2⟩ := h
  rw [f_K_put, h1, gd_nI hB (by decide), nI_clamp (by omega), ms_q (show 0 ≠ 9 by decide), h1, nI_1]
  refine ⟨_, rfl, ⟨by rw [ms_s, List.length_append]; rfl, fun j hj => ?_⟩, ⟨fun q a b => by rw [ms_q a, ms_q b], fun j hj => by rw [ms_i hj, ms_q (by decide)]⟩⟩
  rw [getD_snoc B x j hj, ms_q (by decide)]
  rw [List.length_append] at hj
  by_cases hjB : j = B.length
  · subst hjB; rw [if_pos rfl, ms_s]
  · rw [if_neg hjB, ms_i hjB]
    exact h2 j (by simp at hj; omega)
theorem tx_char : ∀ b ∈ bytS.flatten, vp_nar .char b = b := by decide +kernel
theorem P_putS {i : Nat} {M : Mem} {B : List Int32} (h : BufC M B) (hi : i < 20) (hB : B.length + (tx i).length ≤ 256) : PC (f_P_putS i M) M B (tx i) := by
  have hl : slen i = (tx i).length := slen_len i hi
  have loop : ∀ (c j m : Nat) (M1 : Mem) (B1 : List Int32), j + c = (tx i).length → c < m → BufC M1 B1 → B1.length + c ≤ 256 → PC (f_P_putS_2 m i (nI j) M1) M1 B1 ((tx i).drop j) := by
    intro c
    induction c with
    | zero =>
      intro j m M1 B1 hj hm hb _
      obtain ⟨m, rfl⟩ : ∃ m', m = m' + 1 := ⟨m - 1, by omega⟩
      rw [f_P_putS_2, gd_t (decide_eq_true hi), hl, if_pos (nI_le (by omega) (by omega)), List.drop_of_length_le (by omega)]
      exact PC_nil hb
    | succ c ih =>
      intro j m M1 B1 hj hm hb hB1
      obtain ⟨m, rfl⟩ : ∃ m', m = m' + 1 := ⟨m - 1, by omega⟩
      have hjl : j < (tx i).length := by omega
      have hs : sch i j = (tx i)[j] := by
        unfold sch
        rw [show bytS.getD i [] = tx i from rfl, List.getD_eq_getElem?_getD, List.getElem?_eq_getElem hjl]; rfl
      rw [f_P_putS_2, gd_t (decide_eq_true hi), hl, if_neg (nI_ge (by omega) (by omega)), gd_t (decide_eq_true hi), gd_nI (by omega) (by omega), nI_clamp (by omega), nI_1, List.drop_eq_getElem_cons hjl, ← hs]
      refine PC_om (L1 := [sch i j]) (P_putC hb (by omega) (tx_char _ (sch_mem hi (by omega)))) (fun M2 h2 _ => ih (j + 1) m M2 _ (by omega) (by omega) h2 ?_)
      rw [List.length_append]
      simp
      omega
  have := loop (tx i).length 0 100000 M B (by omega) (by omega) h hB
  exact this
/-- a packed word's letters -/
def shn : Nat → Int32
  | 0 => -8
  | k + 1 => nI (8 * k)
def byt (c : Int64) (s : Int32) : Int64 := ((c.toUInt64 >>> (s.toInt64.toUInt64 &&& Int64.toUInt64 63)).toInt64) &&& (255 : Int64)
def sayN (c : Int64) : Nat → List Int32
  | 0 => []
  | k + 1 => if lg_cmp (byt c (shn (k + 1))) 0 = 0 then sayN c k else (byt c (shn (k + 1))).toInt32 :: sayN c k
def sayB (c : Int64) : List Int32 := sayN c 8
theorem shn_8 : ∀ k, k < 8 → shn (k + 1) + (-8) = shn k ∧ ¬ shn (k + 1) < 0 := by decide
theorem K_say {c : Int64} {K : Mem} {B : List Int32} (h : BufK K B) (hB : B.length + 8 ≤ 60000) : PK (f_K_say c K) K B (sayB c) := by
  have loop : ∀ (k m : Nat) (K1 : Mem) (B1 : List Int32), k ≤ 8 → k < m → BufK K1 B1 → B1.length + k ≤ 60000 → PK (f_K_say_3 m c (shn k) K1) K1 B1 (sayN c k) := by
    intro k
    induction k with
    | zero =>
      intro m K1 B1 _ hm hb _
      obtain ⟨m, rfl⟩ : ∃ m', m = m' + 1 := ⟨m - 1, by omega⟩
      rw [f_K_say_3, if_pos (by decide)]
      exact PK_nil hb
    | succ k ih =>
      intro m K1 B1 hk hm hb hB1
      obtain ⟨m, rfl⟩ : ∃ m', m = m' + 1 := ⟨m - 1, by omega⟩
      obtain ⟨s1, s2⟩ := shn_8 k (by omega)
      rw [f_K_say_3, if_neg s2, s1, sayN]
      show PK (if lg_cmp (byt c (shn (k + 1))) 0 = 0 then _ else om (f_K_put ((byt c (shn (k + 1))).toInt32) K1) _) _ _ _
      by_cases hz : lg_cmp (byt c (shn (k + 1))) 0 = 0
      · rw [if_pos hz, if_pos hz]
        exact ih m K1 B1 (by omega) (by omega) hb (by omega)
      · rw [if_neg hz, if_neg hz]
        refine PK_om (L1 := [(byt c (shn (k + 1))).toInt32]) (K_put hb (by omega)) (fun M2 h2 _ => ih m M2 _ (by omega) (by omega) h2 ?_)
        rw [List.length_append]
        simp
        omega
  exact loop 8 100000 K B (by omega) (by omega) h hB
theorem say_no : sayB 7237408 = tx 6 := by decide +kernel
theorem say_asked : sayB 2335524464679414629 ++ sayB 430040313714 = tx 14 := by decide +kernel
theorem say_needs : sayB 9128581026575136 = tx 15 := by decide +kernel
theorem say_drawn : sayB 2335524465047860328 ++ sayB 431415719790 = tx 16 := by decide +kernel
theorem say_excl : sayB 2334404350278198373 ++ sayB 29472 = tx 17 := by decide +kernel
theorem say_or : sayB 544174624 = tx 10 := by decide +kernel
theorem say_and : sayB 139073578016 = tx 5 := by decide +kernel
theorem say_left : sayB 7957707058381219616 ++ sayB 29681455649351284 = tx 4 := by decide +kernel
theorem say_must : sayB 2336652920405123685 = tx 11 := by decide +kernel
theorem say_cant : sayB 9116469365797920 ++ sayB 25189 = tx 7 := by decide +kernel
theorem say_both : sayB 9116469365797920 ++ (sayB 422776694816 ++ sayB 25189) = tx 8 := by decide +kernel
theorem say_all : sayB 9116469365797920 ++ (sayB 1634495520 ++ sayB 25189) = tx 9 := by decide +kernel
theorem say_mean : sayB 139274314094 ++ [32] = tx 13 := by decide +kernel
theorem say_means : sayB 139274314094 ++ ([115] ++ [32]) = tx 12 := by decide +kernel
theorem say_because : sayB 4784339449384494368 = tx 0 := by decide +kernel
theorem say_andb : sayB 4714815950156030817 ++ sayB 1970496800 = tx 1 := by decide +kernel
theorem say_thus : sayB 92807623814176 = tx 2 := by decide +kernel
theorem tx_len : ∀ i, i < 20 → (tx i).length ≤ 15 := by decide +kernel
