/-! PURE: the words of a set -/
def cRun (x4 x5 : Int32) : Nat → Nat → Int32 → List Int32
  | 0, _, _ => []
  | c + 1, b, sep => if x4 &&& ((1 : Int32) <<< (nI b &&& 31)) = 0 then (if x5 &&& ((1 : Int32) <<< (nI b &&& 31)) = 0 then cRun x4 x5 c (b + 1) sep else [45] ++ ([nI (48 + b)] ++ cRun x4 x5 c (b + 1) sep)) else [sep] ++ ([nI (48 + b)] ++ cRun x4 x5 c (b + 1) 44)
def cR (y : Int32) : List Int32 := cRun (y &&& ((y <<< ((1 : Int32) &&& 31)) ^^^ (-1 : Int32))) (y &&& ((y >>> ((1 : Int32) &&& 31)) ^^^ (-1 : Int32))) 4 0 32
theorem dig10 : ∀ b, b < 10 → vp_nar .char ((((48 : Int32) + (nI b - nI b / (10 : Int32) * (10 : Int32))).toUInt32 % 65536).toInt32) = nI (48 + b) ∧ vp_nar .char (nI (48 + b)) = nI (48 + b) := by decide +kernel
theorem P_digit {b : Nat} (hb : b < 10) (M : Mem) : f_P_digit (nI b) M = some (nI (48 + b), M) := by
  rw [f_P_digit, (dig10 b hb).1]
theorem P_set62 {x4 x5 : Int32} : ∀ (c b m : Nat) (sep : Int32) (M : Mem) (B : List Int32), b + c = 4 → c < m → BufC M B → B.length + 2 * c ≤ 256 → vp_nar .char sep = sep → PC (f_P_tellSet_62 m x4 x5 sep (nI b) M) M B (cRun x4 x5 c b sep) := by
  intro c
  induction c with
  | zero =>
    intro b m sep M B hb hm h _ _
    obtain ⟨m, rfl⟩ : ∃ m', m = m' + 1 := ⟨m - 1, by omega⟩
    have : b = 4 := by omega
    subst this
    rw [f_P_tellSet_62, if_pos (by decide)]
    exact PC_nil h
  | succ c ih =>
    intro b m sep M B hb hm h hB hs
    obtain ⟨m, rfl⟩ : ∃ m', m = m' + 1 := ⟨m - 1, by omega⟩
    rw [f_P_tellSet_62, if_neg (show ¬ (4 : Int32) ≤ nI b from nI_ge (b := 4) (by omega) (by decide)), nI_1, cRun]
    have dg := dig10 b (by omega)
    have two : ∀ (y sep' : Int32), vp_nar .char y = y → vp_nar .char sep' = sep' → PC (om (f_P_putC y M) fun M85 => ob (f_P_digit (nI b) M85) fun r91 M91 => om (f_P_putC r91 M91) fun M94 => (f_P_tellSet_62 m) x4 x5 sep' (nI (b + 1)) M94) M B ([y] ++ ([nI (48 + b)] ++ cRun x4 x5 c (b + 1) sep')) := fun y sep' hy hs' => by
      refine PC_om (P_putC h (by omega) hy) (fun M1 h1 _ => ?_)
      rw [P_digit (by omega), ob_s]
      refine PC_om (P_putC h1 (by simp; omega) dg.2) (fun M2 h2 _ => ih (b + 1) m sep' M2 _ (by omega) (by omega) h2 (by simp; omega) hs')
    by_cases h4 : x4 &&& ((1 : Int32) <<< (nI b &&& 31)) = 0
    · rw [if_pos h4, if_pos h4]
      by_cases h5 : x5 &&& ((1 : Int32) <<< (nI b &&& 31)) = 0
      · rw [if_pos h5, if_pos h5]
        exact ih (b + 1) m sep M B (by omega) (by omega) h (by omega) hs
      · rw [if_neg h5, if_neg h5]
        exact two 45 sep (by decide) hs
    · rw [if_neg h4, if_neg h4]
      exact two sep 44 hs (by decide)
def setL (ver a s : Nat) : List Int32 := (if s = 0 then tx 6 else []) ++ ([nI (97 + a)] ++ (if s = 0 ∨ s = 2 ^ ver - 1 then [] else cR (nI s)))
theorem cR_0 : cR 0 = [] := by decide +kernel
theorem cR_len : ∀ s, s < 16 → (cR (nI s)).length ≤ 6 := by decide +kernel
theorem let5 : ∀ a, a < 5 → ((((97 : Int32) + nI a).toUInt32 % 65536).toInt32) = nI (97 + a) ∧ vp_nar .char (nI (97 + a)) = nI (97 + a) ∧ (97 : Int32) + nI a = nI (97 + a) := by decide +kernel
theorem setL_len {ver a s : Nat} (hs : s < 16) : (setL ver a s).length ≤ 7 := by
  have h1 := cR_len s hs
  have h2 : (tx 6).length = 3 := by decide +kernel
  unfold setL
  by_cases h0 : s = 0
  · rw [if_pos h0, if_pos (Or.inl h0)]
    simp [h2]
  · rw [if_neg h0]
    split <;> simp <;> omega
def kEnd (x2 : Int32) : Nat → Nat → Nat
  | 0, e => e
  | c + 1, e => if ((x2 >>> (nI (e + 1) &&& 31)) &&& 1) = 1 then kEnd x2 c (e + 1) else e
def kRun (x2 : Int32) : Nat → Nat → Bool → List Int32
  | 0, _, _ => []
  | c + 1, b, f => if ((x2 >>> (nI b &&& 31)) &&& 1) = 0 then kRun x2 c (b + 1) f else
    if b ≠ 0 ∧ ((x2 >>> (nI (b - 1) &&& 31)) &&& 1) = 1 then kRun x2 c (b + 1) f else
    (if f then [44] else []) ++ ([nI (48 + b)] ++ ((if kEnd x2 (3 - b) b = b then [] else [45] ++ [nI (48 + kEnd x2 (3 - b) b)]) ++ kRun x2 c (b + 1) true))
theorem run_eq : ∀ ver, ver < 5 → ∀ s, s < 16 → (s < 2 ^ ver ∧ s ≠ 0 ∧ s ≠ 2 ^ ver - 1) → [32] ++ kRun (nI s) ver 0 false = cR (nI s) := by decide +kernel
theorem kEnd_le {x2 : Int32} : ∀ c e, kEnd x2 c e ≤ e + c ∧ e ≤ kEnd x2 c e := by
  intro c
  induction c with
  | zero => intro e; exact ⟨Nat.le_refl _, Nat.le_refl _⟩
  | succ c ih =>
    intro e
    rw [kEnd]
    have := ih (e + 1)
    split <;> omega
theorem bit4 : ∀ s, s < 16 → ¬ ((nI s >>> (nI 4 &&& 31)) &&& 1) = 1 := by decide +kernel
theorem K_words93 {k49 : Int32 → Int32 → Int32 → Int32 → Mem → Option Mem} {s b : Nat} {x1 x3 : Int32} {K : Mem} (hs : s < 16) : ∀ (c e m : Nat), e + c = 3 → c < m → f_K_words_93 k49 m x1 (nI s) x3 (nI b) (nI e) K = if x3 = 0 then f_K_words_121 k49 x1 (nI s) (nI b) (nI (kEnd (nI s) c e)) K else om (f_K_put (44 : Int32) K) fun M118 => f_K_words_121 k49 x1 (nI s) (nI b) (nI (kEnd (nI s) c e)) M118 := by
  intro c
  induction c with
  | zero =>
    intro e m he hm
    obtain ⟨m, rfl⟩ : ∃ m', m = m' + 1 := ⟨m - 1, by omega⟩
    have : e = 3 := by omega
    subst this
    rw [f_K_words_93, nI_1, if_neg (bit4 s hs), kEnd]
  | succ c ih =>
    intro e m he hm
    obtain ⟨m, rfl⟩ : ∃ m', m = m' + 1 := ⟨m - 1, by omega⟩
    rw [f_K_words_93, nI_1, kEnd]
    by_cases hb : ((nI s >>> (nI (e + 1) &&& 31)) &&& 1) = 1
    · rw [if_pos hb, if_pos hb]
      exact ih (e + 1) m (by omega) (by omega)
    · rw [if_neg hb, if_neg hb]
theorem n48 : ∀ b, b < 10 → (48 : Int32) + nI b = nI (48 + b) := by decide +kernel
theorem K_words49 {s a ver : Nat} (hs : s < 16) (ha : a < 5) (hver : ver ≤ 4) : ∀ (c b m : Nat) (f : Bool) (K : Mem) (B : List Int32), b + c = ver → c < m → K 1 a = nI ver → BufK K B → B.length + 4 * c ≤ 60000 → PK (f_K_words_49 m (nI a) (nI s) (bi f) (nI b) K) K B (kRun (nI s) c b f) := by
  intro c
  induction c with
  | zero =>
    intro b m f K B hb hm hK h _
    obtain ⟨m, rfl⟩ : ∃ m', m = m' + 1 := ⟨m - 1, by omega⟩
    rw [f_K_words_49, gd_nI ha (by decide), nI_clamp (by omega), hK, if_pos (nI_le (by omega) (by omega))]
    exact PK_nil h
  | succ c ih =>
    intro b m f K B hb hm hK h hB
    obtain ⟨m, rfl⟩ : ∃ m', m = m' + 1 := ⟨m - 1, by omega⟩
    rw [f_K_words_49, gd_nI ha (by decide), nI_clamp (by omega), hK, if_neg (nI_ge (by omega) (by omega)), nI_1, kRun]
    have w121 : ∀ (K1 : Mem) (B1 : List Int32), K1 1 a = nI ver → BufK K1 B1 → B1.length + 3 + 4 * c ≤ 60000 → PK (f_K_words_121 (f_K_words_49 m) (nI a) (nI s) (nI b) (nI (kEnd (nI s) (3 - b) b)) K1) K1 B1 ([nI (48 + b)] ++ ((if kEnd (nI s) (3 - b) b = b then [] else [45] ++ [nI (48 + kEnd (nI s) (3 - b) b)]) ++ kRun (nI s) c (b + 1) true)) := fun K1 B1 g1 g2 g3 => by
      have he := (kEnd_le (x2 := nI s) (3 - b) b).1
      rw [f_K_words_121, n48 b (by omega), n48 _ (by omega), nI_1]
      refine PK_om (K_put g2 (by omega)) (fun M1 h1 f1 => ?_)
      by_cases hk : kEnd (nI s) (3 - b) b = b
      · rw [if_pos (by rw [hk]), if_pos hk]
        exact ih (b + 1) m true M1 _ (by omega) (by omega) (by rw [f1.1 1 (by decide) (by decide)]; exact g1) h1 (by simp; omega)
      · rw [if_neg (fun e => hk ((nI_eq (by omega) (by omega)).mp e)), if_neg hk, List.append_assoc]
        refine PK_om (K_put h1 (by simp; omega)) (fun M2 h2 f2 => PK_om (K_put h2 (by simp; omega)) (fun M3 h3 f3 => ?_))
        exact ih (b + 1) m true M3 _ (by omega) (by omega) (by rw [f3.1 1 (by decide) (by decide), f2.1 1 (by decide) (by decide), f1.1 1 (by decide) (by decide)]; exact g1) h3 (by simp; omega)
    have go : PK (f_K_words_93 (f_K_words_49 m) 100000 (nI a) (nI s) (bi f) (nI b) (nI b) K) K B ((if f then [44] else []) ++ ([nI (48 + b)] ++ ((if kEnd (nI s) (3 - b) b = b then [] else [45] ++ [nI (48 + kEnd (nI s) (3 - b) b)]) ++ kRun (nI s) c (b + 1) true))) := by
      rw [K_words93 hs (3 - b) b 100000 (by omega) (by omega)]
      cases f
      · rw [if_pos (show bi false = 0 from rfl)]
        exact w121 K B hK h (by omega)
      · rw [if_neg (show ¬ bi true = 0 by decide), if_pos rfl]
        refine PK_om (K_put h (by omega)) (fun M1 h1 f1 => w121 M1 _ (by rw [f1.1 1 (by decide) (by decide)]; exact hK) h1 (by simp; omega))
    by_cases h0 : ((nI s >>> (nI b &&& 31)) &&& 1) = 0
    · rw [if_pos h0, if_pos h0]
      exact ih (b + 1) m f K B (by omega) (by omega) hK h (by omega)
    · rw [if_neg h0, if_neg h0]
      by_cases hb0 : b = 0
      · subst hb0
        rw [if_pos (show nI 0 ≤ (0 : Int32) by decide), if_neg (fun e => e.1 rfl)]
        exact go
      · rw [if_neg (show ¬ nI b ≤ (0 : Int32) from nI_ge (b := b) (a := 0) (by omega) (by omega)), dv_s hb0]
        by_cases h1 : ((nI s >>> (nI (b - 1) &&& 31)) &&& 1) = 1
        · rw [if_pos h1, if_pos ⟨hb0, h1⟩]
          exact ih (b + 1) m f K B (by omega) (by omega) hK h (by omega)
        · rw [if_neg h1, if_neg (fun e => h1 e.2)]
          exact go
theorem pow16 {ver s : Nat} (hv : ver ≤ 4) (hs : s < 2 ^ ver) : s < 16 := by
  have : 2 ^ ver ≤ 2 ^ 4 := Nat.pow_le_pow_right (by decide) hv
  omega
/-- the class tells a set -/
theorem P_tellSet {n a ver s : Nat} {M : Mem} {B : List Int32} (hn : n ≤ 5) (h1 : M 1 1 = nI n) (ha : a < n) (hver : ver ≤ 4) (hv : M 2 a = nI ver) (hs : s < 2 ^ ver) (h : BufC M B) (hB : B.length + 12 ≤ 256) : PC (f_P_tellSet (nI a) (nI s) M) M B (setL ver a s) := by
  have hs16 := pow16 hver hs
  have t10 : ∀ (M1 : Mem) (B1 : List Int32), FC M M1 → BufC M1 B1 → B1.length + 9 ≤ 256 → PC (f_P_tellSet_10 (nI a) (nI s) M1) M1 B1 ([nI (97 + a)] ++ (if s = 0 ∨ s = 2 ^ ver - 1 then [] else cR (nI s))) := fun M1 B1 g1 g2 g3 => by
    obtain ⟨l1, l2, l3⟩ := let5 a (by omega)
    rw [f_P_tellSet_10, l1]
    refine PC_om (P_putC g2 (by omega) l2) (fun M2 h2 f2 => ?_)
    rw [F_allVersions hn (by rw [f2.1 1 (by decide) (by decide), g1.1 1 (by decide) (by decide)]; exact h1) ha hver (by rw [f2.1 2 (by decide) (by decide), g1.1 2 (by decide) (by decide)]; exact hv), ob_s]
    have t36 : ∀ y : Int32, PC (f_P_tellSet_36 y M2) M2 (B1 ++ [nI (97 + a)]) (cR y) := fun y => P_set62 4 0 100000 32 M2 _ (by omega) (by omega) h2 (by simp; omega) (by decide)
    have hp : 2 ^ ver ≤ 2 ^ 4 := Nat.pow_le_pow_right (by decide) hver
    by_cases hf : s = 2 ^ ver - 1
    · rw [if_pos (by rw [hf]), if_pos (Or.inr hf), ← cR_0]
      exact t36 0
    · rw [if_neg (fun e => hf ((nI_eq (by omega) (by omega)).mp e))]
      by_cases h0 : s = 0
      · rw [if_pos (Or.inl h0), h0, ← cR_0]
        exact t36 0
      · rw [if_neg (fun e => e.elim h0 hf)]
        exact t36 (nI s)
  rw [f_P_tellSet, setL]
  by_cases h0 : s = 0
  · rw [if_pos ((nI_eq0 (by omega)).mpr h0), if_pos h0]
    have h3 : (tx 6).length = 3 := by decide +kernel
    exact PC_om (P_putS h (by decide) (by omega)) (fun M1 h1 f1 => t10 M1 _ f1 h1 (by simp; omega))
  · rw [if_neg (fun e => h0 ((nI_eq0 (by omega)).mp e)), if_neg h0]
    exact t10 M B (FC_r M) h (by omega)
/-- the reference tells a set -/
theorem K_words {a ver s : Nat} {K : Mem} {B : List Int32} (ha : a < 5) (hver : ver ≤ 4) (hv : K 1 a = nI ver) (hs : s < 2 ^ ver) (h : BufK K B) (hB : B.length + 30 ≤ 60000) : PK (f_K_words (nI a) (nI s) K) K B (setL ver a s) := by
  have hs16 := pow16 hver hs
  have hp : 2 ^ ver ≤ 2 ^ 4 := Nat.pow_le_pow_right (by decide) hver
  have t11 : ∀ (M1 : Mem) (B1 : List Int32), FB K M1 → BufK M1 B1 → B1.length + 22 ≤ 60000 → PK (f_K_words_11 (nI a) (nI s) M1) M1 B1 ([nI (97 + a)] ++ (if s = 0 ∨ s = 2 ^ ver - 1 then [] else cR (nI s))) := fun M1 B1 g1 g2 g3 => by
    obtain ⟨l1, l2, l3⟩ := let5 a (by omega)
    rw [f_K_words_11, l3]
    refine PK_om (K_put g2 (by omega)) (fun M2 h2 f2 => ?_)
    have hv2 : M2 1 a = nI ver := by rw [f2.1 1 (by decide) (by decide), g1.1 1 (by decide) (by decide)]; exact hv
    by_cases h0 : s = 0
    · rw [if_pos ((nI_eq0 (by omega)).mpr h0), if_pos (Or.inl h0)]
      exact PK_nil h2
    · rw [if_neg (fun e => h0 ((nI_eq0 (by omega)).mp e)), gd_nI ha (by decide), nI_clamp (by omega), hv2, av_eq ver hver]
      by_cases hf : s = 2 ^ ver - 1
      · rw [if_pos (by rw [hf]), if_pos (Or.inr hf)]
        exact PK_nil h2
      · rw [if_neg (fun e => hf ((nI_eq (by omega) (by omega)).mp e)), if_neg (fun e => e.elim h0 hf), ← run_eq ver (by omega) s hs16 ⟨hs, h0, hf⟩]
        refine PK_om (K_put h2 (by simp; omega)) (fun M3 h3 f3 => ?_)
        exact K_words49 hs16 ha hver ver 0 100000 false M3 _ (by omega) (by omega) (by rw [f3.1 1 (by decide) (by decide)]; exact hv2) h3 (by simp; omega)
  rw [f_K_words, setL]
  by_cases h0 : s = 0
  · rw [if_pos ((nI_eq0 (by omega)).mpr h0), if_pos h0, ← say_no]
    have h3 : (sayB 7237408).length = 3 := by decide +kernel
    exact PK_om (K_say h (by omega)) (fun M1 h1 f1 => t11 M1 _ f1 h1 (by simp; omega))
  · rw [if_neg (fun e => h0 ((nI_eq0 (by omega)).mp e)), if_neg h0]
    exact t11 K B (FB_r K) h (by omega)
