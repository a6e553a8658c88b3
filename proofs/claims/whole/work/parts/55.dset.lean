/-! PURE: which joins were opened -/
def setD (D : Nat → Bool) (y : Nat) : Nat → Bool := fun k => decide (k = y) || D k
theorem setD_s (D : Nat → Bool) (y : Nat) : setD D y y = true := by rw [setD, decide_eq_true rfl]; rfl
theorem setD_o {D : Nat → Bool} {y k : Nat} (h : k ≠ y) : setD D y k = D k := by rw [setD, decide_eq_false h, Bool.false_or]
theorem setD_m {D : Nat → Bool} {y k : Nat} (h : D k = true) : setD D y k = true := by rw [setD, h, Bool.or_true]
theorem setD_or {D : Nat → Bool} {y k : Nat} (h : setD D y k = true) : k = y ∨ D k = true := by
  by_cases hk : k = y
  · exact Or.inl hk
  · rw [setD_o hk] at h; exact Or.inr h
theorem cnt_setD {D : Nat → Bool} {y : Nat} (hD : D y = false) : ∀ (c i : Nat), i ≤ y → y < i + c → cnt (setD D y) c i = cnt D c i + 1 := by
  intro c
  induction c with
  | zero => intro i h1 h2; omega
  | succ c ih =>
    intro i h1 h2
    rw [cnt, cnt]
    by_cases hi : i = y
    · subst hi
      rw [cnt_congr (p := setD D i) (q := D) c (i + 1) (fun j a _ => setD_o (by omega)), setD_s, if_pos rfl, hD, if_neg (by decide)]
      omega
    · rw [ih (i + 1) (by omega) (by omega), setD_o hi]
      omega
def EV (M0 : Mem) (r : Nat) (us num : Nat → Nat) (D : Nat → Bool) (e : WEnt) : Prop :=
  e.1 ≤ r ∧ M0 3 e.1 = 4 ∧ (e.1 = r ∨ 0 < us e.1) ∧ num e.1 = 0 ∧
  ((e.2.1 = 0 ∧ D e.1 = false) ∨ (D e.1 = true ∧
    ((e.2.1 = 1 ∧ e.2.2 ≤ r ∧ M0 3 e.2.2 ≠ 4 ∧ M0 3 (lfp M0 e.1) ≠ 4) ∨
     (e.2.1 = 2 ∧ e.2.2 ≤ r ∧ (M0 3 e.2.2 ≠ 4 ∨ num e.2.2 ≠ 0)) ∨
     (e.2.1 = 3 ∧ (M0 3 (pa M0 e.1) = 4 ∧ M0 3 (pb M0 e.1) = 4) ∧ (e.2.2 = pa M0 e.1 ∨ e.2.2 = pb M0 e.1) ∧ (D (oth M0 e.1 e.2.2) = true → 2 ≤ us (oth M0 e.1 e.2.2))) ∨
     (e.2.1 = 4 ∧ (M0 3 (pa M0 e.1) = 4 ∧ M0 3 (pb M0 e.1) = 4) ∧ (e.2.2 = pa M0 e.1 ∨ e.2.2 = pb M0 e.1) ∧ ((isS M0 (pa M0 e.1) || isS M0 (pb M0 e.1)) = false → num e.2.2 ≠ 0)))))
def PileV (M0 : Mem) (r : Nat) (us num : Nat → Nat) (D : Nat → Bool) : List WEnt → Prop
  | [] => True
  | e :: R => EV M0 r us num D e ∧ (∀ e' ∈ R, e.1 < e'.1 ∧ e'.2.1 ≠ 0) ∧ PileV M0 r us num D R
theorem PileV_mem {M0 : Mem} {r : Nat} {us num : Nat → Nat} {D : Nat → Bool} : ∀ (R : List WEnt), PileV M0 r us num D R → ∀ e ∈ R, EV M0 r us num D e := by
  intro R
  induction R with
  | nil => intro _ e he; exact absurd he List.not_mem_nil
  | cons d R ih =>
    intro h e he
    obtain ⟨h1, -, h3⟩ := h
    rcases List.mem_cons.mp he with g | g
    · subst g; exact h1
    · exact ih h3 e g
theorem PileV_len {M0 : Mem} {r : Nat} {us num : Nat → Nat} {D : Nat → Bool} : ∀ (R : List WEnt) (e : WEnt), PileV M0 r us num D (e :: R) → R.length + e.1 ≤ r := by
  intro R
  induction R with
  | nil => intro e h; obtain ⟨h1, -, -⟩ := h; rw [List.length_nil]; have := h1.1; omega
  | cons d R ih =>
    intro e h
    obtain ⟨-, h2, h3⟩ := h
    have a := ih d h3
    have b := (h2 d List.mem_cons_self).1
    rw [List.length_cons]; omega
theorem EV_keep {M0 : Mem} {r : Nat} {us num num' : Nat → Nat} {D D' : Nat → Bool} {e : WEnt} (h : EV M0 r us num D e) (h0 : num' e.1 = 0) (hn : ∀ y, num y ≠ 0 → num' y ≠ 0) (hD : ∀ y, D y = true → D' y = true) (hs : e.2.1 ≠ 0) (h3 : e.2.1 = 3 → D' (oth M0 e.1 e.2.2) = true → 2 ≤ us (oth M0 e.1 e.2.2)) : EV M0 r us num' D' e := by
  obtain ⟨a1, a2, a3, -, a5⟩ := h
  refine ⟨a1, a2, a3, h0, ?_⟩
  rcases a5 with ⟨b1, -⟩ | ⟨b1, b2⟩
  · exact absurd b1 hs
  · refine Or.inr ⟨hD _ b1, ?_⟩
    rcases b2 with c | ⟨c1, c2, c3⟩ | ⟨c1, c2, c3, -⟩ | ⟨c1, c2, c3, c4⟩
    · exact Or.inl c
    · exact Or.inr (Or.inl ⟨c1, c2, c3.elim Or.inl (fun e => Or.inr (hn _ e))⟩)
    · exact Or.inr (Or.inr (Or.inl ⟨c1, c2, c3, h3 c1⟩))
    · exact Or.inr (Or.inr (Or.inr ⟨c1, c2, c3, fun e => hn _ (c4 e)⟩))
theorem PileV_keep {M0 : Mem} {r : Nat} {us num num' : Nat → Nat} {D D' : Nat → Bool} (hn : ∀ y, num y ≠ 0 → num' y ≠ 0) (hD : ∀ y, D y = true → D' y = true) : ∀ (R : List WEnt), PileV M0 r us num D R → (∀ e ∈ R, num' e.1 = 0) → (∀ e ∈ R, e.2.1 ≠ 0) → (∀ e ∈ R, e.2.1 = 3 → D' (oth M0 e.1 e.2.2) = true → 2 ≤ us (oth M0 e.1 e.2.2)) → PileV M0 r us num' D' R := by
  intro R
  induction R with
  | nil => intro _ _ _ _; exact True.intro
  | cons e R ih =>
    intro h h0 hs h3
    obtain ⟨a1, a2, a3⟩ := h
    exact ⟨EV_keep a1 (h0 e List.mem_cons_self) hn hD (hs e List.mem_cons_self) (h3 e List.mem_cons_self), a2, ih a3 (fun d hd => h0 d (List.mem_cons_of_mem _ hd)) (fun d hd => hs d (List.mem_cons_of_mem _ hd)) (fun d hd => h3 d (List.mem_cons_of_mem _ hd))⟩
theorem EV_3 {M0 : Mem} {r : Nat} {us num : Nat → Nat} {D : Nat → Bool} {e : WEnt} (h : EV M0 r us num D e) (h3 : e.2.1 = 3) : (e.2.2 = pa M0 e.1 ∨ e.2.2 = pb M0 e.1) ∧ (D (oth M0 e.1 e.2.2) = true → 2 ≤ us (oth M0 e.1 e.2.2)) := by
  obtain ⟨-, -, -, -, ⟨b1, -⟩ | ⟨-, ⟨c1, -⟩ | ⟨c1, -⟩ | ⟨-, -, c3, c4⟩ | ⟨c1, -⟩⟩⟩ := h
  · omega
  · omega
  · omega
  · exact ⟨c3, c4⟩
  · omega
def TopR (M0 : Mem) (r : Nat) (D : Nat → Bool) : List WEnt → Prop
  | [] => True
  | e :: R => e.2.1 = 0 → e.1 ≠ r → ∃ q, D q = true ∧ (e.1 = pa M0 q ∨ e.1 = pb M0 q) ∧ ∀ e' ∈ R, e'.1 = q → e'.2.1 = 3 → e.1 = e'.2.2
/-- facts about the opened, x apart -/
def DX (M0 : Mem) (r : Nat) (us num : Nat → Nat) (D : Nat → Bool) (x : Nat) (R : List WEnt) : Prop :=
  (∀ y, D y = true → y ≤ r ∧ M0 3 y = 4 ∧ (y = r ∨ 0 < us y)) ∧ (∀ y, D y = true → y ≠ x → (∀ e ∈ R, e.1 ≠ y) → 2 ≤ us y → num y ≠ 0) ∧ (∀ y, D y = true → y ≠ r → ∃ q, D q = true ∧ (y = pa M0 q ∨ y = pb M0 q)) ∧ PileV M0 r us num D R ∧ (∀ e ∈ R, x < e.1 ∧ e.2.1 ≠ 0) ∧ D x = true ∧ num x = 0
def DS (M0 : Mem) (r : Nat) (us num : Nat → Nat) (D : Nat → Bool) (P : List WEnt) : Prop :=
  (∀ y, D y = true → y ≤ r ∧ M0 3 y = 4 ∧ (y = r ∨ 0 < us y)) ∧ (∀ y, D y = true → (∀ e ∈ P, e.1 ≠ y) → 2 ≤ us y → num y ≠ 0) ∧ (∀ y, D y = true → y ≠ r → ∃ q, D q = true ∧ (y = pa M0 q ∨ y = pb M0 q)) ∧ PileV M0 r us num D P ∧ TopR M0 r D P
theorem oth_or (M0 : Mem) (x k : Nat) : oth M0 x k = pa M0 x ∨ oth M0 x k = pb M0 x := by
  unfold oth
  split
  · exact Or.inr rfl
  · exact Or.inl rfl
theorem oth_same {M0 : Mem} {x k : Nat} (_hk : k = pa M0 x ∨ k = pb M0 x) (h : oth M0 x k = k) : pa M0 x = pb M0 x ∧ k = pa M0 x := by
  unfold oth at h
  split at h
  · next e => exact ⟨e.trans h.symm, e.symm⟩
  · next e => exact absurd h e
/-- opened now -/
theorem DX_open {M0 : Mem} {r x k : Nat} {us num : Nat → Nat} {D : Nat → Bool} {R : List WEnt} (hF : UF M0 r us 0) (h : DS M0 r us num D ((x, 0, k) :: R)) : DX M0 r us num (setD D x) x R ∧ D x = false ∧ x ≤ r ∧ M0 3 x = 4 ∧ (x = r ∨ 0 < us x) := by
  obtain ⟨d1, d2, d3, ⟨⟨e1, e2, e3, e4, e5⟩, v2, v3⟩, d5⟩ := h
  have hx : D x = false := by
    rcases e5 with ⟨-, h⟩ | ⟨-, ⟨h, -⟩ | ⟨h, -⟩ | ⟨h, -⟩ | ⟨h, -⟩⟩
    · exact h
    · exact absurd (show (0 : Nat) = 1 from h) (by decide)
    · exact absurd (show (0 : Nat) = 2 from h) (by decide)
    · exact absurd (show (0 : Nat) = 3 from h) (by decide)
    · exact absurd (show (0 : Nat) = 4 from h) (by decide)
  refine ⟨⟨fun y hy => ?_, fun y hy hne hR h2 => ?_, fun y hy hne => ?_, ?_, v2, setD_s D x, e4⟩, hx, e1, e2, e3⟩
  · rcases setD_or hy with e | e
    · subst e; exact ⟨e1, e2, e3⟩
    · exact d1 y e
  · rcases setD_or hy with e | e
    · exact absurd e hne
    · refine d2 y e (fun d hd => ?_) h2
      rcases List.mem_cons.mp hd with g | g
      · subst g; exact fun q => hne q.symm
      · exact hR d g
  · rcases setD_or hy with e | e
    · subst e
      obtain ⟨q, q1, q2, -⟩ := d5 rfl hne
      exact ⟨q, setD_m q1, q2⟩
    · obtain ⟨q, q1, q2⟩ := d3 y e hne
      exact ⟨q, setD_m q1, q2⟩
  · refine PileV_keep (fun _ h => h) (fun _ h => setD_m h) R v3 (fun e he => (PileV_mem R v3 e he).2.2.2.1) (fun e he => (v2 e he).2) (fun e he h3 ho => ?_)
    have ev := PileV_mem R v3 e he
    obtain ⟨k1, k2⟩ := EV_3 ev h3
    rcases setD_or ho with g | g
    · have hlt := (v2 e he).1
      have p1 := ev.1
      obtain ⟨q, q1, q2, q3⟩ := d5 rfl (show x ≠ r by have : x < e.1 := hlt; omega)
      have up := hF e.1 (Nat.zero_le _) p1 ev.2.2.1 ev.2.1
      have xo : x = pa M0 e.1 ∨ x = pb M0 e.1 := by rw [← g]; exact oth_or M0 e.1 e.2.2
      rw [g]
      by_cases hq : e.1 = q
      · have hxk : x = e.2.2 := q3 e he hq h3
        obtain ⟨s1, s2⟩ := oth_same k1 (g.trans hxk)
        have := up.2.1 s1
        rw [hxk, s2]; exact this
      · obtain ⟨f1, f2, f3⟩ := d1 q q1
        exact up.2.2 q (Nat.zero_le _) f1 (fun e => hq e.symm) f3 f2 x xo q2
    · exact k2 g
/-- a join inside x is passed over -/
theorem DX_skip {M0 : Mem} {r x z : Nat} {us num : Nat → Nat} {D : Nat → Bool} {R : List WEnt} (hF : UF M0 r us 0) (h : DX M0 r us num D x R) (hz : z = pa M0 x ∨ z = pb M0 x) (hzx : z < x) (hz4 : M0 3 z = 4) (hu : us z < 2) : DX M0 r us num (setD D z) x R := by
  obtain ⟨d1, d2, d3, d4, d5, d6, d7⟩ := h
  obtain ⟨x1, x2, x3⟩ := d1 x d6
  have ux := hF x (Nat.zero_le _) x1 x3 x2
  have uz : 0 < us z := by
    rcases hz with e | e
    · rw [e]; exact ux.1.1
    · rw [e]; exact ux.1.2
  refine ⟨fun y hy => ?_, fun y hy hne hR h2 => ?_, fun y hy hne => ?_, ?_, d5, setD_m d6, d7⟩
  · rcases setD_or hy with e | e
    · subst e; exact ⟨by omega, hz4, Or.inr uz⟩
    · exact d1 y e
  · rcases setD_or hy with e | e
    · subst e; omega
    · exact d2 y e hne hR h2
  · rcases setD_or hy with e | e
    · subst e; exact ⟨x, setD_m d6, hz⟩
    · obtain ⟨q, q1, q2⟩ := d3 y e hne
      exact ⟨q, setD_m q1, q2⟩
  · refine PileV_keep (fun _ h => h) (fun _ h => setD_m h) R d4 (fun e he => (PileV_mem R d4 e he).2.2.2.1) (fun e he => (d5 e he).2) (fun e he h3 ho => ?_)
    have ev := PileV_mem R d4 e he
    obtain ⟨k1, k2⟩ := EV_3 ev h3
    rcases setD_or ho with g | g
    · have hlt := (d5 e he).1
      have up := hF e.1 (Nat.zero_le _) ev.1 ev.2.2.1 ev.2.1
      have xo : z = pa M0 e.1 ∨ z = pb M0 e.1 := by rw [← g]; exact oth_or M0 e.1 e.2.2
      rw [g]
      exact up.2.2 x (Nat.zero_le _) x1 (by omega) x3 x2 z xo hz
    · exact k2 g
/-- a part that isn't numbered wasn't opened -/
theorem DS_new {M0 : Mem} {r x k p z : Nat} {us num : Nat → Nat} {D : Nat → Bool} {R : List WEnt} (hF : UF M0 r us 0) (h : DS M0 r us num D ((x, 0, k) :: R)) (hp : p ≤ r) (hp4 : M0 3 p = 4) (hpr : p = r ∨ 0 < us p) (hpD : D p = false) (hz : z = pa M0 p ∨ z = pb M0 p) (hzp : z < p) (hpx : p ≤ x) (hz0 : num z = 0) : D z = false := by
  cases hDz : D z with
  | false => rfl
  | true =>
    obtain ⟨d1, d2, d3, ⟨-, v2, -⟩, -⟩ := h
    obtain ⟨q, q1, q2⟩ := d3 z hDz (by omega)
    have hne : q ≠ p := fun e => by
      rw [e, hpD] at q1; cases q1
    obtain ⟨f1, f2, f3⟩ := d1 q q1
    have up := hF p (Nat.zero_le _) hp hpr hp4
    have u2 := up.2.2 q (Nat.zero_le _) f1 hne f3 f2 z hz q2
    refine absurd hz0 (d2 z hDz (fun e he => ?_) u2)
    rcases List.mem_cons.mp he with g | g
    · subst g
      show x ≠ z
      omega
    · have : x < e.1 := (v2 e g).1
      omega
theorem DX_of {M0 : Mem} {r x s k : Nat} {us num : Nat → Nat} {D : Nat → Bool} {R : List WEnt} (h : DS M0 r us num D ((x, s, k) :: R)) (hs : s ≠ 0) : DX M0 r us num D x R := by
  obtain ⟨d1, d2, d3, ⟨⟨e1, e2, e3, e4, e5⟩, v2, v3⟩, -⟩ := h
  have hx : D x = true := by
    rcases e5 with ⟨g, -⟩ | ⟨g, -⟩
    · exact absurd g hs
    · exact g
  refine ⟨d1, fun y hy hne hR h2 => d2 y hy (fun e he => ?_) h2, d3, v3, v2, hx, e4⟩
  rcases List.mem_cons.mp he with g | g
  · subst g; exact fun q => hne q.symm
  · exact hR e g
theorem DX_num {M0 : Mem} {r x g z : Nat} {us num : Nat → Nat} {D : Nat → Bool} {R : List WEnt} (h : DX M0 r us num D x R) (hg : g < x) (hz : z ≠ 0) : DX M0 r us (numU num g z) D x R := by
  obtain ⟨d1, d2, d3, d4, d5, d6, d7⟩ := h
  have hm : ∀ y, num y ≠ 0 → numU num g z y ≠ 0 := fun y hy => by
    unfold numU
    split
    · exact hz
    · exact hy
  have ho : ∀ y, y ≠ g → numU num g z y = num y := fun y hy => by rw [numU, if_neg hy]
  refine ⟨d1, fun y hy hne hR h2 => hm y (d2 y hy hne hR h2), d3, PileV_keep hm (fun _ h => h) R d4 (fun e he => ?_) (fun e he => (d5 e he).2) (fun e he h3 => (EV_3 (PileV_mem R d4 e he) h3).2), d5, d6, by rw [ho x (by omega)]; exact d7⟩
  rw [ho e.1 (by have := (d5 e he).1; omega)]
  exact (PileV_mem R d4 e he).2.2.2.1
def pend : List WEnt → Nat
  | [] => 0
  | e :: R => (if e.2.1 = 0 then 0 else if e.2.1 = 3 then 2 else 1) + pend R
def ops : List WEnt → Nat
  | [] => 0
  | e :: R => (if e.2.1 = 0 then 0 else 1) + ops R
def ST (N : Nat) (v : Nat → Nat) (r : Nat) (us : Nat → Nat) (M0 K0 M K : Mem) (P : List WEnt) (num : Nat → Nat) (nn : Nat) (rs : List WRec) (D : Nat → Bool) (t : Nat) : Prop :=
  WS N v M0 K0 M K P num nn rs ∧ DS M0 r us num D P ∧ (M 11 14 = nI P.length ∧ K 0 23 = nI P.length) ∧ t + pend P ≤ 3 * cnt D 120 0 ∧ rs.length + ops P ≤ cnt D 120 0 ∧ nn ≤ 2 * t ∧ ∀ e R, P = e :: R → e.2.1 ≠ 0 → 1 ≤ rs.length
theorem ST_closed {N nn r x t : Nat} {v num us : Nat → Nat} {M0 K0 M' K' : Mem} {R : List WEnt} {rs : List WRec} {D : Nat → Bool} (hC : Closed N v us M0 K0 x R num nn rs M' K') (hD : DX M0 r us num D x R) (ht : t + 1 + pend R ≤ 3 * cnt D 120 0) (hr : rs.length + 1 + ops R ≤ cnt D 120 0) (hnn : nn ≤ 2 * t + 1) : ∃ num' nn' rs', ST N v r us M0 K0 M' K' R num' nn' rs' D (t + 1) := by
  obtain ⟨num', nn', c, w, e14, e23, n1, n2, n3⟩ := hC
  obtain ⟨d1, d2, d3, d4, d5, d6, d7⟩ := hD
  have hm : ∀ y, num y ≠ 0 → num' y ≠ 0 := fun y hy => by
    have : y ≠ x := fun e => hy (by rw [e]; exact d7)
    rw [n2 y this]; exact hy
  refine ⟨num', nn', c :: rs, w, ⟨d1, fun y hy hR h2 => ?_, d3, PileV_keep hm (fun _ h => h) R d4 (fun e he => ?_) (fun e he => (d5 e he).2) (fun e he h3 => (EV_3 (PileV_mem R d4 e he) h3).2), ?_⟩, ⟨e14, e23⟩, ht, by rw [List.length_cons]; omega, by omega, fun _ _ _ _ => by rw [List.length_cons]; omega⟩
  · by_cases hyx : y = x
    · subst hyx; exact n3 h2
    · rw [n2 y hyx]; exact d2 y hy hyx hR h2
  · rw [n2 e.1 (by have := (d5 e he).1; omega)]
    exact (PileV_mem R d4 e he).2.2.2.1
  · cases R with
    | nil => exact True.intro
    | cons d R' => exact fun h0 => absurd h0 (d5 d List.mem_cons_self).2
theorem ST_later {N nn r x s k y t : Nat} {v num us : Nat → Nat} {M0 K0 M' K' : Mem} {R : List WEnt} {rs : List WRec} {D : Nat → Bool} (hW : WS N v M0 K0 M' K' ((y, 0, 0) :: (x, s, k) :: R) num nn rs) (h14 : M' 11 14 = nI (R.length + 2)) (h23 : K' 0 23 = nI (R.length + 2)) (hD : DX M0 r us num D x R) (hE : EV M0 r us num D (x, s, k)) (hs : s ≠ 0) (hy : EV M0 r us num D (y, 0, 0)) (hyx : y < x) (hT : ∃ q, D q = true ∧ (y = pa M0 q ∨ y = pb M0 q) ∧ q ≤ x ∧ (q = x → s = 3 → y = k)) (ht : t + 1 + (if s = 3 then 2 else 1) + pend R ≤ 3 * cnt D 120 0) (hr : rs.length + 1 + ops R ≤ cnt D 120 0) (hnn : nn ≤ 2 * t + 1) : ST N v r us M0 K0 M' K' ((y, 0, 0) :: (x, s, k) :: R) num nn rs D (t + 1) := by
  obtain ⟨d1, d2, d3, d4, d5, d6, d7⟩ := hD
  refine ⟨hW, ⟨d1, fun z hz hR h2 => ?_, d3, ⟨hy, fun e he => ?_, hE, d5, d4⟩, fun _ _ => ?_⟩, ⟨h14, h23⟩, ?_, ?_, by omega, fun e R' he h0 => ?_⟩
  · exact d2 z hz (fun e => hR (x, s, k) (List.mem_cons_of_mem _ List.mem_cons_self) e.symm) (fun e he => hR e (List.mem_cons_of_mem _ (List.mem_cons_of_mem _ he))) h2
  · rcases List.mem_cons.mp he with g | g
    · subst g; exact ⟨hyx, hs⟩
    · have := (d5 e g).1
      exact ⟨Nat.lt_trans hyx this, (d5 e g).2⟩
  · obtain ⟨q, q1, q2, q3, q4⟩ := hT
    refine ⟨q, q1, q2, fun e he hq h3 => ?_⟩
    rcases List.mem_cons.mp he with g | g
    · subst g; exact q4 hq.symm h3
    · have := (d5 e g).1
      omega
  · have e : pend ((y, 0, 0) :: (x, s, k) :: R) = (if s = 3 then 2 else 1) + pend R := by
      show (if (0 : Nat) = 0 then 0 else _) + ((if s = 0 then 0 else if s = 3 then 2 else 1) + pend R) = _
      rw [if_pos rfl, if_neg hs, Nat.zero_add]
    rw [e]; omega
  · have e : ops ((y, 0, 0) :: (x, s, k) :: R) = 1 + ops R := by
      show (if (0 : Nat) = 0 then 0 else 1) + ((if s = 0 then 0 else 1) + ops R) = _
      rw [if_pos rfl, if_neg hs, Nat.zero_add]
    rw [e]; omega
  · have : e = (y, 0, 0) := by injection he with a b; exact a.symm
    subst this
    exact absurd rfl h0
