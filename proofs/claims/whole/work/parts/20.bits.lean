/-! PURE: memory, numbers, bits -/
theorem ms_s (M : Mem) (q i : Nat) (x : Int32) : ms M q i x q i = x := by simp [ms, upd]
theorem ms_q {M : Mem} {q i : Nat} {x : Int32} {q2 : Nat} (h : q2 ≠ q) : ms M q i x q2 = M q2 := by simp [ms, h]
theorem ms_i {M : Mem} {q i : Nat} {x : Int32} {i2 : Nat} (h : i2 ≠ i) : ms M q i x q i2 = M q i2 := by simp [ms, upd, h]
theorem ms_qi {M : Mem} {q i : Nat} {x : Int32} (q2 i2 : Nat) : ms M q i x q2 i2 = if q2 = q ∧ i2 = i then x else M q2 i2 := by
  by_cases h : q2 = q
  · subst h
    by_cases h2 : i2 = i
    · subst h2; simp [ms, upd]
    · simp [ms, upd, h2]
  · simp [ms, h]
theorem mf_q {M : Mem} {q n : Nat} {x : Int32} {q2 : Nat} (h : q2 ≠ q) : mf M q n x q2 = M q2 := by simp [mf, h]
theorem mf_in {M : Mem} {q n : Nat} {x : Int32} {j : Nat} (h : j < n) : mf M q n x q j = x := by simp [mf, h]
theorem mf_qi {M : Mem} {q n : Nat} {x : Int32} (q2 i2 : Nat) : mf M q n x q2 i2 = if q2 = q ∧ i2 < n then x else M q2 i2 := by
  by_cases h : q2 = q
  · subst h
    by_cases h2 : i2 < n
    · simp [mf, h2]
    · simp [mf, h2]
  · simp [mf, h]
theorem inb_nI {k n : Nat} (h : k < n) (hn : n < 2 ^ 31) : inb (nI k) n = true := decide_eq_true (vp_in_nI h hn)
theorem gd_t {α : Type} {b : Bool} {o : Option α} (h : b = true) : gd b o = o := by rw [gd, if_pos h]
theorem gd_nI {α : Type} {k n : Nat} {o : Option α} (h : k < n) (hn : n < 2 ^ 31) : gd (inb (nI k) n) o = o := gd_t (inb_nI h hn)
theorem ob_s {α β : Type} {r : α} {M : Mem} {k : α → Mem → Option β} : ob (some (r, M)) k = k r M := rfl
theorem om_s {β : Type} {M : Mem} {k : Mem → Option β} : om (some M) k = k M := rfl
theorem nI_lt0 {k : Nat} (h : k < 2 ^ 31) : ¬ nI k < 0 := nI_pos h
theorem nI_eq0 {k : Nat} (h : k < 2 ^ 31) : nI k = 0 ↔ k = 0 := nI_eq (b := 0) h (by decide)
/-- any int: negative, or a number -/
theorem i_cases (x : Int32) : x < 0 ∨ ∃ j : Nat, j < 2 ^ 31 ∧ x = nI j := by
  by_cases h : x < 0
  · exact Or.inl h
  · exact Or.inr (nI_of h)
def ib (x : Int32) (j : Nat) : Bool := x.toBitVec.getLsbD j
theorem ib_ext {x y : Int32} (h : ∀ j, j < 32 → ib x j = ib y j) : x = y := by
  apply Int32.toBitVec_inj.mp
  apply BitVec.eq_of_getLsbD_eq
  intro i hi
  exact h i hi
theorem ib_hi {x : Int32} {j : Nat} (h : 32 ≤ j) : ib x j = false := BitVec.getLsbD_of_ge _ _ h
theorem ib_and (x y : Int32) (j : Nat) : ib (x &&& y) j = (ib x j && ib y j) := by
  simp [ib, Int32.toBitVec_and]
theorem ib_or (x y : Int32) (j : Nat) : ib (x ||| y) j = (ib x j || ib y j) := by
  simp [ib, Int32.toBitVec_or]
theorem ib_xor (x y : Int32) (j : Nat) : ib (x ^^^ y) j = (ib x j ^^ ib y j) := by
  simp [ib, Int32.toBitVec_xor]
theorem ib_m1 {j : Nat} (h : j < 32) : ib (-1) j = true := by
  have : ∀ j, j < 32 → ib (-1) j = true := by decide
  exact this j h
theorem ib_not {x : Int32} {j : Nat} (h : j < 32) : ib (x ^^^ (-1)) j = !(ib x j) := by
  rw [ib_xor, ib_m1 h]; cases ib x j <;> rfl
theorem ib_31 {j : Nat} : ib 31 j = decide (j < 5) := by
  by_cases h : j < 32
  · have : ∀ j, j < 32 → ib 31 j = decide (j < 5) := by decide
    exact this j h
  · rw [ib_hi (by omega)]; simp; omega
theorem ib_all {j : Nat} : ib 33554431 j = decide (j < 25) := by
  by_cases h : j < 32
  · have : ∀ j, j < 32 → ib 33554431 j = decide (j < 25) := by decide
    exact this j h
  · rw [ib_hi (by omega)]; simp; omega
theorem ib_0 (j : Nat) : ib 0 j = false := by
  by_cases h : j < 32
  · have : ∀ j, j < 32 → ib 0 j = false := by decide
    exact this j h
  · exact ib_hi (by omega)
theorem ib_16 (j : Nat) : ib 16 j = decide (j = 4) := by
  by_cases h : j < 32
  · have : ∀ j, j < 32 → ib 16 j = decide (j = 4) := by decide
    exact this j h
  · rw [ib_hi (by omega)]; simp; omega
theorem ib_1 (j : Nat) : ib 1 j = decide (j = 0) := by
  by_cases h : j < 32
  · have : ∀ j, j < 32 → ib 1 j = decide (j = 0) := by decide
    exact this j h
  · rw [ib_hi (by omega)]; simp; omega
/-- a shift's amount -/
theorem sh_amt : ∀ k, k < 32 → ((nI k &&& 31).toBitVec.smod 32).toNat = k := by decide
theorem ib_shl {x : Int32} {k j : Nat} (hk : k < 32) : ib (x <<< (nI k &&& 31)) j = (decide (j < 32) && !decide (j < k) && ib x (j - k)) := by
  have h := sh_amt k hk
  unfold ib
  rw [show (x <<< (nI k &&& 31)).toBitVec = x.toBitVec <<< ((nI k &&& 31).toBitVec.smod 32).toNat from rfl, h]
  exact BitVec.getLsbD_shiftLeft x.toBitVec k
theorem ib_shr {x : Int32} {k j : Nat} (hk : k < 32) (hx : ib x 31 = false) : ib (x >>> (nI k &&& 31)) j = ib x (k + j) := by
  have h := sh_amt k hk
  have hm : x.toBitVec.msb = false := by rw [BitVec.msb_eq_getLsbD_last]; exact hx
  unfold ib
  rw [show (x >>> (nI k &&& 31)).toBitVec = x.toBitVec.sshiftRight ((nI k &&& 31).toBitVec.smod 32).toNat from rfl, h, BitVec.getLsbD_sshiftRight, hm]
  by_cases h1 : 32 ≤ j
  · rw [BitVec.getLsbD_of_ge x.toBitVec (k + j) (by omega)]
    simp [h1]
  · by_cases h2 : k + j < 32
    · simp [h1, h2]
    · rw [BitVec.getLsbD_of_ge x.toBitVec (k + j) (by omega)]
      simp [h2]
