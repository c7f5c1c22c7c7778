/-! ===== numbers and sets ===== -/
theorem kI_add (a b : Int) : kI a + kI b = kI (a + b) := (Int32.ofInt_add a b).symm
theorem kI_sub (a b : Int) : kI a - kI b = kI (a - b) := (Int32.ofInt_sub a b).symm
theorem kI_mul (a b : Int) : kI a * kI b = kI (a * b) := (Int32.ofInt_mul a b).symm
theorem kI_toInt {a : Int} (h1 : -2147483648 ≤ a) (h2 : a < 2147483648) : (kI a).toInt = a := Int32.toInt_ofInt_of_le h1 h2
theorem kI_of (x : Int32) : kI x.toInt = x := Int32.ofInt_toInt x
theorem kI_lt {a b : Int} (h1 : -2147483648 ≤ a) (h2 : a < 2147483648) (h3 : -2147483648 ≤ b) (h4 : b < 2147483648) : kI a < kI b ↔ a < b := by
  rw [Int32.lt_iff_toInt_lt, kI_toInt h1 h2, kI_toInt h3 h4]
theorem kI_le {a b : Int} (h1 : -2147483648 ≤ a) (h2 : a < 2147483648) (h3 : -2147483648 ≤ b) (h4 : b < 2147483648) : kI a ≤ kI b ↔ a ≤ b := by
  rw [Int32.le_iff_toInt_le, kI_toInt h1 h2, kI_toInt h3 h4]
theorem kI_inj {a b : Int} (h1 : -2147483648 ≤ a) (h2 : a < 2147483648) (h3 : -2147483648 ≤ b) (h4 : b < 2147483648) : kI a = kI b ↔ a = b := by
  rw [← Int32.toInt_inj, kI_toInt h1 h2, kI_toInt h3 h4]
/-- of small counts -/
theorem kN_lt {a b : Nat} (h2 : a < 2147483648) (h4 : b < 2147483648) : kI (a : Int) < kI (b : Int) ↔ a < b := by
  rw [kI_lt] <;> omega
theorem kN_le {a b : Nat} (h2 : a < 2147483648) (h4 : b < 2147483648) : kI (a : Int) ≤ kI (b : Int) ↔ a ≤ b := by
  rw [kI_le] <;> omega
theorem kN_inj {a b : Nat} (h2 : a < 2147483648) (h4 : b < 2147483648) : kI (a : Int) = kI (b : Int) ↔ a = b := by
  rw [kI_inj] <;> omega
theorem kN_succ (a : Nat) : kI (a : Int) + kI 1 = kI ((a + 1 : Nat) : Int) := by rw [kI_add]; rfl
theorem kN_toInt {a : Nat} (h : a < 2147483648) : (kI (a : Int)).toInt = a := kI_toInt (by omega) (by omega)
theorem kI_zero : kI 0 = 0 := rfl
theorem kI_one : kI 1 = 1 := rfl
def bI (b : Bool) : Int32 := if b = true then 1 else 0
theorem bI_eq0 {b : Bool} : bI b = 0 ↔ b = false := by cases b <;> decide
theorem bI_ne0 {b : Bool} : ¬ bI b = 0 ↔ b = true := by cases b <;> decide
theorem nrwB (b : Bool) : nrw (some .boolean) (bI b) := by cases b <;> rfl
theorem nrwI (x : Int32) : nrw (some .int) x := rfl
/-- bits -/
def hb (x : Int32) (j : Nat) : Bool := x.toBitVec.getLsbD j
def b1 (m : Nat) : Int32 := kI ((2 ^ m : Nat) : Int)
theorem hb_and (x y : Int32) (j : Nat) : hb (x &&& y) j = (hb x j && hb y j) := by
  unfold hb
  rw [Int32.toBitVec_and, BitVec.getLsbD_and]
theorem hb_or (x y : Int32) (j : Nat) : hb (x ||| y) j = (hb x j || hb y j) := by
  unfold hb
  rw [Int32.toBitVec_or, BitVec.getLsbD_or]
theorem hb_xor (x y : Int32) (j : Nat) : hb (x ^^^ y) j = (hb x j ^^ hb y j) := by
  unfold hb
  rw [Int32.toBitVec_xor, BitVec.getLsbD_xor]
theorem hb_neg1 : ∀ j, j < 32 → hb (kI (-1)) j = true := by decide +kernel
theorem hb_ge {x : Int32} {j : Nat} (h : 32 ≤ j) : hb x j = false := BitVec.getLsbD_of_ge _ _ h
theorem hb_zero (j : Nat) : hb (kI 0) j = false := by
  show (0#32).getLsbD j = false
  simp
theorem hb_b1 : ∀ m, m < 31 → ∀ j, j < 32 → hb (b1 m) j = decide (j = m) := by decide +kernel
theorem hb_b1' {m j : Nat} (hm : m < 31) : hb (b1 m) j = decide (j = m) := by
  by_cases h : j < 32
  · exact hb_b1 m hm j h
  · rw [hb_ge (by omega)]
    simp
    omega
theorem hb_ext {x y : Int32} (h : ∀ j, j < 32 → hb x j = hb y j) : x = y := by
  apply Int32.toBitVec_inj.mp
  apply BitVec.eq_of_getLsbD_eq
  intro j hj
  exact h j hj
theorem and31 : ∀ m : Nat, m < 32 → (kI (m : Int) &&& 31 : Int32) = kI (m : Int) := by decide +kernel
theorem smod32 : ∀ m : Nat, m < 32 → (((kI (m : Int)).toBitVec).smod 32).toNat = m := by decide +kernel
theorem shl1 : ∀ m : Nat, m < 31 → (kI 1 <<< (kI (m : Int) &&& 31)) = b1 m := by decide +kernel
theorem hb_shr {x : Int32} {m : Nat} (hm : m < 32) (j : Nat) : hb (x >>> (kI (m : Int) &&& 31)) j = (decide (j < 32) && if m + j < 32 then hb x (m + j) else hb x 31) := by
  rw [and31 m hm]
  unfold hb
  rw [Int32.toBitVec_shiftRight, BitVec.sshiftRight_eq', smod32 m hm, BitVec.getLsbD_sshiftRight, BitVec.msb_eq_getLsbD_last]
  by_cases h : j < 32
  · simp [h]
  · simp [h]
theorem hb_one : ∀ j, j < 32 → hb (kI 1) j = decide (j = 0) := by decide +kernel
theorem hb_bI (b : Bool) : ∀ j, j < 32 → hb (bI b) j = (b && decide (j = 0)) := by cases b <;> decide +kernel
theorem shr_and1 {x : Int32} {m : Nat} (hm : m < 32) : (x >>> (kI (m : Int) &&& 31)) &&& kI 1 = bI (hb x m) := by
  apply hb_ext
  intro j hj
  rw [hb_and, hb_shr hm, hb_one j hj, hb_bI _ j hj]
  by_cases e : j = 0
  · subst e
    simp [hm]
  · simp [e]
/-- how many below n have p -/
def cnt (p : Nat → Bool) : Nat → Nat
  | 0 => 0
  | n + 1 => cnt p n + (if p n = true then 1 else 0)
def pc (x : Int32) : Nat := cnt (hb x) 12
theorem cnt_le (p : Nat → Bool) : ∀ n, cnt p n ≤ n
  | 0 => Nat.le_refl _
  | n + 1 => by
    have := cnt_le p n
    unfold cnt
    split <;> omega
theorem pc_le (x : Int32) : pc x ≤ 12 := cnt_le _ _
/-- a set of the first n -/
def sok (n : Nat) (s : Int32) : Prop := n ≤ 12 ∧ ∀ j, n ≤ j → hb s j = false
theorem sok.mono {n k : Nat} {s : Int32} (h : sok n s) (hk : n ≤ k) (h12 : k ≤ 12) : sok k s := ⟨h12, fun j hj => h.2 j (by omega)⟩
theorem sok_val {n : Nat} {s : Int32} (h : sok n s) : ∃ a : Nat, a < 2 ^ n ∧ s = kI (a : Int) := by
  have h1 : s.toBitVec.toNat < 2 ^ n := by
    apply Nat.lt_pow_two_of_testBit
    intro j hj
    exact h.2 j hj
  refine ⟨s.toBitVec.toNat, h1, ?_⟩
  apply Int32.toBitVec_inj.mp
  unfold kI
  rw [Int32.toBitVec_ofInt, BitVec.ofInt_natCast, BitVec.ofNat_toNat, BitVec.setWidth_eq]
theorem sok_of {n a : Nat} (hn : n ≤ 12) (ha : a < 2 ^ n) : sok n (kI (a : Int)) := by
  refine ⟨hn, fun j hj => ?_⟩
  unfold hb kI
  rw [Int32.toBitVec_ofInt, BitVec.ofInt_natCast, BitVec.getLsbD_ofNat]
  have : a.testBit j = false := Nat.testBit_lt_two_pow (Nat.lt_of_lt_of_le ha (Nat.pow_le_pow_right (by decide) hj))
  rw [this]
  simp
theorem sok12 {n : Nat} {s : Int32} (h : sok n s) : ∃ a : Nat, a < 4096 ∧ s = kI (a : Int) := by
  obtain ⟨a, h1, h2⟩ := sok_val h
  exact ⟨a, Nat.lt_of_lt_of_le h1 (Nat.pow_le_pow_right (by decide) h.1), h2⟩
