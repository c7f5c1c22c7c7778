/-! ===== questions: what was ===== -/
def cameT (V : VT) (x : Int32) : Nat := if isWkV V x = true then 0 else 1
def memT1 (V : VT) (x : Int32) : Nat := if isMemV V x = true then 0 else 1
def thoughtT (V : VT) (x d : Int32) : Nat := if isMemV V x = true then (if inV d 0 6 = true then 0 else 2) else 1
def togT (V : VT) (x y : Int32) : Nat := if isMemV V x = true ∧ isMemV V y = true then 0 else 1
def doubtT (V : VT) (x y : Int32) : Nat := if isMemV V x = true ∧ isWkV V y = true then 0 else 1
def cookT (c : Int32) : Nat := if inV c 0 3 = true then 0 else 1
def membT (V : VT) (x y : Int32) : Nat := if isMemV V x = true then (if inV y 0 6 = true then 0 else 2) else 1
def tN (x : Int32) : Nat := x.toInt.toNat
def stlN (t : Nat → Int32) : Nat → Nat
  | 0 => 0
  | d + 1 => if t d = t 6 then stlN t d else d + 1
def stlV (V : VT) : Int32 := if stlN (thoughtsV V (lastV V)) 6 = 6 then kI (-1) else kI (stlN (thoughtsV V (lastV V)) 6 : Int)
def bothV (V : VT) (a b : Nat) : Int32 := sm (fun j => bI (hb (vS V j) a && hb (vS V j) b)) (wk V)
def frS (V : VT) (a b : Nat) (st : Int32 × Int32) : Int32 × Int32 := if a < b ∧ st.2 < bothV V a b then (kI 100 * kI (a : Int) + kI (b : Int), bothV V a b) else st
def frO (V : VT) (a : Nat) (st : Int32 × Int32) : Int32 × Int32 := fo (frS V a) st (nm V)
def friendsV (V : VT) : Int32 := (fo (frO V) (kI (-1), kI 0) (nm V)).1
theorem fr_skip {V : VT} {a : Nat} {st : Int32 × Int32} : ∀ b, b ≤ a + 1 → fo (frS V a) st b = st
  | 0, _ => rfl
  | b + 1, h => by
    show frS V a b (fo (frS V a) st b) = st
    rw [fr_skip b (by omega)]
    exact if_neg (fun z => by omega)
/-- longest so far, its first week, how many in a row -/
def stkF (V : VT) (j : Nat) (st : Int32 × Int32 × Int32) : Int32 × Int32 × Int32 :=
  if st.1 < (if meetsV V (vS V j) = true then st.2.2 + kI 1 else kI 0) then ((if meetsV V (vS V j) = true then st.2.2 + kI 1 else kI 0), kI (j : Int) - (if meetsV V (vS V j) = true then st.2.2 + kI 1 else kI 0) + kI 1, (if meetsV V (vS V j) = true then st.2.2 + kI 1 else kI 0)) else (st.1, st.2.1, (if meetsV V (vS V j) = true then st.2.2 + kI 1 else kI 0))
def stk (V : VT) (n : Nat) : Int32 × Int32 × Int32 := fo (stkF V) (kI 0, kI (-1), kI 0) n
def streakV (V : VT) (what : Int32) : Int32 := if what = kI 0 then (stk V (wk V)).1 else (stk V (wk V)).2.1
/-- ways to choose -/
def bin : Nat → Nat → Nat
  | _, 0 => 1
  | 0, _ + 1 => 0
  | n + 1, k + 1 => bin n k + bin n (k + 1)
theorem bin_step : ∀ n, n < 13 → ∀ k, k ≤ n → bin n k * (n - k) / (k + 1) = bin n (k + 1) := by decide +kernel
theorem bin_step2 : ∀ n, n < 13 → ∀ s, s ≤ n → ∀ i, i < s → bin (n - s + i) i * (n - s + (i + 1)) / (i + 1) = bin (n - s + (i + 1)) (i + 1) := by decide +kernel
theorem bin_le : ∀ n, n < 13 → ∀ k, k ≤ 13 → bin n k ≤ 924 := by decide +kernel
def dbtS (V : VT) (m : Nat) (s : Int32) (k : Nat) : Int32 := if bySee V m (kI (k : Int)) = hb s m then kI (bin (pc (hatsV V s m)) k : Int) else kI 0
def doubtsV (V : VT) (m j : Nat) : Int32 := if ¬ vR V m = kI 7 ∧ ¬ vR V m = kI 8 then kI (-1) else sm (dbtS V m (vS V j)) (pc (hatsV V (vS V j) m) + 1)
def iabs (x : Int32) : Int32 := if x < 0 then -x else x
def cookSV (V : VT) (c : Int32) : Int32 := sm (fun j => iabs (kI (pc (vS V (j + 1)) : Int) - cookV V c (j + 1))) (wk V - 1)
def membS (V : VT) (m : Nat) (y : Int32) : Nat → Int32 := fun j => if y = kI 6 then payV V (vS V j) m else bI (hb (vS V j) m && (decide (y = kI 4) || meetsV V (vS V j)))
def memberV (V : VT) (m : Nat) (y : Int32) : Int32 := if y < kI 4 then V (6 + 4 * m + tN y) else sm (membS V m y) (wk V)
def countV (V : VT) (taped : Nat) (x : Int32) : Int32 := if x = kI 0 then V 0 else if x = kI 1 then V 1 else if x = kI 2 then V 2 else if x = kI 3 then V 3 else if x = kI 4 then V 4 else if x = kI 5 then V 5 else if x = kI 6 then justV V (V 1) (wk V) else if x = kI 7 then kI (taped : Int) else kI (-1)
theorem isMem_m {V : VT} {x : Int32} (h : isMemV V x = true) : x = kI (tN x : Int) ∧ tN x < nm V := by
  have h := of_decide_eq_true h
  unfold tN
  exact ⟨by rw [Int.toNat_of_nonneg h.1, kI_of], by omega⟩
theorem isWk_m {V : VT} {x : Int32} (h : isWkV V x = true) : x = kI (tN x : Int) ∧ tN x < wk V := by
  have h := of_decide_eq_true h
  unfold tN
  exact ⟨by rw [Int.toNat_of_nonneg h.1, kI_of], by omega⟩
theorem in_m {x : Int32} {b : Nat} (h : inV x 0 b = true) : x = kI (tN x : Int) ∧ tN x ≤ b := by
  have h := of_decide_eq_true h
  unfold tN
  exact ⟨by rw [Int.toNat_of_nonneg h.1, kI_of], by omega⟩
/-- which count was most often: the least of those that were most -/
theorem just_N {V : VT} {k : Int32} : ∀ u, ∃ c : Nat, c ≤ u ∧ justV V k u = kI (c : Int) ∧ c = cnt (fun j => decide (kI (pc (vS V j) : Int) = k)) u
  | 0 => ⟨0, Nat.le_refl _, rfl, rfl⟩
  | u + 1 => by
    obtain ⟨c, h1, h2, h3⟩ := just_N (V := V) (k := k) u
    unfold justV at h2 ⊢
    unfold sm cnt
    rw [h2]
    by_cases e : kI (pc (vS V u) : Int) = k
    · refine ⟨c + 1, by omega, ?_, ?_⟩
      · rw [decide_eq_true e]
        exact kN_succ c
      · simp only [e, decide_true, if_true, h3]
    · refine ⟨c, by omega, ?_, ?_⟩
      · rw [decide_eq_false e]
        show kI (c : Int) + 0 = _
        rw [Int32.add_zero]
      · simp only [e, decide_false, h3]
        rfl
