/-! ===== sets, gains, thoughts: what is asked ===== -/
theorem cnt_congr {p q : Nat → Bool} : ∀ {n : Nat}, (∀ j, j < n → p j = q j) → cnt p n = cnt q n
  | 0, _ => rfl
  | n + 1, h => by
    unfold cnt
    rw [cnt_congr (n := n) (fun j hj => h j (by omega)), h n (by omega)]
theorem cnt_tog {p : Nat → Bool} {m : Nat} : ∀ {n : Nat}, m < n → cnt (fun j => p j ^^ decide (j = m)) n + (if p m = true then 1 else 0) = cnt p n + (if p m = true then 0 else 1)
  | 0, h => by omega
  | n + 1, h => by
    by_cases e : m = n
    · subst e
      have h1 : cnt (fun j => p j ^^ decide (j = m)) m = cnt p m := cnt_congr (fun j hj => by rw [decide_eq_false (by omega), Bool.xor_false])
      simp only [cnt, h1]
      cases p m <;> simp
    · have ih := cnt_tog (p := p) (m := m) (n := n) (by omega)
      have h2 : (p n ^^ decide (n = m)) = p n := by rw [decide_eq_false (by omega), Bool.xor_false]
      simp only [cnt, h2]
      omega
theorem pc_tog {s : Int32} {m : Nat} (hm : m < 12) : pc (s ^^^ b1 m) + (if hb s m = true then 1 else 0) = pc s + (if hb s m = true then 0 else 1) := by
  have h := cnt_tog (p := hb s) (m := m) (n := 12) hm
  have e : pc (s ^^^ b1 m) = cnt (fun j => hb s j ^^ decide (j = m)) 12 := cnt_congr (fun j _ => by rw [hb_xor, hb_b1' (by omega)])
  rw [e]
  exact h
theorem pc_in {s : Int32} {m : Nat} (hm : m < 12) (h : hb s m = true) : pc (s ^^^ b1 m) + 1 = pc s := by
  have := pc_tog (s := s) hm
  simp [h] at this
  omega
theorem pc_ex {s : Int32} {m : Nat} (hm : m < 12) (h : hb s m = false) : pc (s ^^^ b1 m) = pc s + 1 := by
  have := pc_tog (s := s) hm
  simp [h] at this
  omega
theorem sok.tog {n m : Nat} {s : Int32} (h : sok n s) (hm : m < n) : sok n (s ^^^ b1 m) := by
  have h1 := h.1
  refine ⟨h.1, fun j hj => ?_⟩
  rw [hb_xor, hb_b1' (by omega), h.2 j hj]
  simp
  omega
theorem sok.andl {n : Nat} {s t : Int32} (h : sok n s) : sok n (s &&& t) := ⟨h.1, fun j hj => by rw [hb_and, h.2 j hj]; rfl⟩
theorem sok.andr {n : Nat} {s t : Int32} (h : sok n t) : sok n (s &&& t) := ⟨h.1, fun j hj => by rw [hb_and, h.2 j hj, Bool.and_false]⟩
theorem sok.or {n : Nat} {s t : Int32} (h : sok n s) (g : sok n t) : sok n (s ||| t) := ⟨h.1, fun j hj => by rw [hb_or, h.2 j hj, g.2 j hj]; rfl⟩
theorem sok.zero {n : Nat} (h : n ≤ 12) : sok n (kI 0) := ⟨h, fun j _ => hb_zero j⟩
theorem sok.b1 {n m : Nat} (h : n ≤ 12) (hm : m < n) : sok n (b1 m) := ⟨h, fun j hj => by rw [hb_b1' (by omega)]; simp; omega⟩
theorem hb_tog {s : Int32} {m j : Nat} (hm : m < 31) : hb (s ^^^ b1 m) j = (hb s j ^^ decide (j = m)) := by rw [hb_xor, hb_b1' hm]
theorem hb_set {s : Int32} {m j : Nat} (hm : m < 31) : hb (s ||| b1 m) j = (hb s j || decide (j = m)) := by rw [hb_or, hb_b1' hm]
theorem hb_not {s : Int32} {j : Nat} (hj : j < 32) : hb (s ^^^ kI (-1)) j = !hb s j := by
  rw [hb_xor, hb_neg1 j hj]
  cases hb s j <;> rfl
theorem hb_lt {s : Int32} {j : Nat} (h : hb s j = true) : j < 32 := by
  by_cases e : j < 32
  · exact e
  · rw [hb_ge (by omega)] at h
    cases h
theorem hb_zero0 (j : Nat) : hb 0 j = false := hb_zero j
theorem eq_zero_iff {x : Int32} : x = 0 ↔ ∀ j, hb x j = false := by
  constructor
  · intro h j
    rw [h]
    exact hb_zero0 j
  · intro h
    exact hb_ext (fun j _ => by rw [h j, hb_zero0])
/-- a small number as an Int -/
theorem btw_k {x : Int32} {a b : Int} (h : btw x a b) : ∃ c : Int, x = kI c ∧ a ≤ c ∧ c ≤ b := ⟨x.toInt, (kI_of x).symm, h.1, h.2⟩
theorem VOK.q {V : VT} (h : VOK V) : ∃ q : Nat, V 1 = kI (q : Int) ∧ 1 ≤ q ∧ q ≤ 12 := by
  obtain ⟨c, h1, h2, h3⟩ := btw_k h.1.2.1
  exact ⟨c.toNat, by rw [h1, Int.toNat_of_nonneg (by omega)], by omega, by omega⟩
theorem meets_iff {V : VT} {s : Int32} {q : Nat} (hq : V 1 = kI (q : Int)) (h : q ≤ 12) : meetsV V s = decide (pc s = q) := by
  have h1 := pc_le s
  unfold meetsV
  rw [hq]
  simp only [kN_inj (a := pc s) (b := q) (by omega) (by omega)]
theorem gain_pos {V : VT} {s : Int32} {m q : Nat} (hV : VOK V) (hm : m < nm V) (hq : V 1 = kI (q : Int)) (hq12 : q ≤ 12) :
    (0 < gainV V s m) ↔ (if hb s m = true then (if pc s = q then V 2 < vC V m else 0 < vC V m) else (pc s + 1 = q ∧ vC V m < V 2)) := by
  have hn := hV.n.2
  obtain ⟨c, hc, c1, c2⟩ := btw_k (hV.2.1 m hm).2.2.1
  obtain ⟨D, hD, d1, d2⟩ := btw_k hV.1.2.2.1
  have z : (0 : Int32) = kI 0 := rfl
  unfold gainV payV
  rw [meets_iff hq hq12, meets_iff hq hq12, hb_tog (by omega), hc, hD, z]
  by_cases e : hb s m = true
  · simp only [e, decide_true, Bool.true_xor, Bool.not_true, Bool.false_eq_true, if_false, if_true, decide_eq_true_eq]
    by_cases g : pc s = q
    · simp only [g, if_true, kI_sub]
      rw [kI_lt (by omega) (by omega) (by omega) (by omega), kI_lt (by omega) (by omega) (by omega) (by omega)]
      omega
    · simp only [g, if_false, kI_sub]
      rw [kI_lt (by omega) (by omega) (by omega) (by omega), kI_lt (by omega) (by omega) (by omega) (by omega)]
      omega
  · have e : hb s m = false := by simpa using e
    have e2 := pc_ex (s := s) (m := m) (by omega) e
    simp only [e, e2, decide_true, Bool.false_xor, Bool.false_eq_true, if_false, if_true, decide_eq_true_eq]
    by_cases g : pc s + 1 = q
    · simp only [g, if_true, kI_sub, true_and]
      rw [kI_lt (by omega) (by omega) (by omega) (by omega), kI_lt (by omega) (by omega) (by omega) (by omega)]
      omega
    · simp only [g, if_false, kI_sub, false_and, iff_false]
      rw [kI_lt (by omega) (by omega) (by omega) (by omega)]
      omega
def restV (V : VT) (s : Int32) : Bool := decide (∀ m, m < nm V → ¬ 0 < gainV V s m)
/-- who is eager, as a set -/
def eagerP (V : VT) (s e : Int32) : Prop := ∀ m, hb e m = (decide (m < nm V) && decide (0 < gainV V s m))
theorem eager_zero {V : VT} {s e : Int32} (h : eagerP V s e) : e = 0 ↔ restV V s = true := by
  rw [eq_zero_iff]
  unfold restV
  rw [decide_eq_true_eq]
  constructor
  · intro h1 m hm
    have := h1 m
    rw [h m] at this
    simpa [hm] using this
  · intro h1 m
    rw [h m]
    by_cases hm : m < nm V
    · simp [hm, h1 m hm]
    · simp [hm]
/-- sets told by what holds of each -/
def mkS (p : Nat → Bool) : Nat → Int32
  | 0 => kI 0
  | n + 1 => mkS p n ||| (if p n = true then b1 n else kI 0)
theorem hb_mkS {p : Nat → Bool} {j : Nat} : ∀ {n : Nat}, n ≤ 31 → hb (mkS p n) j = (decide (j < n) && p j)
  | 0, _ => by
    unfold mkS
    rw [hb_zero]
    simp
  | n + 1, h => by
    unfold mkS
    rw [hb_or, hb_mkS (n := n) (by omega)]
    have e : hb (if p n = true then b1 n else kI 0) j = (p n && decide (j = n)) := by
      cases p n
      · simp [hb_zero]
      · simp [hb_b1' (m := n) (j := j) (by omega)]
    rw [e]
    by_cases h1 : j = n
    · subst h1
      simp
    · by_cases h2 : j < n
      · simp [h2, h1, show j < n + 1 by omega]
      · simp [h2, h1, show ¬ j < n + 1 by omega]
theorem sok.mkS {p : Nat → Bool} {n : Nat} (h : n ≤ 12) : sok n (mkS p n) := ⟨h, fun j hj => by rw [hb_mkS (by omega)]; simp; omega⟩
theorem mkS_congr {p q : Nat → Bool} : ∀ {n : Nat}, (∀ j, j < n → p j = q j) → mkS p n = mkS q n
  | 0, _ => rfl
  | n + 1, h => by
    unfold mkS
    rw [mkS_congr (n := n) (fun j hj => h j (by omega)), h n (by omega)]
/-- who thinks of coming, given who came -/
def thinkP (V : VT) (s : Int32) (m : Nat) : Bool := decide (kI (pc (s &&& (b1 m ^^^ kI (-1))) : Int) + kI 1 = V 1) && decide (vC V m < V 2)
def think1 (V : VT) (s : Int32) : Int32 := mkS (thinkP V s) (nm V)
def thoughtsV (V : VT) (s : Int32) : Nat → Int32
  | 0 => s
  | d + 1 => think1 V (thoughtsV V s d)
theorem pc_without {s : Int32} {m : Nat} (hm : m < 12) : pc (s &&& (b1 m ^^^ kI (-1))) + (if hb s m = true then 1 else 0) = pc s := by
  by_cases e : hb s m = true
  · have h1 : s &&& (b1 m ^^^ kI (-1)) = s ^^^ b1 m := hb_ext (fun j hj => by
      rw [hb_and, hb_not hj, hb_tog (by omega), hb_b1' (by omega)]
      by_cases ej : j = m
      · subst ej; simp [e]
      · simp [ej])
    rw [h1, if_pos e]
    exact pc_in hm e
  · have e : hb s m = false := by simpa using e
    have h1 : s &&& (b1 m ^^^ kI (-1)) = s := hb_ext (fun j hj => by
      rw [hb_and, hb_not hj, hb_b1' (by omega)]
      by_cases ej : j = m
      · subst ej; simp [e]
      · simp [ej])
    rw [h1, if_neg (by rw [e]; decide)]
    rfl
theorem thinkP_eq {V : VT} {s : Int32} {m q : Nat} (hm : m < 12) (hq : V 1 = kI (q : Int)) (hq12 : q ≤ 12) : thinkP V s m = (decide (pc s + (if hb s m = true then 0 else 1) = q) && decide (vC V m < V 2)) := by
  have h1 := pc_without (s := s) hm
  have h2 := pc_le (s &&& (b1 m ^^^ kI (-1)))
  unfold thinkP
  rw [hq, kN_succ]
  congr 1
  simp only [kN_inj (a := pc (s &&& (b1 m ^^^ kI (-1))) + 1) (b := q) (by omega) (by omega), decide_eq_decide]
  by_cases e : hb s m = true
  · simp only [e, if_true] at h1 ⊢
    omega
  · simp only [e] at h1 ⊢
    simp at h1 ⊢
    omega
theorem sok.thoughts {V : VT} {s : Int32} (hV : VOK V) (hs : sok (nm V) s) : ∀ d, sok (nm V) (thoughtsV V s d)
  | 0 => hs
  | _ + 1 => sok.mkS hV.n.2
