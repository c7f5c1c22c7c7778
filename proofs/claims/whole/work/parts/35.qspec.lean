/-! ===== questions: what is asked of a club at rest ===== -/
def SM : List Nat := [80, 86, 87, 88, 89, 90, 91, 92]
def FM : List Nat := [4, 17, 18]
def SC : List Nat := [20, 21, 22, 23, 24, 40, 41, 44, 45, 46, 47, 48, 49, 50, 51, 52, 53, 54, 55, 56, 57, 58, 59, 60, 61, 73, 74]
/-- the end of the model's answer: T is what is thrown, R what is answered -/
def KQ (ad : Nat → Nat) (P : ac_P) (w : Wst) (T : Nat) (R : Value) : Prop := ∀ (h' : ac_H) (w' : Wst) (v : Value), WW ad w' h' → kp SM w w' → kf FM w w' → wn w' 80 4 = kI (T : Int) → (T = 0 → v = R) → P (.inl (some v)) h'
/-- the end of the class's answer -/
def KC (ad : Nat → Nat) (P : ac_P) (w : Wst) (es : List Nat) (T : Nat) (R : Value) : Prop := (T = 0 → ∀ (h' : ac_H) (w' : Wst), WW ad w' h' → kp SC w w' → P (.inl (some R)) h') ∧ ∀ j, T = j + 1 → ∀ (h' : ac_H) (w' : Wst), WW ad w' h' → kp SC w w' → P (.inr (es.getD j 0)) h'
theorem kpM4 {w : Wst} {x : Int32} : kp SM w (sn w 80 4 x) := kp_sn (by simp [SM])
theorem kfM4 {w : Wst} {x : Int32} : kf FM w (sn w 80 4 x) := kf_sn (by simp [FM])
theorem wn4 {w : Wst} {x : Int32} : wn (sn w 80 4 x) 80 4 = x := by rw [wn_sn, if_pos ⟨rfl, rfl⟩]
theorem isMem_k {V : VT} {x : Int32} (h : isMemV V x = true) : ∃ m : Nat, x = kI (m : Int) ∧ m < nm V := by
  have h := of_decide_eq_true h
  exact ⟨x.toInt.toNat, by rw [Int.toNat_of_nonneg h.1, kI_of], by omega⟩
theorem isWk_k {V : VT} {x : Int32} (h : isWkV V x = true) : ∃ m : Nat, x = kI (m : Int) ∧ m < wk V := by
  have h := of_decide_eq_true h
  exact ⟨x.toInt.toNat, by rw [Int.toNat_of_nonneg h.1, kI_of], by omega⟩
theorem isSet_sok {V : VT} {x : Int32} (hV : VOK V) (h : isSetV V x = true) : sok (nm V) x := by
  have h := of_decide_eq_true h
  have e : x = kI (x.toInt.toNat : Int) := by rw [Int.toNat_of_nonneg h.1, kI_of]
  rw [e]
  exact sok_of hV.n.2 (by omega)
theorem sok_isSet {V : VT} {x : Int32} (h : sok (nm V) x) : isSetV V x = true := by
  obtain ⟨a, h1, rfl⟩ := sok_val h
  have h2 : 2 ^ nm V ≤ 2 ^ 12 := Nat.pow_le_pow_right (by decide) h.1
  unfold isSetV
  rw [decide_eq_true_eq, kN_toInt (by omega)]
  omega
theorem isSet_iff {V : VT} {x : Int32} (hV : VOK V) : (x &&& (everyV V ^^^ kI (-1)) = 0) ↔ isSetV V x = true := by
  have hn := hV.n.2
  rw [eq_zero_iff]
  constructor
  · intro h
    refine sok_isSet ⟨hn, fun j hj => ?_⟩
    by_cases hj2 : j < 32
    · have := h j
      rw [hb_and, hb_not hj2] at this
      unfold everyV at this
      rw [hb_pred (by omega)] at this
      simpa [show ¬ j < nm V by omega] using this
    · exact hb_ge (by omega)
  · intro h j
    have hs := isSet_sok hV h
    rw [hb_and]
    by_cases hj : j < nm V
    · rw [hb_not (by omega)]
      unfold everyV
      rw [hb_pred (by omega)]
      simp [hj]
    · rw [hs.2 j (by omega)]
      rfl
/-- sets by number -/
theorem set_k {V : VT} {a : Nat} (hV : VOK V) (ha : a < 2 ^ nm V) : sok (nm V) (kI (a : Int)) := sok_of hV.n.2 ha
theorem pow_le {V : VT} (hV : VOK V) : 2 ^ nm V ≤ 4096 := Nat.pow_le_pow_right (by decide) hV.n.2
theorem pow_pos' {V : VT} : 0 < 2 ^ nm V := Nat.pow_pos (by decide)
theorem ev_n {V : VT} {m : Nat} (hV : VOK V) (hm : m ≤ 2 ^ nm V) (b : ¬ everyV V < kI (m : Int)) : m < 2 ^ nm V := by
  have h1 := pow_le hV
  have h2 := pow_pos' (V := V)
  rw [every_toInt hV, kN_lt (by omega) (by omega)] at b
  omega
theorem ev_y {V : VT} {m : Nat} (hV : VOK V) (hm : m ≤ 2 ^ nm V) (b : everyV V < kI (m : Int)) : m = 2 ^ nm V := by
  have h1 := pow_le hV
  have h2 := pow_pos' (V := V)
  rw [every_toInt hV, kN_lt (by omega) (by omega)] at b
  omega
/-- the k-th of those below N that have p -/
def kthF (p : Nat → Bool) (k : Int32) (a : Nat) (st : Option Int32 × Nat) : Option Int32 × Nat := match st.1 with
  | some _ => st
  | none => if p a = true then (if kI (st.2 : Int) = k then (some (kI (a : Int)), st.2) else (none, st.2 + 1)) else st
def kthR (p : Nat → Bool) (N : Nat) (k : Int32) : Int32 := match (fo (kthF p k) (none, 0) N).1 with
  | some r => r
  | none => if k = kI (-1) then kI ((fo (kthF p k) (none, 0) N).2 : Int) else kI (-1)
theorem kth_cnt {p : Nat → Bool} {k : Int32} : ∀ {a c : Nat}, fo (kthF p k) (none, 0) a = (none, c) → c ≤ a
  | 0, c, h => by
    have : (none, 0) = ((none, c) : Option Int32 × Nat) := h
    have := congrArg Prod.snd this
    simp at this
    omega
  | a + 1, c, h => by
    have h0 : kthF p k a (fo (kthF p k) (none, 0) a) = (none, c) := h
    cases e : fo (kthF p k) (none, 0) a with
    | mk r c2 =>
      rw [e] at h0
      cases r with
      | some r => simp [kthF] at h0
      | none =>
        have ih := kth_cnt e
        simp only [kthF] at h0
        split at h0
        · split at h0
          · simp at h0
          · have := congrArg Prod.snd h0
            simp at this
            omega
        · have := congrArg Prod.snd h0
          simp at this
          omega
theorem kth_stay {p : Nat → Bool} {k : Int32} {a : Nat} {r : Int32} {c : Nat} (h : fo (kthF p k) (none, 0) a = (some r, c)) : ∀ N, a ≤ N → fo (kthF p k) (none, 0) N = (some r, c)
  | 0, hN => by rw [show a = 0 by omega] at h; exact h
  | N + 1, hN => by
    by_cases e : a = N + 1
    · rw [← e]; exact h
    · show kthF p k N (fo (kthF p k) (none, 0) N) = _
      rw [kth_stay h N (by omega)]
      rfl
theorem kth_stop {p : Nat → Bool} {k : Int32} {a N c : Nat} (h : fo (kthF p k) (none, 0) a = (none, c)) (hp : p a = true) (hk : kI (c : Int) = k) (ha : a < N) : kthR p N k = kI (a : Int) := by
  have h1 : fo (kthF p k) (none, 0) (a + 1) = (some (kI (a : Int)), c) := by
    show kthF p k a (fo (kthF p k) (none, 0) a) = _
    rw [h]
    simp only [kthF, hp, hk, if_true]
  unfold kthR
  rw [kth_stay h1 N (by omega)]
theorem kth_no {p : Nat → Bool} {k : Int32} {a c : Nat} (h : fo (kthF p k) (none, 0) a = (none, c)) (hp : p a = false) : fo (kthF p k) (none, 0) (a + 1) = (none, c) := by
  show kthF p k a (fo (kthF p k) (none, 0) a) = _
  rw [h]
  simp [kthF, hp]
theorem kth_go {p : Nat → Bool} {k : Int32} {a c : Nat} (h : fo (kthF p k) (none, 0) a = (none, c)) (hp : p a = true) (hk : ¬ kI (c : Int) = k) : fo (kthF p k) (none, 0) (a + 1) = (none, c + 1) := by
  show kthF p k a (fo (kthF p k) (none, 0) a) = _
  rw [h]
  simp [kthF, hp, hk]
theorem kth_end {p : Nat → Bool} {k : Int32} {c N : Nat} (h : fo (kthF p k) (none, 0) N = (none, c)) : kthR p N k = if k = kI (-1) then kI (c : Int) else kI (-1) := by
  unfold kthR
  rw [h]
/-- the best of those below N that have p -/
def bstF (p : Nat → Bool) (bt : Nat → Nat → Bool) (a : Nat) : Option Nat → Option Nat
  | none => if p a = true then some a else none
  | some b => if p a = true ∧ bt a b = true then some a else some b
def bst (p : Nat → Bool) (bt : Nat → Nat → Bool) (N : Nat) : Option Nat := fo (bstF p bt) none N
def optI : Option Nat → Int32
  | none => kI (-1)
  | some a => kI (a : Int)
theorem bst_lt {p : Nat → Bool} {bt : Nat → Nat → Bool} : ∀ {N a : Nat}, bst p bt N = some a → a < N ∧ p a = true
  | 0, a, h => by cases h
  | N + 1, a, h => by
    have h0 : bstF p bt N (bst p bt N) = some a := h
    cases e : bst p bt N with
    | none =>
      rw [e] at h0
      simp only [bstF] at h0
      split at h0
      · cases h0
        exact ⟨by omega, by assumption⟩
      · cases h0
    | some b =>
      rw [e] at h0
      have ih := bst_lt e
      simp only [bstF] at h0
      split at h0
      · cases h0
        rename_i h9
        exact ⟨by omega, h9.1⟩
      · cases h0
        exact ⟨by omega, ih.2⟩
theorem optI_none {o : Option Nat} (h : ∀ a, o = some a → a < 4096) : optI o = kI (-1) ↔ o = none := by
  cases o with
  | none => simp [optI]
  | some a =>
    have := h a rfl
    simp only [optI]
    rw [kI_inj (by omega) (by omega) (by omega) (by omega)]
    constructor
    · intro h; omega
    · intro h; cases h
/-- the first below n that has p, or n -/
def fstG (p : Nat → Bool) : Nat → Nat
  | 0 => 0
  | n + 1 => if fstG p n < n then fstG p n else if p n = true then n else n + 1
theorem fst_all {p : Nat → Bool} : ∀ {n : Nat}, (∀ j, j < n → p j = false) → fstG p n = n
  | 0, _ => rfl
  | n + 1, h => by
    unfold fstG
    rw [fst_all (n := n) (fun j hj => h j (by omega)), if_neg (by omega), if_neg (by rw [h n (by omega)]; decide)]
theorem fst_is {p : Nat → Bool} {m : Nat} (hm : p m = true) (hno : ∀ j, j < m → p j = false) : ∀ {n : Nat}, m < n → fstG p n = m
  | 0, h => by omega
  | n + 1, h => by
    unfold fstG
    by_cases e : m = n
    · subst e
      rw [fst_all (n := m) hno, if_neg (by omega), if_pos hm]
    · rw [fst_is hm hno (n := n) (by omega), if_pos (by omega)]
def gainP (V : VT) (s : Int32) (m : Nat) : Bool := decide (0 < gainV V s m)
def nextR (V : VT) (s : Int32) : Int32 := s ^^^ b1 (fstG (gainP V s) (nm V))
def repl (V : VT) (s : Int32) : Nat → Int32
  | 0 => s
  | k + 1 => nextR V (repl V s k)
def replV (V : VT) (s what : Int32) : Int32 := if fstG (fun k => restV V (repl V s k)) 4097 < 4097 then (if what = kI 0 then repl V s (fstG (fun k => restV V (repl V s k)) 4097) else kI (fstG (fun k => restV V (repl V s k)) 4097 : Int)) else kI (-1)
def pivV (V : VT) (s : Int32) : Int32 := mkS (fun m => decide (¬ meetsV V (s ^^^ b1 m) = meetsV V s)) (nm V)
def gainT (V : VT) (s m : Int32) : Nat := if isMemV V m = true then (if isSetV V s = true then 0 else 2) else 1
def setT (V : VT) (s : Int32) : Nat := if isSetV V s = true then 0 else 1
def whatT (what : Int32) : Nat := if inV what 0 1 = true then 0 else 1
def replT (V : VT) (s what : Int32) : Nat := if isSetV V s = true ∧ inV what 0 1 = true then 0 else 1
def bestRestV (V : VT) : Int32 := optI (bst (fun a => restV V (kI (a : Int))) (fun a b => decide (payAllV V (kI (b : Int)) < payAllV V (kI (a : Int)))) (2 ^ nm V))
def leastS (V : VT) (val : Int32 → Int32) : Option Nat := bst (fun a => meetsV V (kI (a : Int))) (fun a b => decide (val (kI (a : Int)) < val (kI (b : Int)))) (2 ^ nm V)
def leastV (V : VT) (val : Int32 → Int32) (what : Int32) : Int32 := match leastS V val with
  | none => kI (-1)
  | some a => if what = kI 0 then val (kI (a : Int)) else kI (a : Int)
theorem in01 {x : Int32} (h : inV x 0 1 = true) : x = kI 0 ∨ x = kI 1 := by
  have h := of_decide_eq_true h
  obtain ⟨c, rfl, c1, c2⟩ := btw_k h
  have : c = 0 ∨ c = 1 := by omega
  rcases this with rfl | rfl
  · exact Or.inl rfl
  · exact Or.inr rfl
theorem inV_l {x : Int32} {a b : Nat} (ha : a < 2147483648) (hb : b < 2147483648) : decide ((Int64.ofNat a).toInt ≤ x.toInt64.toInt ∧ x.toInt64.toInt ≤ (Int64.ofNat b).toInt) = inV x a b := by
  rw [toInt64_toInt, i64_nat ha, i64_nat hb]
  rfl
set_option maxRecDepth 100000 in
theorem low_all : ∀ a : Nat, a < 4096 → 0 < a → ∃ m : Nat, m < 12 ∧ (kI (a : Int) &&& (-(kI (a : Int)))) = b1 m ∧ hb (kI (a : Int)) m = true ∧ ∀ j, j < m → hb (kI (a : Int)) j = false := by decide +kernel
