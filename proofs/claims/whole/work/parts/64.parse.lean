/-! ===== reading a text: what is asked ===== -/
def isLb (c : Nat) : Bool := decide (97 ≤ c ∧ c ≤ 122)
def isDb (c : Nat) : Bool := decide (48 ≤ c ∧ c ≤ 57)
def isBb (c : Nat) : Bool := decide (c = 32 ∨ c = 10)
/-- on from p as long as P holds, so many steps at most -/
def fw (P : Nat → Bool) : Nat → Nat → Nat
  | 0, p => p
  | f + 1, p => if P p = true then fw P f (p + 1) else p
theorem fw_ge {P : Nat → Bool} : ∀ f p, p ≤ fw P f p
  | 0, p => Nat.le_refl _
  | f + 1, p => by
    unfold fw
    split
    · have := fw_ge (P := P) f (p + 1)
      omega
    · exact Nat.le_refl _
theorem fw_le {P : Nat → Bool} : ∀ f p, fw P f p ≤ p + f
  | 0, p => Nat.le_refl _
  | f + 1, p => by
    unfold fw
    split
    · have := fw_le (P := P) f (p + 1)
      omega
    · omega
theorem fw_all {P : Nat → Bool} : ∀ f p j, p ≤ j → j < fw P f p → P j = true
  | 0, p, j, h1, h2 => by
    have h2 : j < p := h2
    omega
  | f + 1, p, j, h1, h2 => by
    unfold fw at h2
    by_cases e : P p = true
    · rw [if_pos e] at h2
      by_cases ej : j = p
      · rw [ej]; exact e
      · exact fw_all f (p + 1) j (by omega) h2
    · rw [if_neg e] at h2
      omega
theorem fw_y {P : Nat → Bool} {n p : Nat} (h : p < n) (e : P p = true) : fw P (n - p) p = fw P (n - (p + 1)) (p + 1) := by
  rw [show n - p = n - (p + 1) + 1 by omega]
  show (if P p = true then _ else _) = _
  rw [if_pos e]
theorem fw_n {P : Nat → Bool} {n p : Nat} (e : n ≤ p ∨ P p = false) : fw P (n - p) p = p := by
  by_cases h : n ≤ p
  · rw [show n - p = 0 by omega]
    rfl
  · have e := e.resolve_left h
    rw [show n - p = n - (p + 1) + 1 by omega]
    show (if P p = true then _ else _) = _
    rw [if_neg (by rw [e]; decide)]
/-- a token: where it begins, where it ends, its kind: 0 none, 1 a word, 2 a number, 3 the sign, 4 the end -/
abbrev TK : Type := Nat × Nat × Nat
def tkS (τ : Nat → Nat) (n p : Nat) : Nat := fw (fun j => isBb (τ j)) (n - p) p
def tkL (τ : Nat → Nat) (n s : Nat) : Nat := fw (fun j => isLb (τ j)) (n - s) s
def tkD (τ : Nat → Nat) (n s : Nat) : Nat := fw (fun j => isDb (τ j)) (n - s) s
def tkF (τ : Nat → Nat) (n s : Nat) : TK := if n ≤ s then (s, s, 4) else if isLb (τ s) = true then (s, tkL τ n s, 1) else if isDb (τ s) = true then (s, tkD τ n s, if 3 < tkD τ n s - s then 0 else 2) else (s, s + 1, if τ s = 59 then 3 else 0)
def tk (τ : Nat → Nat) (n p : Nat) : TK := tkF τ n (tkS τ n p)
def tkOK (τ : Nat → Nat) (n : Nat) (t : TK) : Prop := t.1 ≤ t.2.1 ∧ t.2.1 ≤ n ∧ t.2.2 < 5 ∧ (t.2.2 = 2 → t.2.1 - t.1 ≤ 3 ∧ ∀ j, t.1 ≤ j → j < t.2.1 → isDb (τ j) = true) ∧ (t.2.2 ≠ 4 → t.1 < t.2.1) ∧ (t.2.2 = 4 → t.2.1 = n)
theorem tkF_ok {τ : Nat → Nat} {n s : Nat} (h : s ≤ n) : tkOK τ n (tkF τ n s) ∧ (tkF τ n s).1 = s := by
  unfold tkF
  by_cases h1 : n ≤ s
  · rw [if_pos h1]
    exact ⟨⟨Nat.le_refl _, h, (by show 4 < 5; omega), fun h => (by cases h), fun h => absurd rfl h, fun _ => by show s = n; omega⟩, rfl⟩
  rw [if_neg h1]
  by_cases h2 : isLb (τ s) = true
  · rw [if_pos h2]
    have e1 : tkL τ n s = fw (fun j => isLb (τ j)) (n - (s + 1)) (s + 1) := fw_y (P := fun j => isLb (τ j)) (by omega) h2
    have g1 := fw_ge (P := fun j => isLb (τ j)) (n - (s + 1)) (s + 1)
    have g2 := fw_le (P := fun j => isLb (τ j)) (n - (s + 1)) (s + 1)
    refine ⟨⟨?_, ?_, ?_, fun h => (by cases h), fun _ => ?_, fun h => (by cases h)⟩, rfl⟩
    · show s ≤ tkL τ n s; omega
    · show tkL τ n s ≤ n; omega
    · show 1 < 5; omega
    · show s < tkL τ n s; omega
  rw [if_neg h2]
  by_cases h3 : isDb (τ s) = true
  · rw [if_pos h3]
    have e1 : tkD τ n s = fw (fun j => isDb (τ j)) (n - (s + 1)) (s + 1) := fw_y (P := fun j => isDb (τ j)) (by omega) h3
    have g1 := fw_ge (P := fun j => isDb (τ j)) (n - (s + 1)) (s + 1)
    have g2 := fw_le (P := fun j => isDb (τ j)) (n - (s + 1)) (s + 1)
    refine ⟨⟨?_, ?_, ?_, fun h => ?_, fun _ => ?_, fun h => ?_⟩, rfl⟩
    · show s ≤ tkD τ n s; omega
    · show tkD τ n s ≤ n; omega
    · show (if 3 < tkD τ n s - s then 0 else 2) < 5
      split <;> omega
    · have h : (if 3 < tkD τ n s - s then 0 else 2) = 2 := h
      refine ⟨?_, fun j h1 h2 => fw_all _ _ j h1 h2⟩
      show tkD τ n s - s ≤ 3
      split at h <;> omega
    · show s < tkD τ n s; omega
    · have h : (if 3 < tkD τ n s - s then 0 else 2) = 4 := h
      split at h <;> omega
  · rw [if_neg h3]
    refine ⟨⟨?_, ?_, ?_, fun h => ?_, fun _ => ?_, fun h => ?_⟩, rfl⟩
    · show s ≤ s + 1; omega
    · show s + 1 ≤ n; omega
    · show (if τ s = 59 then 3 else 0) < 5
      split <;> omega
    · have h : (if τ s = 59 then 3 else 0) = 2 := h
      split at h <;> omega
    · show s < s + 1; omega
    · have h : (if τ s = 59 then 3 else 0) = 4 := h
      split at h <;> omega
theorem tkS_b {τ : Nat → Nat} {n p : Nat} (h : p ≤ n) : p ≤ tkS τ n p ∧ tkS τ n p ≤ n := by
  have g1 := fw_ge (P := fun j => isBb (τ j)) (n - p) p
  have g2 := fw_le (P := fun j => isBb (τ j)) (n - p) p
  unfold tkS
  omega
theorem tk_ok {τ : Nat → Nat} {n p : Nat} (h : p ≤ n) : tkOK τ n (tk τ n p) ∧ p ≤ (tk τ n p).1 := by
  have hb := tkS_b (τ := τ) h
  have := tkF_ok (τ := τ) hb.2
  unfold tk
  exact ⟨this.1, by rw [this.2]; exact hb.1⟩
/-- the number that so many digits say -/
def dv (τ : Nat → Nat) (s : Nat) : Nat → Nat
  | 0 => 0
  | k + 1 => 10 * dv τ s k + (τ (s + k) - 48)
theorem dv_le {τ : Nat → Nat} {s : Nat} : ∀ k, (∀ j, j < k → isDb (τ (s + j)) = true) → dv τ s k + 1 ≤ 10 ^ k
  | 0, _ => Nat.le_refl _
  | k + 1, h => by
    have h1 := dv_le k (fun j hj => h j (by omega))
    have h2 := of_decide_eq_true (h k (by omega))
    show 10 * dv τ s k + (τ (s + k) - 48) + 1 ≤ 10 ^ k * 10
    omega
def isW (τ : Nat → Nat) (t : TK) (x : Nat) : Bool := decide (t.2.2 = 1 ∧ t.2.1 - t.1 = (sl x).length) && decide (∀ i, i < (sl x).length → kI (τ (t.1 + i) : Int) = (sl x).getD i 0)
abbrev Ft : Type := Nat × Nat
def misf (t : TK) : Ft := (if t.2.2 = 0 then 1 else 2, t.1)
def numS (τ : Nat → Nat) (n lo hi : Nat) (t : TK) : Ft ⊕ (TK × Nat) := if t.2.2 = 2 then (if lo ≤ dv τ t.1 (t.2.1 - t.1) ∧ dv τ t.1 (t.2.1 - t.1) ≤ hi then .inr (tk τ n t.2.1, dv τ t.1 (t.2.1 - t.1)) else .inl (3, t.1)) else .inl (misf t)
def semS (τ : Nat → Nat) (n : Nat) (t : TK) : Ft ⊕ TK := if t.2.2 = 3 then .inr (tk τ n t.2.1) else .inl (misf t)
def ruleS (τ : Nat → Nat) (t : TK) : Nat := fstG (fun r => isW τ t (r + 1)) 11
def joinV (V : VT) (r v c u : Int32) : VT := upd (upd (upd (upd (upd V (6 + 4 * nm V + 0) r) (6 + 4 * nm V + 1) v) (6 + 4 * nm V + 2) c) (6 + 4 * nm V + 3) u) 4 (kI ((nm V + 1 : Nat) : Int))
def mnS (τ : Nat → Nat) (n r : Nat) (t : TK) : Ft ⊕ (TK × Nat) := if 4 ≤ r ∧ r ≤ 9 then numS τ n (lsN r) (msN r) t else .inr (t, 0)
def mcS (τ : Nat → Nat) (n : Nat) (t : TK) : Ft ⊕ (TK × Nat) := if isW τ t 12 = true then numS τ n 0 999 (tk τ n t.2.1) else .inr (t, 0)
def muS (τ : Nat → Nat) (n : Nat) (t : TK) : TK := if isW τ t 13 = true then tk τ n t.2.1 else t
def memS (τ : Nat → Nat) (n : Nat) (t : TK) (V : VT) : Ft ⊕ (TK × VT) :=
  if nm V = 12 then .inl (4, t.1) else
  if ruleS τ (tk τ n t.2.1) = 11 then .inl (misf (tk τ n t.2.1)) else
  match mnS τ n (ruleS τ (tk τ n t.2.1)) (tk τ n (tk τ n t.2.1).2.1) with
  | .inl f => .inl f
  | .inr (t3, v) => match mcS τ n t3 with
    | .inl f => .inl f
    | .inr (t4, c) => .inr (muS τ n t4, joinV V (kI (ruleS τ (tk τ n t.2.1) : Int)) (kI (v : Int)) (kI (c : Int)) (bI (isW τ t4 13)))
def setS (τ : Nat → Nat) (n lo hi f : Nat) (t : TK) (V : VT) : Ft ⊕ (TK × VT) := match numS τ n lo hi (tk τ n t.2.1) with
  | .inl f => .inl f
  | .inr (t', v) => .inr (t', upd V f (kI (v : Int)))
def bodS (τ : Nat → Nat) (n : Nat) (t : TK) (V : VT) : Ft ⊕ (TK × VT) := if isW τ t 0 = true then memS τ n t V else if isW τ t 14 = true then setS τ n 1 12 1 t V else if isW τ t 15 = true then setS τ n 0 999 2 t V else if isW τ t 16 = true then setS τ n 0 100 3 t V else .inl (misf t)
def linS (τ : Nat → Nat) (n : Nat) (t : TK) (V : VT) : Ft ⊕ (TK × VT) := match bodS τ n t V with
  | .inl f => .inl f
  | .inr (t', V') => match semS τ n t' with
    | .inl f => .inl f
    | .inr t'' => .inr (t'', upd V' 0 (V' 0 + kI 1))
def allS (τ : Nat → Nat) (n : Nat) : Nat → TK → VT → Ft ⊕ VT
  | 0, _, V => .inr V
  | f + 1, t, V => if t.2.2 = 4 then .inr V else match linS τ n t V with
    | .inl e => .inl e
    | .inr (t', V') => allS τ n f t' V'
def V0 : VT := fun k => if k = 1 then kI 1 else if k = 2 then kI 10 else kI 0
def clubS (τ : Nat → Nat) (n : Nat) : Ft ⊕ VT := allS τ n (n + 1) (tk τ n 0) V0
theorem numS_ok {τ : Nat → Nat} {n lo hi : Nat} {t t' : TK} {v : Nat} (h : tkOK τ n t) (e : numS τ n lo hi t = .inr (t', v)) : tkOK τ n t' ∧ t.2.1 ≤ t'.1 ∧ lo ≤ v ∧ v ≤ hi ∧ t.1 < t.2.1 := by
  unfold numS at e
  split at e
  · rename_i hk
    split at e
    · rename_i hb
      cases e
      have := tk_ok (τ := τ) h.2.1
      exact ⟨this.1, this.2, hb.1, hb.2, h.2.2.2.2.1 (by omega)⟩
    · cases e
  · cases e
theorem numS_f {τ : Nat → Nat} {n lo hi : Nat} {t : TK} {f : Ft} (e : numS τ n lo hi t = .inl f) : 1 ≤ f.1 ∧ f.1 ≤ 4 := by
  unfold numS at e
  split at e
  · split at e
    · cases e
    · cases e
      exact ⟨by show 1 ≤ 3; omega, by show 3 ≤ 4; omega⟩
  · cases e
    unfold misf
    refine ⟨?_, ?_⟩
    · show 1 ≤ if t.2.2 = 0 then 1 else 2
      split <;> omega
    · show (if t.2.2 = 0 then 1 else 2) ≤ 4
      split <;> omega

