/-! ===== the number of one who never comes says nothing ===== -/
theorem offN_gain {V V' : VT} {a : Nat} (H : ∀ k, k ≠ 7 + 4 * a → V' k = V k) (s : Int32) (m : Nat) : gainV V' s m = gainV V s m := by
  unfold gainV
  rw [offN_pay H, offN_pay H]
theorem offN_think {V V' : VT} {a : Nat} (H : ∀ k, k ≠ 7 + 4 * a → V' k = V k) (s : Int32) : think1 V' s = think1 V s := by
  unfold think1
  rw [offN_nm H]
  have e : thinkP V' s = thinkP V s := by
    funext j
    unfold thinkP
    rw [offN_vC H, H 1 (by omega), H 2 (by omega)]
  rw [e]
theorem offN_thoughts {V V' : VT} {a : Nat} (H : ∀ k, k ≠ 7 + 4 * a → V' k = V k) (s : Int32) : ∀ d, thoughtsV V' s d = thoughtsV V s d
  | 0 => rfl
  | d + 1 => by
    show think1 V' (thoughtsV V' s d) = think1 V (thoughtsV V s d)
    rw [offN_thoughts H s d, offN_think H]
theorem offN_lrn {V V' : VT} {a : Nat} (H : ∀ k, k ≠ 7 + 4 * a → V' k = V k) (p : PT) (m : Nat) : lrnV V' p m = lrnV V p m := by
  unfold lrnV
  simp only [offN_pay H]
theorem offN_comes {V V' : VT} {a : Nat} (H : ∀ k, k ≠ 7 + 4 * a → V' k = V k) (h1 : vR V a = kI 1) (p : PT) (m : Nat) (c : Int32 × Int32) : comesG V' p false m c = comesG V p false m c := by
  by_cases h : m = a
  · subst h
    unfold comesG
    simp only [offN_vR H, h1]
    simp (decide := true) only [if_false]
  · unfold comesG bySee nN
    simp only [offN_vR H, offN_vN H h, offN_seen H, offN_thoughts H, offN_lrn H]
theorem offN_goes {V V' : VT} {a : Nat} (H : ∀ k, k ≠ 7 + 4 * a → V' k = V k) (h1 : vR V a = kI 1) (p : PT) (x : Int32) : goesG V' p false x = goesG V p false x := by
  have e : goesF V' p false = goesF V p false := by
    funext m c
    unfold goesF
    rw [offN_comes H h1]
  unfold goesG
  rw [e, offN_nm H]
theorem offN_next {V V' : VT} {a : Nat} (H : ∀ k, k ≠ 7 + 4 * a → V' k = V k) (h1 : vR V a = kI 1) (p : PT) : nextP V' p = nextP V p := by
  unfold nextP
  rw [offN_goes H h1]
theorem offN_run {V V' : VT} {a : Nat} (H : ∀ k, k ≠ 7 + 4 * a → V' k = V k) (h1 : vR V a = kI 1) (p : PT) : ∀ k, runP V' p k = runP V p k
  | 0 => rfl
  | k + 1 => by
    show goP V' (runP V' p k) = goP V (runP V p k)
    rw [offN_run H h1 p k]
    unfold goP
    rw [offN_next H h1]
theorem offN_start {V V' : VT} {a : Nat} (ha : a < 12) (H : ∀ k, k ≠ 7 + 4 * a → V' k = V k) : startP V' = startP V := by
  unfold startP
  rw [offN_wk H, show vS V' = vS V from funext (offN_vS ha H)]
theorem offN_met {V V' : VT} {a : Nat} (ha : a < 12) (H : ∀ k, k ≠ 7 + 4 * a → V' k = V k) (h1 : vR V a = kI 1) (n : Nat) : metV V' n = metV V n := by
  have e : metF V' (startP V') = metF V (startP V) := by
    funext k c
    unfold metF
    rw [offN_start ha H, offN_run H h1, offN_next H h1, offN_meets H]
  unfold metV
  rw [e]
