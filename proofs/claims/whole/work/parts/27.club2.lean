/-! ===== a club: gains, sums, thoughts ===== -/
def imax (x y : Int32) : Int32 := if y ≤ x then x else y
def payAllV (V : VT) (s : Int32) : Int32 := sm (payV V s) (nm V)
def bribeV (V : VT) (s : Int32) : Int32 := sm (fun m => imax (kI 0) (gainV V s m)) (nm V)
def strongV (V : VT) (s : Int32) : Bool := restV V s && decide (∀ a, a < nm V → ∀ b, b < nm V → a < b → ¬ (payV V s a < payV V (s ^^^ b1 a ^^^ b1 b) a ∧ payV V s b < payV V (s ^^^ b1 a ^^^ b1 b) b))
def hatsV (V : VT) (come : Int32) (m : Nat) : Int32 := mkS (fun j => hb come j || decide (vU V j = 1)) m
def bySee (V : VT) (m : Nat) (x : Int32) : Bool := if vR V m = kI 7 then decide (x < vN V m) else decide (x = vN V m)
def everyV (V : VT) : Int32 := b1 (nm V) - kI 1
def lastV (V : VT) : Int32 := if 0 < wk V then vS V (wk V - 1) else kI 0
theorem b1_pred : ∀ n, n < 31 → ∀ j, j < 32 → hb (b1 n - kI 1) j = decide (j < n) := by decide +kernel
theorem hb_pred {n j : Nat} (hn : n < 31) : hb (b1 n - kI 1) j = decide (j < n) := by
  by_cases hj : j < 32
  · exact b1_pred n hn j hj
  · rw [hb_ge (by omega)]
    simp
    omega
theorem payAll_eq {V : VT} {s : Int32} (hV : VOK V) (hs : sok (nm V) s) : payAllV V s = (if meetsV V s = true then V 2 * V 1 else kI 0) - sm (costV V s) (nm V) := by
  have key : ∀ n, sm (payV V s) n = (if meetsV V s = true then V 2 else kI 0) * kI (cnt (hb s) n : Int) - sm (costV V s) n := by
    intro n
    induction n with
    | zero =>
      show kI 0 = _ * kI 0 - kI 0
      rw [show kI 0 = (0 : Int32) from rfl]
      grind
    | succ n ih =>
      unfold sm cnt
      rw [ih]
      unfold payV costV
      by_cases e : hb s n = true
      · simp only [e, if_true]
        rw [← kN_succ, kI_one]
        grind
      · simp only [e]
        rw [show kI 0 = (0 : Int32) from rfl]
        grind
  have e1 : cnt (hb s) (nm V) = pc s := by
    have h1 := hV.n.2
    have : ∀ k, nm V ≤ k → cnt (hb s) k = cnt (hb s) (nm V) := by
      intro k
      induction k with
      | zero => intro h; rw [show nm V = 0 by omega]
      | succ k ih =>
        intro h
        by_cases e : nm V = k + 1
        · rw [e]
        · show cnt (hb s) k + (if hb s k = true then 1 else 0) = _
          rw [hs.2 k (by omega), ih (by omega)]
          rfl
    exact (this 12 h1).symm
  unfold payAllV
  rw [key, e1]
  by_cases e : meetsV V s = true
  · have : kI (pc s : Int) = V 1 := of_decide_eq_true e
    simp only [e, if_true, this]
  · simp only [e]
    rw [show kI 0 = (0 : Int32) from rfl]
    simp
theorem two_of {q : Nat → Bool} : ∀ n, 2 ≤ cnt q n ↔ ∃ a b, a < b ∧ b < n ∧ q a = true ∧ q b = true
  | 0 => by simp [cnt]
  | n + 1 => by
    have ih := two_of (q := q) n
    have one : ∀ n, 1 ≤ cnt q n ↔ ∃ a, a < n ∧ q a = true := by
      intro n
      induction n with
      | zero => simp [cnt]
      | succ n ih =>
        unfold cnt
        by_cases e : q n = true
        · simp only [e, if_true]
          exact ⟨fun _ => ⟨n, by omega, e⟩, fun _ => by omega⟩
        · simp only [e]
          constructor
          · intro h
            obtain ⟨a, h1, h2⟩ := ih.mp (by simpa using h)
            exact ⟨a, by omega, h2⟩
          · rintro ⟨a, h1, h2⟩
            have : a ≠ n := fun z => e (z ▸ h2)
            have := ih.mpr ⟨a, by omega, h2⟩
            simpa using this
    unfold cnt
    by_cases e : q n = true
    · simp only [e, if_true]
      constructor
      · intro h
        obtain ⟨a, h1, h2⟩ := (one n).mp (by omega)
        exact ⟨a, n, h1, by omega, h2, e⟩
      · rintro ⟨a, b, h1, h2, h3, h4⟩
        have := (one n).mpr ⟨a, by omega, h3⟩
        omega
    · simp only [e]
      constructor
      · intro h
        obtain ⟨a, b, h1, h2, h3, h4⟩ := ih.mp (by simpa using h)
        exact ⟨a, b, h1, by omega, h3, h4⟩
      · rintro ⟨a, b, h1, h2, h3, h4⟩
        have : b ≠ n := fun z => e (z ▸ h4)
        have := ih.mpr ⟨a, b, h1, by omega, h3, h4⟩
        simpa using this
theorem strong_eq {V : VT} {s u : Int32} {q : Nat} (hV : VOK V) (hs : sok (nm V) s) (hq : V 1 = kI (q : Int)) (hq12 : q ≤ 12) (hu : ∀ m, hb u m = (decide (m < nm V) && decide (vC V m < V 2))) (hr : restV V s = true) :
    strongV V s = (!decide (pc s + 2 = q) || decide (pc (u &&& (s ^^^ kI (-1))) < 2)) := by
  have hn := hV.n.2
  have hrest : ∀ m, m < nm V → ¬ 0 < gainV V s m := of_decide_eq_true hr
  have hno : ∀ m, m < nm V → hb s m = true → ¬ payV V s m < kI 0 := by
    intro m hm he
    have h1 := hrest m hm
    rw [gain_pos hV hm hq hq12, if_pos he] at h1
    obtain ⟨c, hc, c1, c2⟩ := btw_k (hV.2.1 m hm).2.2.1
    obtain ⟨D, hD, d1, d2⟩ := btw_k hV.1.2.2.1
    unfold payV
    rw [if_pos he, meets_iff hq hq12]
    rw [hc, hD] at h1 ⊢
    by_cases g : pc s = q
    · rw [if_pos g, kI_lt (by omega) (by omega) (by omega) (by omega)] at h1
      rw [if_pos (decide_eq_true g), kI_sub, kI_lt (by omega) (by omega) (by omega) (by omega)]
      omega
    · rw [if_neg g, show (0 : Int32) = kI 0 from rfl, kI_lt (by omega) (by omega) (by omega) (by omega)] at h1
      rw [if_neg (by simp [g]), kI_sub, kI_lt (by omega) (by omega) (by omega) (by omega)]
      omega
  have hpair : ∀ a, a < nm V → ∀ b, b < nm V → a ≠ b → (payV V s a < payV V (s ^^^ b1 a ^^^ b1 b) a ↔ (hb s a = false ∧ (if hb s b = true then pc s = q else pc s + 2 = q) ∧ vC V a < V 2)) := by
    intro a ha b hb9 hab
    have e1 : hb (s ^^^ b1 a ^^^ b1 b) a = !hb s a := by
      rw [hb_tog (by omega), hb_tog (by omega)]
      simp [hab]
    by_cases ea : hb s a = true
    · have h0 := hno a ha ea
      rw [ea] at e1
      have e2 : payV V (s ^^^ b1 a ^^^ b1 b) a = kI 0 := by
        unfold payV
        rw [e1]
        rfl
      rw [e2]
      constructor
      · intro h
        exact absurd h h0
      · intro h
        rw [ea] at h
        exact absurd h.1 (by decide)
    · have ea : hb s a = false := by simpa using ea
      rw [ea] at e1
      obtain ⟨c, hc, c1, c2⟩ := btw_k (hV.2.1 a ha).2.2.1
      obtain ⟨D, hD, d1, d2⟩ := btw_k hV.1.2.2.1
      have e2 : payV V s a = kI 0 := by
        unfold payV
        rw [ea]
        rfl
      have eb : hb (s ^^^ b1 a) b = hb s b := by
        rw [hb_tog (by omega)]
        simp [Ne.symm hab]
      have p1 := pc_ex (s := s) (m := a) (by omega) ea
      rw [e2]
      unfold payV
      rw [if_pos (by rw [e1]; rfl), meets_iff hq hq12, hc, hD]
      by_cases eb2 : hb s b = true
      · have p2 := pc_in (s := s ^^^ b1 a) (m := b) (by omega) (eb.trans eb2)
        have p3 : pc (s ^^^ b1 a ^^^ b1 b) = pc s := by omega
        rw [p3, if_pos eb2]
        by_cases g : pc s = q
        · rw [if_pos (decide_eq_true g), kI_sub, kI_lt (by omega) (by omega) (by omega) (by omega), kI_lt (by omega) (by omega) (by omega) (by omega)]
          constructor
          · intro h; exact ⟨ea, g, by omega⟩
          · rintro ⟨-, -, h⟩; omega
        · rw [if_neg (by simp [g]), kI_sub, kI_lt (by omega) (by omega) (by omega) (by omega), kI_lt (by omega) (by omega) (by omega) (by omega)]
          constructor
          · intro h; omega
          · rintro ⟨-, h, -⟩; exact absurd h g
      · have p2 := pc_ex (s := s ^^^ b1 a) (m := b) (by omega) (by rw [eb]; simpa using eb2)
        have p3 : pc (s ^^^ b1 a ^^^ b1 b) = pc s + 2 := by omega
        rw [p3, if_neg eb2]
        by_cases g : pc s + 2 = q
        · rw [if_pos (decide_eq_true g), kI_sub, kI_lt (by omega) (by omega) (by omega) (by omega), kI_lt (by omega) (by omega) (by omega) (by omega)]
          constructor
          · intro h; exact ⟨ea, g, by omega⟩
          · rintro ⟨-, -, h⟩; omega
        · rw [if_neg (by simp [g]), kI_sub, kI_lt (by omega) (by omega) (by omega) (by omega), kI_lt (by omega) (by omega) (by omega) (by omega)]
          constructor
          · intro h; omega
          · rintro ⟨-, h, -⟩; exact absurd h g
  have hc2 : (2 ≤ pc (u &&& (s ^^^ kI (-1)))) ↔ ∃ a b, a < b ∧ b < nm V ∧ (hb s a = false ∧ vC V a < V 2) ∧ (hb s b = false ∧ vC V b < V 2) := by
    unfold pc
    rw [two_of]
    constructor
    · rintro ⟨a, b, h1, h2, h3, h4⟩
      rw [hb_and, hb_not (by omega), hu] at h3 h4
      simp only [Bool.and_eq_true, decide_eq_true_eq, Bool.not_eq_true'] at h3 h4
      exact ⟨a, b, h1, h4.1.1, ⟨h3.2, h3.1.2⟩, ⟨h4.2, h4.1.2⟩⟩
    · rintro ⟨a, b, h1, h2, h3, h4⟩
      refine ⟨a, b, h1, by omega, ?_, ?_⟩
      · rw [hb_and, hb_not (by omega), hu, h3.1]
        simp [h3.2, show a < nm V by omega]
      · rw [hb_and, hb_not (by omega), hu, h4.1]
        simp [h4.2, show b < nm V by omega]
  unfold strongV
  rw [hr, Bool.true_and]
  by_cases g : pc s + 2 = q
  · rw [decide_eq_true g]
    simp only [Bool.not_true, Bool.false_or, decide_eq_decide]
    constructor
    · intro h
      refine Nat.lt_of_not_le (fun h2 => ?_)
      obtain ⟨a, b, h3, h4, h5, h6⟩ := hc2.mp h2
      have x1 : hb s a = false := h5.1
      have x2 : hb s b = false := h6.1
      refine h a (by omega) b h4 h3 ⟨(hpair a (by omega) b h4 (by omega)).mpr ⟨x1, by rw [x2]; simpa using g, h5.2⟩, ?_⟩
      have := (hpair b h4 a (by omega) (by omega)).mpr ⟨x2, by rw [x1]; simpa using g, h6.2⟩
      rw [Int32.xor_assoc, Int32.xor_comm (b1 a), ← Int32.xor_assoc]
      exact this
    · intro h a ha b hb9 hab hh
      have y1 := (hpair a ha b hb9 (by omega)).mp hh.1
      have y2 : payV V s b < payV V (s ^^^ b1 b ^^^ b1 a) b := by
        rw [Int32.xor_assoc, Int32.xor_comm (b1 b), ← Int32.xor_assoc]
        exact hh.2
      have y2 := (hpair b hb9 a ha (by omega)).mp y2
      have := hc2.mpr ⟨a, b, hab, hb9, ⟨y1.1, y1.2.2⟩, ⟨y2.1, y2.2.2⟩⟩
      omega
  · rw [decide_eq_false g]
    simp only [Bool.not_false, Bool.true_or, decide_eq_true_eq]
    intro a ha b hb9 hab hh
    have y1 := (hpair a ha b hb9 (by omega)).mp hh.1
    have y2 : payV V s b < payV V (s ^^^ b1 b ^^^ b1 a) b := by
      rw [Int32.xor_assoc, Int32.xor_comm (b1 b), ← Int32.xor_assoc]
      exact hh.2
    have y2 := (hpair b hb9 a ha (by omega)).mp y2
    rw [y2.1] at y1
    exact g (by simpa using y1.2.1)
