/-! ===== the model: numbers ===== -/
theorem and_pred_lt {a : Nat} (h : 0 < a) : a &&& (a - 1) < a := Nat.lt_of_le_of_lt Nat.and_le_right (by omega)
theorem of_ix (m t : Nat) : kI 6 + kI 4 * kI (m : Int) + kI (t : Int) = kI ((6 + 4 * m + t : Nat) : Int) := by
  rw [kI_mul, kI_add, kI_add]
  congr 1
theorem came_ix (j : Nat) : kI 54 + kI (j : Int) = kI ((54 + j : Nat) : Int) := by
  rw [kI_add]
  congr 1
theorem toInt64_toInt (x : Int32) : x.toInt64.toInt = x.toInt := Int32.toInt_toInt64 x
def isMemV (V : VT) (x : Int32) : Bool := decide (0 ≤ x.toInt ∧ x.toInt < nm V)
def isSetV (V : VT) (x : Int32) : Bool := decide (0 ≤ x.toInt ∧ x.toInt < (2 ^ nm V : Nat))
def isWkV (V : VT) (x : Int32) : Bool := decide (0 ≤ x.toInt ∧ x.toInt < wk V)
def inV (x : Int32) (a b : Int) : Bool := decide (a ≤ x.toInt ∧ x.toInt ≤ b)
theorem i64_nat {n : Nat} (h : n < 2147483648) : (Int64.ofNat n).toInt = n := by
  rw [Int64.toInt_ofNat_of_lt (by omega)]
theorem lg_lt {x y : Int64} : lg_cmp x y < 0 ↔ x.toInt < y.toInt := by
  unfold lg_cmp
  simp only [gt_iff_lt, Int64.lt_iff_toInt_lt, ← Int64.toInt_inj]
  repeat' split
  · constructor
    · intro h; exact absurd h (by decide)
    · intro h; omega
  · constructor
    · intro h; exact absurd h (by decide)
    · intro h; omega
  · constructor
    · intro _; omega
    · intro _; decide
theorem lg_gt {x y : Int64} : 0 < lg_cmp x y ↔ y.toInt < x.toInt := by
  unfold lg_cmp
  simp only [gt_iff_lt, Int64.lt_iff_toInt_lt, ← Int64.toInt_inj]
  repeat' split
  · constructor
    · intro _; omega
    · intro _; decide
  · constructor
    · intro h; exact absurd h (by decide)
    · intro h; omega
  · constructor
    · intro h; exact absurd h (by decide)
    · intro h; omega
/-- the model's weeks -/
def PR (w : Wst) (p : PT) : Prop := wn w 80 17 = kI (p.2 : Int) ∧ ∀ j, j < p.2 → wa w 86 j = p.1 j
/-- fields of the model that are kept -/
def kf (l : List Nat) (w w' : Wst) : Prop := ∀ b, b ∉ l → wn w' 80 b = wn w 80 b
theorem kf_refl {l : List Nat} {w : Wst} : kf l w w := fun _ _ => rfl
theorem kf.trans {l : List Nat} {w w' w'' : Wst} (h : kf l w w') (g : kf l w' w'') : kf l w w'' := fun b hb => (g b hb).trans (h b hb)
theorem kf.mono {l l' : List Nat} {w w' : Wst} (h : kf l w w') (hl : ∀ a ∈ l, a ∈ l') : kf l' w w' := fun i hi => h i (fun z => hi (hl i z))
theorem kf_sn {l : List Nat} {w : Wst} {j : Nat} {x : Int32} (hj : j ∈ l) : kf l w (sn w 80 j x) := fun b hb => by
  rw [wn_sn]
  exact if_neg (fun (z : 80 = 80 ∧ b = j) => hb (z.2 ▸ hj))
theorem kf_so {l : List Nat} {w : Wst} {i j : Nat} {x : Int32} (hi : i ≠ 80) : kf l w (sn w i j x) := fun b _ => by
  rw [wn_sn]
  exact if_neg (fun (z : 80 = i ∧ b = j) => hi z.1.symm)
theorem kf_sa {l : List Nat} {w : Wst} {i : Nat} {f : Nat → Int32} : kf l w (sa w i f) := fun _ _ => rfl
theorem kf_sv {l : List Nat} {w : Wst} {i : Nat} {f : Nat → Int64} : kf l w (sv w i f) := fun _ _ => rfl
