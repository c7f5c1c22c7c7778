/-! ===== the reader: tokens ===== -/
section STW
variable {call : Nat → List Value → ac_H → ac_P → Prop} {cs : Nat → Nat × Nat} {ga : Nat → Nat} {L : Nat} {xs : Nat → Int32} {mb : Nat × Nat} {hands : List (Nat × Int)} {rt : Option FieldType} {Q : ac_P} {J : Nat → ac_X}
variable {is : ac_I} {ls : ac_L} {s : List Value} {h : ac_H} {bg : Nat × Nat} {z : Nat}
theorem x_ldc {k : Nat} (kk : xB call cs ga L xs sl mb hands rt Q J is ls (.ref (ga (3 + k)) :: s) h bg) : xB call cs ga L xs sl mb hands rt Q J ((.ldc k, z) :: is) ls s h bg := by
  simp only [xB]
  exact kk
theorem x_slen {x : Nat} (hx : x < 17) (hs : s.length ≤ 4) (kk : xB call cs ga L xs sl mb hands rt Q J is ls (.int (Int32.ofNat (sl x).length) :: s) h bg) : xB call cs ga L xs sl mb hands rt Q J ((.invokedynamic 0, z) :: is) ls (.ref (ga (3 + x)) :: s) h bg := by
  simp only [xB]
  exact ⟨x, hx, rfl, hs, kk⟩
theorem x_schr {x j : Nat} {y : Int32} (hx : x < 17) (hy : y = kI (j : Int)) (hj : j < (sl x).length) (hs : s.length ≤ 4) (kk : xB call cs ga L xs sl mb hands rt Q J is ls (.int ((sl x).getD j 0) :: s) h bg) : xB call cs ga L xs sl mb hands rt Q J ((.invokedynamic 1, z) :: is) ls (.int y :: .ref (ga (3 + x)) :: s) h bg := by
  subst hy
  have hl := (sl_ok x hx).2.1
  obtain ⟨h1, h2⟩ := vp_inN hj (by omega)
  simp only [xB]
  refine ⟨x, hx, rfl, h1, hs, ?_⟩
  rw [h2]
  exact kk
end STW
theorem ofN_kI (n : Nat) : Int32.ofNat n = kI (n : Int) := by
  unfold kI
  rw [Int32.ofInt_eq_ofNat]
theorem sx_eq : ∀ a : Nat, a < 256 → ∀ k : Nat, k < 128 → (sx a = kI (k : Int) ↔ a = k) := by
  intro a ha k hk
  unfold sx
  by_cases h : a < 128
  · rw [if_pos h, kN_inj (by omega) (by omega)]
  · rw [if_neg h, kI_inj (by omega) (by omega) (by omega) (by omega)]
    omega
theorem sx_toInt {a : Nat} (ha : a < 256) : (sx a).toInt = if a < 128 then (a : Int) else (a : Int) - 256 := by
  unfold sx
  split
  · rw [kN_toInt (by omega)]
  · rw [kI_toInt (by omega) (by omega)]
theorem sl_chr : ∀ x, x < 17 → ∀ i, i < (sl x).length → (sl x).getD i 0 = kI ((((sl x).getD i 0).toInt.toNat : Nat) : Int) ∧ ((sl x).getD i 0).toInt.toNat < 128 := by decide +kernel
/-- the reader shows a token -/
def RdC (w : Wst) (τ : Nat → Nat) (n : Nat) (t : TK) : Prop := wn w 42 4 = kI (n : Int) ∧ wn w 42 5 = kI (t.2.1 : Int) ∧ wn w 42 6 = kI (t.2.2 : Int) ∧ wn w 42 7 = kI (t.1 : Int) ∧ ∀ j, j < n → wa w 43 j = sx (τ j)
/-- what is kept: all cells but the reader's and i's; of the reader all fields but those told -/
def kD (i : Nat) (l : List Nat) (w w' : Wst) : Prop := (∀ a, a ≠ 42 → ¬ (i ≤ a ∧ a < i + 5) → same w w' a) ∧ wr w' 42 = wr w 42 ∧ ∀ j, j ∉ l → wn w' 42 j = wn w 42 j
def kR (l : List Nat) (w w' : Wst) : Prop := (∀ a, a ≠ 42 → same w w' a) ∧ wr w' 42 = wr w 42 ∧ ∀ j, j ∉ l → wn w' 42 j = wn w 42 j
theorem kR.d {i : Nat} {l : List Nat} {w w' : Wst} (h : kR l w w') : kD i l w w' := ⟨fun a h1 _ => h.1 a h1, h.2⟩
theorem kR_refl {l : List Nat} {w : Wst} : kR l w w := ⟨fun _ _ => same_refl, rfl, fun _ _ => rfl⟩
theorem kR.trans {l : List Nat} {w w' w'' : Wst} (h : kR l w w') (g : kR l w' w'') : kR l w w'' := ⟨fun a ha => (h.1 a ha).trans (g.1 a ha), g.2.1.trans h.2.1, fun j hj => (g.2.2 j hj).trans (h.2.2 j hj)⟩
theorem kR.mono {l m : List Nat} {w w' : Wst} (h : kR l w w') (hl : ∀ a ∈ l, a ∈ m) : kR m w w' := ⟨h.1, h.2.1, fun j hj => h.2.2 j (fun z => hj (hl j z))⟩
theorem kR_sn {l : List Nat} {w : Wst} {j : Nat} {x : Int32} (hj : j ∈ l) : kR l w (sn w 42 j x) := ⟨fun a ha => same_sn ha, rfl, fun b hb => by
  rw [wn_sn]
  exact if_neg (fun (z : 42 = 42 ∧ b = j) => hb (z.2 ▸ hj))⟩
def l567 : List Nat := [5, 6, 7]
def lflt : List Nat := [2, 3, 5, 6, 7]
theorem l567f : ∀ a ∈ l567, a ∈ lflt := by decide
section W1
variable {τ : Nat → Nat} {n : Nat}
variable {ga : Nat → Nat} {L : Nat} {xs : Nat → Int32} {d : Nat} {h : ac_H} {P : ac_P} {ad : Nat → Nat} {w : Wst} {i : Nat} {V : VT}
theorem c_isLetter {c : Nat} (hc : c < 256) (hP : P (.inl (some (.int (bI (isLb c))))) h) : WP ga L xs (d + 1) 54 [.int (sx c)] h P := by
  have e := sx_toInt hc
  have z1 : (kI 97).toInt = 97 := rfl
  have z2 : (kI 122).toInt = 122 := rfl
  unfold isLb at hP
  refine WP.enter kX2_isLetter (Nat.le_of_ble_eq_true rfl) (fun J hJ => ?_)
  refine hJ 0 _ _ rfl _ _ _ _ (x_iload rfl (x_sipush (x_br2 (fun q1 => have q1 := cy_lt q1; hJ 1 _ _ rfl _ _ _ _ (x_sipush (x_goto (hJ 2 _ _ rfl _ _ _ _ (x_iret (by first | exact nrwB _ | rfl | decide) ?_))))) (fun q1 => have q1 := cn_lt q1; x_iload rfl (x_sipush (x_br2 (fun q2 => have q2 := cy_gt q2; hJ 1 _ _ rfl _ _ _ _ (x_sipush (x_goto (hJ 2 _ _ rfl _ _ _ _ (x_iret (by first | exact nrwB _ | rfl | decide) ?_))))) (fun q2 => have q2 := cn_gt q2; x_sipush (x_goto (hJ 2 _ _ rfl _ _ _ _ (x_iret (by first | exact nrwB _ | rfl | decide) ?_))))))))))
  · rw [Int32.lt_iff_toInt_lt, e, z1] at q1
    rw [decide_eq_false (by split at q1 <;> omega)] at hP
    exact hP
  · rw [Int32.lt_iff_toInt_lt, e, z2] at q2
    rw [decide_eq_false (by split at q2 <;> omega)] at hP
    exact hP
  · rw [Int32.le_iff_toInt_le, e, z1] at q1
    rw [Int32.le_iff_toInt_le, e, z2] at q2
    rw [decide_eq_true (by split at q1 <;> split at q2 <;> omega)] at hP
    exact hP
theorem c_isDigit {c : Nat} (hc : c < 256) (hP : P (.inl (some (.int (bI (isDb c))))) h) : WP ga L xs (d + 1) 55 [.int (sx c)] h P := by
  have e := sx_toInt hc
  have z1 : (kI 48).toInt = 48 := rfl
  have z2 : (kI 57).toInt = 57 := rfl
  unfold isDb at hP
  refine WP.enter kX2_isDigit (Nat.le_of_ble_eq_true rfl) (fun J hJ => ?_)
  refine hJ 0 _ _ rfl _ _ _ _ (x_iload rfl (x_sipush (x_br2 (fun q1 => have q1 := cy_lt q1; hJ 1 _ _ rfl _ _ _ _ (x_sipush (x_goto (hJ 2 _ _ rfl _ _ _ _ (x_iret (by first | exact nrwB _ | rfl | decide) ?_))))) (fun q1 => have q1 := cn_lt q1; x_iload rfl (x_sipush (x_br2 (fun q2 => have q2 := cy_gt q2; hJ 1 _ _ rfl _ _ _ _ (x_sipush (x_goto (hJ 2 _ _ rfl _ _ _ _ (x_iret (by first | exact nrwB _ | rfl | decide) ?_))))) (fun q2 => have q2 := cn_gt q2; x_sipush (x_goto (hJ 2 _ _ rfl _ _ _ _ (x_iret (by first | exact nrwB _ | rfl | decide) ?_))))))))))
  · rw [Int32.lt_iff_toInt_lt, e, z1] at q1
    rw [decide_eq_false (by split at q1 <;> omega)] at hP
    exact hP
  · rw [Int32.lt_iff_toInt_lt, e, z2] at q2
    rw [decide_eq_false (by split at q2 <;> omega)] at hP
    exact hP
  · rw [Int32.le_iff_toInt_le, e, z1] at q1
    rw [Int32.le_iff_toInt_le, e, z2] at q2
    rw [decide_eq_true (by split at q1 <;> split at q2 <;> omega)] at hP
    exact hP
