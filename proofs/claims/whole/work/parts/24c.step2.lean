/-! ===== more steps ===== -/
section STQ
variable {call : Nat → List Value → ac_H → ac_P → Prop} {cs : Nat → Nat × Nat} {ga : Nat → Nat} {L : Nat} {xs : Nat → Int32} {sl : Nat → List Int32} {mb : Nat × Nat} {hands : List (Nat × Int)} {rt : Option FieldType} {Q : ac_P} {J : Nat → ac_X}
variable {is : ac_I} {ls : ac_L} {s : List Value} {h : ac_H} {bg : Nat × Nat} {z : Nat}
theorem x_shl1 {m : Nat} (hm : m < 31) (kk : xB call cs ga L xs sl mb hands rt Q J is ls (.int (b1 m) :: s) h bg) : xB call cs ga L xs sl mb hands rt Q J ((.ishl, z) :: is) ls (.int (kI (m : Int)) :: .int (kI 1) :: s) h bg := by
  refine x_ishl ?_
  rw [shl1 m hm]
  exact kk
/-- the value at the top, told otherwise -/
theorem x_eqi {x y : Int32} (e : x = y) (kk : xB call cs ga L xs sl mb hands rt Q J is ls (.int y :: s) h bg) : xB call cs ga L xs sl mb hands rt Q J is ls (.int x :: s) h bg := e ▸ kk
theorem x_eql {x y : Int64} (e : x = y) (kk : xB call cs ga L xs sl mb hands rt Q J is ls (.long y :: s) h bg) : xB call cs ga L xs sl mb hands rt Q J is ls (.long x :: s) h bg := e ▸ kk
end STQ
theorem nl_le {x y : Int32} (h : x < y) : ¬ y ≤ x := Int32.not_le.mpr h
theorem nn_lt {x y : Int32} (h : ¬ x < y) : y ≤ x := Int32.not_lt.mp h
theorem cy_eq {x y : Int32} (b : cI .eq x y) : x = y := b
theorem cn_eq {x y : Int32} (b : ¬ cI .eq x y) : ¬ x = y := b
theorem cy_ne {x y : Int32} (b : cI .ne x y) : ¬ x = y := b
theorem cn_ne {x y : Int32} (b : ¬ cI .ne x y) : x = y := Decidable.not_not.mp b
theorem cy_lt {x y : Int32} (b : cI .lt x y) : x < y := b
theorem cn_lt {x y : Int32} (b : ¬ cI .lt x y) : y ≤ x := Int32.not_lt.mp b
theorem cy_ge {x y : Int32} (b : cI .ge x y) : y ≤ x := b
theorem cn_ge {x y : Int32} (b : ¬ cI .ge x y) : x < y := Int32.not_le.mp b
theorem cy_gt {x y : Int32} (b : cI .gt x y) : y < x := b
theorem cn_gt {x y : Int32} (b : ¬ cI .gt x y) : x ≤ y := Int32.not_lt.mp b
theorem cy_le {x y : Int32} (b : cI .le x y) : x ≤ y := b
theorem cn_le {x y : Int32} (b : ¬ cI .le x y) : y < x := Int32.not_le.mp b
theorem okB1 {k : Nat} (hf : fty k = .boolean) : okF k (.int (kI 1)) := okB (b := true) hf
theorem okB0 {k : Nat} (hf : fty k = .boolean) : okF k (.int (kI 0)) := okB (b := false) hf
