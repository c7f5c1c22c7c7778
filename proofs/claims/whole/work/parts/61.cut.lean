/-! ===== numbers cut to their sort ===== -/
theorem smod64 : ∀ k : Nat, k < 64 → (((kI (k : Int)).toInt64 &&& 63).toBitVec.smod 64).toNat = k := by decide +kernel
theorem cut_is {x : Int64} {k : Nat} (hk : k < 64) (j : Nat) : ((x <<< ((kI (k : Int)).toInt64 &&& 63)) >>> ((kI (k : Int)).toInt64 &&& 63)).toBitVec.getLsbD j = (decide (j < 64) && if j + k < 64 then x.toBitVec.getLsbD j else x.toBitVec.getLsbD (63 - k)) := by
  rw [Int64.toBitVec_shiftRight, Int64.toBitVec_shiftLeft, BitVec.sshiftRight_eq', BitVec.shiftLeft_eq', smod64 k hk, BitVec.getLsbD_sshiftRight, BitVec.msb_eq_getLsbD_last, BitVec.getLsbD_shiftLeft, BitVec.getLsbD_shiftLeft]
  by_cases h : j < 64
  · by_cases h2 : j + k < 64
    · simp [h, h2, show k + j < 64 by omega, show ¬ k + j < k by omega, show ¬ 64 ≤ j by omega]
    · simp [h, h2, show ¬ k + j < 64 by omega, show ¬ 64 ≤ j by omega]
      omega
  · simp [h, show 64 ≤ j by omega]
theorem se_is {w v : Nat} (x : BitVec w) (i : Nat) : (x.signExtend v).getLsbD i = (decide (i < v) && if i < w then x.getLsbD i else x.getLsbD (w - 1)) := by
  rw [BitVec.getLsbD_signExtend, BitVec.msb_eq_getLsbD_last]
theorem cut8 (x : Int64) : x.toInt32.toInt8.toInt32.toInt64 = (x <<< ((kI ((56 : Nat) : Int)).toInt64 &&& 63)) >>> ((kI ((56 : Nat) : Int)).toInt64 &&& 63) := by
  apply Int64.toBitVec_inj.mp
  apply BitVec.eq_of_getLsbD_eq
  intro j hj
  rw [cut_is (by omega)]
  show ((((x.toBitVec.signExtend 32).signExtend 8).signExtend 32).signExtend 64).getLsbD j = _
  simp only [se_is]
  by_cases h : j < 8
  · simp [hj, h, show j < 32 by omega, show j + 56 < 64 by omega]
  · by_cases h2 : j < 32
    · simp [hj, h, h2, show ¬ j + 56 < 64 by omega]
    · simp [hj, h2, show ¬ j + 56 < 64 by omega]
theorem cut16 (x : Int64) : x.toInt32.toInt16.toInt32.toInt64 = (x <<< ((kI ((48 : Nat) : Int)).toInt64 &&& 63)) >>> ((kI ((48 : Nat) : Int)).toInt64 &&& 63) := by
  apply Int64.toBitVec_inj.mp
  apply BitVec.eq_of_getLsbD_eq
  intro j hj
  rw [cut_is (by omega)]
  show ((((x.toBitVec.signExtend 32).signExtend 16).signExtend 32).signExtend 64).getLsbD j = _
  simp only [se_is]
  by_cases h : j < 16
  · simp [hj, h, show j < 32 by omega, show j + 48 < 64 by omega]
  · by_cases h2 : j < 32
    · simp [hj, h, h2, show ¬ j + 48 < 64 by omega]
    · simp [hj, h2, show ¬ j + 48 < 64 by omega]
theorem cut32 (x : Int64) : x.toInt32.toInt64 = (x <<< ((kI ((32 : Nat) : Int)).toInt64 &&& 63)) >>> ((kI ((32 : Nat) : Int)).toInt64 &&& 63) := by
  apply Int64.toBitVec_inj.mp
  apply BitVec.eq_of_getLsbD_eq
  intro j hj
  rw [cut_is (by omega)]
  show ((x.toBitVec.signExtend 32).signExtend 64).getLsbD j = _
  simp only [se_is]
  by_cases h2 : j < 32
  · simp [hj, h2, show j + 32 < 64 by omega]
  · simp [hj, h2, show ¬ j + 32 < 64 by omega]
theorem cut64 (x : Int64) : x = (x <<< ((kI ((0 : Nat) : Int)).toInt64 &&& 63)) >>> ((kI ((0 : Nat) : Int)).toInt64 &&& 63) := by
  apply Int64.toBitVec_inj.mp
  apply BitVec.eq_of_getLsbD_eq
  intro j hj
  rw [cut_is (by omega)]
  simp [hj]
def cutV (y : Int32) (v : Int64) : Int64 := if y = kI 0 then v.toInt32.toInt8.toInt32.toInt64 else if y = kI 1 then v.toInt32.toInt16.toInt32.toInt64 else if y = kI 2 then v.toInt32.toInt64 else v
theorem in03 {x : Int32} (h : btw x 0 3) : x = kI 0 ∨ x = kI 1 ∨ x = kI 2 ∨ x = kI 3 := by
  unfold btw at h
  have e := kI_of x
  have h3 : x.toInt = 0 ∨ x.toInt = 1 ∨ x.toInt = 2 ∨ x.toInt = 3 := by omega
  rcases h3 with h3 | h3 | h3 | h3 <;> rw [h3] at e
  · exact Or.inl e.symm
  · exact Or.inr (Or.inl e.symm)
  · exact Or.inr (Or.inr (Or.inl e.symm))
  · exact Or.inr (Or.inr (Or.inr e.symm))
/-- the model's shifts -/
theorem cut_mod {y : Int32} (h : btw y 0 3) (v : Int64) : cutV y v = (v <<< ((kI 64 - (kI 8 <<< (y &&& 31))).toInt64 &&& 63)) >>> ((kI 64 - (kI 8 <<< (y &&& 31))).toInt64 &&& 63) := by
  rcases in03 h with rfl | rfl | rfl | rfl
  · exact cut8 v
  · exact cut16 v
  · exact cut32 v
  · exact cut64 v

