/-! ===== what may be hoped ===== -/
theorem kL_tdiv {a b : Int} (ha : -4611686018427387904 ≤ a ∧ a ≤ 4611686018427387904) (hb : -4611686018427387904 ≤ b ∧ b ≤ 4611686018427387904) : kL a / kL b = kL (a.tdiv b) := by
  unfold kL
  rw [← Int64.ofInt_tdiv]
  · show (-9223372036854775808 : Int) ≤ _
    omega
  · show _ ≤ (9223372036854775807 : Int)
    omega
  · show (-9223372036854775808 : Int) ≤ _
    omega
  · show _ ≤ (9223372036854775807 : Int)
    omega
theorem lg_eq {x y : Int64} : lg_cmp x y = 0 ↔ x = y := by
  constructor
  · intro h
    apply Int64.toInt_inj.mp
    have h1 : ¬ lg_cmp x y < 0 := by rw [h]; decide
    have h2 : ¬ 0 < lg_cmp x y := by rw [h]; decide
    rw [lg_lt] at h1
    rw [lg_gt] at h2
    omega
  · intro h
    have h1 : ¬ lg_cmp x y < 0 := by rw [lg_lt, h]; omega
    have h2 : ¬ 0 < lg_cmp x y := by rw [lg_gt, h]; omega
    exact Int32.le_antisymm (Int32.not_lt.mp h2) (Int32.not_lt.mp h1)
theorem msb_k (x : Int64) : x.toBitVec.msb = decide (x.toInt < 0) := BitVec.msb_eq_toInt
theorem xor_neg {v A : Int} (hv : -4611686018427387904 ≤ v ∧ v ≤ 4611686018427387904) (hA : 0 < A ∧ A ≤ 4611686018427387904) : (kL v ^^^ kL A).toInt < 0 ↔ v < 0 := by
  have h := msb_k (kL v ^^^ kL A)
  rw [Int64.toBitVec_xor, BitVec.msb_xor, msb_k, msb_k, kL_toInt (by omega) (by omega), kL_toInt (by omega) (by omega), decide_eq_false (show ¬ A < 0 by omega), Bool.xor_false] at h
  exact ⟨fun q => of_decide_eq_true (h.trans (decide_eq_true q)), fun q => of_decide_eq_true (h.symm.trans (decide_eq_true q))⟩
theorem dm_is {v A q r : Int} (hA : 0 < A) (h : r + A * q = v) (h0 : 0 ≤ r) (h1 : r < A) : v / A = q ∧ v % A = r := (Int.ediv_emod_unique hA).mpr ⟨h, h0, h1⟩
theorem dm_pos {v A : Int} (hA : 0 < A) (hv : 0 ≤ v) : v / A = v.tdiv A ∧ v % A = v.tmod A := dm_is hA (Int.tmod_add_mul_tdiv v A) (Int.tmod_nonneg A hv) (Int.tmod_lt_of_pos v hA)
theorem dm_zero {v A : Int} (hA : 0 < A) (ht : v.tmod A = 0) : v / A = v.tdiv A ∧ v % A = 0 := dm_is hA (by rw [← ht]; exact Int.tmod_add_mul_tdiv v A) (by omega) hA
theorem dm_neg {v A : Int} (hA : 0 < A) (hv : v < 0) (ht : ¬ v.tmod A = 0) : v / A = v.tdiv A - 1 ∧ v % A = v.tmod A + A := by
  have h1 := Int.tmod_add_mul_tdiv v A
  have h2 : (-v).tmod A = -(v.tmod A) := Int.neg_tmod v A
  have h3 := Int.tmod_nonneg A (show 0 ≤ -v by omega)
  have h4 := Int.tmod_lt_of_pos (-v) hA
  refine dm_is hA ?_ (by omega) (by omega)
  rw [Int.mul_sub, Int.mul_one]
  omega
theorem tm_neg {v A : Int} (hA : 0 < A) (hv : v < 0) : v.tmod A ≤ 0 ∧ -A < v.tmod A := by
  have h2 : (-v).tmod A = -(v.tmod A) := Int.neg_tmod v A
  have h3 := Int.tmod_nonneg A (show 0 ≤ -v by omega)
  have h4 := Int.tmod_lt_of_pos (-v) hA
  omega
theorem tm_mul {v A : Int} : v.tdiv A * A = v - v.tmod A := by
  have h1 := Int.tmod_add_tdiv_mul v A
  omega
def bndL (v : Int) : Prop := -1000000000000000000 ≤ v ∧ v ≤ 1000000000000000000
theorem kL_rem {v A : Int} (hv : bndL v) (hA : bndL A) : kL v - kL v / kL A * kL A = kL (v.tmod A) := by
  unfold bndL at hv hA
  rw [kL_tdiv (by omega) (by omega), kL_mul, kL_sub, tm_mul]
  exact congrArg kL (by omega)
section W1
variable {ga : Nat → Nat} {L : Nat} {xs : Nat → Int32} {d : Nat} {h : ac_H} {P : ac_P} {ad : Nat → Nat} {w : Wst} {i : Nat} {V : VT}
theorem c_floorDiv {v A : Int} (hv : bndL v) (hA : 0 < A ∧ A ≤ 1000000000000000000) (hP : P (.inl (some (.long (kL (v / A))))) h) : WP ga L xs (d + 1) 250 [.long (kL v), .long (kL A)] h P := by
  unfold bndL at hv
  have hA0 : ¬ kL A = 0 := fun z => by
    have z := congrArg Int64.toInt z
    rw [kL_toInt (by omega) (by omega), show (0 : Int64).toInt = 0 from rfl] at z
    omega
  have hx := xor_neg (v := v) (A := A) (by omega) (by omega)
  have hr := kL_rem (v := v) (A := A) (by unfold bndL; omega) (by unfold bndL; omega)
  have z64 : (Int64.ofNat 0).toInt = 0 := rfl
  have e1 : kL v / kL A = kL (v.tdiv A) := kL_tdiv (by omega) (by omega)
  have e2 : kL (v.tdiv A) * kL A = kL (v - v.tmod A) := by rw [kL_mul, tm_mul]
  have ht : v.tmod A < A := Int.tmod_lt_of_pos v hA.1
  refine WP.enter kJ9_floorDiv_f86c9 (Nat.le_of_ble_eq_true rfl) (fun J hJ => ?_)
  refine hJ 0 _ _ rfl _ _ _ _ (x_lload rfl (x_lload rfl (x_ldiv hA0 (x_lstore rfl (x_lload rfl (x_lload rfl (x_lxor (x_ldc2 (x_lcmp (x_br (fun q1 => have q1 := cy_ge q1; hJ 1 _ _ rfl _ _ _ _ (x_lload rfl (x_lret rfl ?_))) (fun q1 => have q1 := cn_ge q1; x_lload rfl (x_lload rfl (x_lmul (x_lload rfl (x_lcmp (x_br (fun q2 => have q2 := cy_eq q2; hJ 1 _ _ rfl _ _ _ _ (x_lload rfl (x_lret rfl ?_))) (fun q2 => have q2 := cn_eq q2; x_lload rfl (x_ldc2 (x_lsub (x_lret rfl ?_))))))))))))))))))))
  · rw [← Int32.not_lt, lg_lt, z64, hx] at q1
    rw [(dm_pos hA.1 (by omega)).1] at hP
    rw [e1]
    exact hP
  · rw [lg_lt, z64, hx] at q1
    have hn := tm_neg hA.1 q1
    have q2 := (lg_eq).mp q2
    rw [e1, e2] at q2
    rw [kL_inj (by omega) (by omega) (by omega) (by omega)] at q2
    rw [(dm_zero hA.1 (by omega)).1] at hP
    rw [e1]
    exact hP
  · rw [lg_lt, z64, hx] at q1
    have hn := tm_neg hA.1 q1
    have q2 : ¬ kL v / kL A * kL A = kL v := fun z => q2 (lg_eq.mpr z)
    rw [e1, e2] at q2
    rw [(dm_neg hA.1 q1 (fun z => q2 (by rw [z, Int.sub_zero]))).1] at hP
    rw [e1, show Int64.ofNat 1 = kL 1 from rfl, kL_sub]
    exact hP
theorem c_floorMod {v A : Int} (hv : bndL v) (hA : 0 < A ∧ A ≤ 1000000000000000000) (hP : P (.inl (some (.long (kL (v % A))))) h) : WP ga L xs (d + 1) 251 [.long (kL v), .long (kL A)] h P := by
  unfold bndL at hv
  have hA0 : ¬ kL A = 0 := fun z => by
    have z := congrArg Int64.toInt z
    rw [kL_toInt (by omega) (by omega), show (0 : Int64).toInt = 0 from rfl] at z
    omega
  have hx := xor_neg (v := v) (A := A) (by omega) (by omega)
  have hr := kL_rem (v := v) (A := A) (by unfold bndL; omega) (by unfold bndL; omega)
  have z64 : (Int64.ofNat 0).toInt = 0 := rfl
  have ht : v.tmod A < A := Int.tmod_lt_of_pos v hA.1
  refine WP.enter kJ9_floorMod_f86c9 (Nat.le_of_ble_eq_true rfl) (fun J hJ => ?_)
  refine hJ 0 _ _ rfl _ _ _ _ (x_lload rfl (x_lload rfl (x_lrem hA0 (x_lstore rfl (x_lload rfl (x_lload rfl (x_lxor (x_ldc2 (x_lcmp (x_br (fun q1 => have q1 := cy_ge q1; hJ 1 _ _ rfl _ _ _ _ (x_lload rfl (x_lret rfl ?_))) (fun q1 => have q1 := cn_ge q1; x_lload rfl (x_ldc2 (x_lcmp (x_br (fun q2 => have q2 := cy_eq q2; hJ 1 _ _ rfl _ _ _ _ (x_lload rfl (x_lret rfl ?_))) (fun q2 => have q2 := cn_eq q2; x_lload rfl (x_lload rfl (x_ladd (x_lret rfl ?_))))))))))))))))))
  · rw [← Int32.not_lt, lg_lt, z64, hx] at q1
    rw [(dm_pos hA.1 (by omega)).2] at hP
    rw [hr]
    exact hP
  · rw [lg_lt, z64, hx] at q1
    have hn := tm_neg hA.1 q1
    have q2 := (lg_eq).mp q2
    rw [hr, show Int64.ofNat 0 = kL 0 from rfl, kL_inj (by omega) (by omega) (by omega) (by omega)] at q2
    rw [(dm_zero hA.1 q2).2] at hP
    rw [hr, q2]
    exact hP
  · rw [lg_lt, z64, hx] at q1
    have hn := tm_neg hA.1 q1
    have q2 : ¬ v.tmod A = 0 := fun z => q2 (lg_eq.mpr (by rw [hr, z]; rfl))
    rw [(dm_neg hA.1 q1 q2).2] at hP
    rw [hr, kL_add]
    exact hP
theorem c_maxL {v A : Int} (hv : bndL v) (hA : bndL A) (hP : P (.inl (some (.long (kL (if v < A then A else v))))) h) : WP ga L xs (d + 1) 254 [.long (kL v), .long (kL A)] h P := by
  unfold bndL at hv hA
  refine WP.enter kJ9_max_f86c9 (Nat.le_of_ble_eq_true rfl) (fun J hJ => ?_)
  refine hJ 0 _ _ rfl _ _ _ _ (x_lload rfl (x_lload rfl (x_lcmp (x_br (fun q1 => have q1 := cy_lt q1; hJ 1 _ _ rfl _ _ _ _ (x_lload rfl (x_goto (hJ 2 _ _ rfl _ _ _ _ (x_lret rfl ?_))))) (fun q1 => have q1 := cn_lt q1; x_lload rfl (x_goto (hJ 2 _ _ rfl _ _ _ _ (x_lret rfl ?_))))))))
  · rw [lg_lt, kL_toInt (by omega) (by omega), kL_toInt (by omega) (by omega)] at q1
    rw [if_pos q1] at hP
    exact hP
  · rw [← Int32.not_lt, lg_lt, kL_toInt (by omega) (by omega), kL_toInt (by omega) (by omega)] at q1
    rw [if_neg q1] at hP
    exact hP
end W1
