/-! ===== long numbers ===== -/
def kL (n : Int) : Int64 := Int64.ofInt n
theorem kL_add (a b : Int) : kL a + kL b = kL (a + b) := (Int64.ofInt_add a b).symm
theorem kL_sub (a b : Int) : kL a - kL b = kL (a - b) := (Int64.ofInt_sub a b).symm
theorem kL_mul (a b : Int) : kL a * kL b = kL (a * b) := (Int64.ofInt_mul a b).symm
theorem kL_toInt {a : Int} (h1 : -9223372036854775808 ≤ a) (h2 : a < 9223372036854775808) : (kL a).toInt = a := Int64.toInt_ofInt_of_le h1 h2
theorem kL_of (x : Int64) : kL x.toInt = x := Int64.ofInt_toInt x
theorem kI_64 {a : Int} (h1 : -2147483648 ≤ a) (h2 : a < 2147483648) : (kI a).toInt64 = kL a := by
  apply Int64.toInt_inj.mp
  rw [toInt64_toInt, kI_toInt h1 h2, kL_toInt (by omega) (by omega)]
theorem kN_64 {a : Nat} (h2 : a < 2147483648) : (kI (a : Int)).toInt64 = kL (a : Int) := kI_64 (by omega) (by omega)
theorem kL_ofNat {a : Nat} : Int64.ofNat a = kL (a : Int) := (Int64.ofInt_eq_ofNat).symm
theorem kL_mulN (a b : Nat) : kL (a : Int) * kL (b : Int) = kL ((a * b : Nat) : Int) := by
  rw [kL_mul]
  congr 1
theorem kL_addN (a b : Nat) : kL (a : Int) + kL (b : Int) = kL ((a + b : Nat) : Int) := by
  rw [kL_add]
  congr 1
theorem kL_div {a b : Nat} (ha : a < 9223372036854775808) (hb : b < 9223372036854775808) : kL (a : Int) / kL (b : Int) = kL ((a / b : Nat) : Int) := by
  unfold kL
  rw [← Int64.ofInt_tdiv]
  · congr 1
  · show (-9223372036854775808 : Int) ≤ _
    omega
  · show _ ≤ (9223372036854775807 : Int)
    omega
  · show (-9223372036854775808 : Int) ≤ _
    omega
  · show _ ≤ (9223372036854775807 : Int)
    omega
theorem kL_inj {a b : Int} (h1 : -9223372036854775808 ≤ a) (h2 : a < 9223372036854775808) (h3 : -9223372036854775808 ≤ b) (h4 : b < 9223372036854775808) : kL a = kL b ↔ a = b := by
  rw [← Int64.toInt_inj, kL_toInt h1 h2, kL_toInt h3 h4]
theorem kL_eq0 {a : Nat} (ha : a < 9223372036854775808) : kL (a : Int) = 0 ↔ a = 0 := by
  rw [show (0 : Int64) = kL 0 from rfl, kL_inj (by omega) (by omega) (by omega) (by omega)]
  omega
theorem l2i_k {a : Int} : (kL a).toInt32 = kI a := by
  unfold kL kI
  exact Int64.toInt32_ofInt
section X6
variable {ga : Nat → Nat} {L : Nat} {xs : Nat → Int32} {d : Nat} {h : ac_H} {P : ac_P} {ad : Nat → Nat} {w : Wst} {i : Nat} {V : VT}
theorem c_choose {x y : Int32} {n k : Nat} (hx : x = kI (n : Int)) (hy : y = kI (k : Int)) (hn : n ≤ 12) (hk : k ≤ n) (hP : P (.inl (some (.long (kL (bin n k : Int))))) h) : WP ga L xs (d + 1) 135 [.int x, .int y] h P := by
  subst hx hy
  refine WP.enter kX6_choose (Nat.le_of_ble_eq_true rfl) (fun J hJ => ?_)
  have loop : ∀ m, m ≤ k → J 1 [some (.int (kI (n : Int))), some (.int (kI (k : Int))), some (.long (kL (bin (n - k + m) m : Int))), none, some (.int (kI ((m + 1 : Nat) : Int)))] [] h (0, 0) := up_ind (fun m hm ih => ?_)
  · have bin0 : ∀ n, bin n 0 = 1 := fun n => by cases n <;> rfl
    refine hJ 0 _ _ rfl _ _ _ _ (x_ldc2 (x_lstore rfl (x_sipush (x_istore rfl (x_goto (?_))))))
    refine J_c (loop 0 (Nat.zero_le _)) ?_
    rw [bin0]
    rfl
  have hb1 := bin_le (n - k + m) (by omega) m (by omega)
  have e1 : (kI (n : Int) - kI (k : Int) + kI ((m + 1 : Nat) : Int)).toInt64 = kL ((n - k + (m + 1) : Nat) : Int) := by
    rw [kI_sub, kI_add, show ((n : Int) - k + ((m + 1 : Nat) : Int)) = ((n - k + (m + 1) : Nat) : Int) by omega, kN_64 (by omega)]
  have h2 : bin (n - k + m) m * (n - k + (m + 1)) ≤ 924 * 13 := Nat.mul_le_mul hb1 (by omega)
  refine hJ 1 _ _ rfl _ _ _ _ (x_iload rfl (x_iload rfl (x_br2 (fun q1 => have q1 := gt_y rfl (by omega) q1; hJ 2 _ _ rfl _ _ _ _ (x_lload rfl (x_lret rfl ?_))) (fun q1 => have q1 := gt_n rfl (by omega) q1; x_lload rfl (x_iload rfl (x_iload rfl (x_isub (x_iload rfl (x_iadd (x_i2l (x_lmul (x_iload rfl (x_i2l (x_ldiv (fun z => by rw [kN_64 (by omega), kL_eq0 (by omega)] at z; omega) (x_lstore rfl (x_iinc rfl rfl (x_goto (?_))))))))))))))))))
  · have e : m = k := by omega
    subst e
    rw [show n - m + m = n by omega]
    exact hP
  · refine J_c (ih (by omega)) ?_
    rw [e1, kL_mulN, kN_64 (by omega), kL_div (by omega) (by omega), bin_step2 n (by omega) k hk m (by omega)]
    simp only [sI, kN_succ]
theorem c_power {x y : Int32} {b t : Nat} (hx : x = kI (b : Int)) (hy : y = kI (t : Int)) (hb9 : b ≤ 1000) (ht : t ≤ 1000) (hP : P (.inl (some (.long (kL ((b ^ t : Nat) : Int))))) h) : WP ga L xs (d + 1) 136 [.int x, .int y] h P := by
  subst hx hy
  refine WP.enter kX6_power (Nat.le_of_ble_eq_true rfl) (fun J hJ => ?_)
  have loop : ∀ m, m ≤ t → J 1 [some (.int (kI (b : Int))), some (.int (kI (t : Int))), some (.long (kL ((b ^ m : Nat) : Int))), none, some (.int (kI (m : Int)))] [] h (0, 0) := up_ind (fun m hm ih => ?_)
  · refine hJ 0 _ _ rfl _ _ _ _ (x_ldc2 (x_lstore rfl (x_sipush (x_istore rfl (x_goto (?_))))))
    exact loop 0 (Nat.zero_le _)
  refine hJ 1 _ _ rfl _ _ _ _ (x_iload rfl (x_iload rfl (x_br2 (fun q1 => have q1 := ge_y rfl (by omega) q1; hJ 2 _ _ rfl _ _ _ _ (x_lload rfl (x_lret rfl ?_))) (fun q1 => have q1 := ge_n rfl (by omega) q1; x_lload rfl (x_iload rfl (x_i2l (x_lmul (x_lstore rfl (x_iinc rfl rfl (x_goto (?_)))))))))))
  · have e : m = t := by omega
    subst e
    exact hP
  · refine J_c (ih (by omega)) ?_
    rw [kN_64 (by omega), kL_mulN, ← Nat.pow_succ]
    simp only [sI, kN_succ]
theorem x_doubts {x y : Int32} (W : WW ad w h) (hC : isC i) (hR : CR w i V) (hV : VOK V) (hc : wr w 0 0 = i) (kk : KC ad P w [1] (doubtT V x y) (.int (doubtsV V (tN x) (tN y)))) : WP ga L xs (d + 3) 115 [.ref (ad 0), .int x, .int y] h P := by
  have hn := hV.n.2
  have hw := hV.w.2
  unfold doubtT doubtsV at kk
  refine WP.enter kX6_doubts (Nat.le_of_ble_eq_true rfl) (fun J hJ => ?_)
  have b4 : isMemV V x = true → isWkV V y = true → (vR V (tN x) = kI 7 ∨ vR V (tN x) = kI 8) → ∀ bg (z1 : Int32) (z2 z3 z4 z5 z6 : Option Value), J 1 [some (.ref (ad 0)), some (.int x), some (.int y), some (.int z1), z2, z3, z4, z5, z6] [] h bg := fun hm hy hr bg z1 z2 z3 z4 z5 z6 => ?_
  · refine hJ 0 _ _ rfl _ _ _ _ (x_aload rfl (x_iload rfl (x_cvb rfl (Nat.le_of_ble_eq_true rfl) (isO_W W (by decide) shp_0) ⟨by decide, by decide⟩ (c_reqMember W hC hR hV hc (fun t1 => ?_) (fun t1 => xk_v (x_aload rfl (x_iload rfl (x_cvb rfl (Nat.le_of_ble_eq_true rfl) (isO_W W (by decide) shp_0) ⟨by decide, by decide⟩ (c_reqWeek W hC hR hV hc (fun t4 => ?_) (fun t4 => xk_v (x_aload rfl (w_getr W 6 0 (t := i) (by decide) shp_0 rfl rfl hc (w_getr W 0 10 (t := i + 1) hC.lt hC.sh rfl rfl (hC.rf1 _) (x_iload rfl (w_iald W (tN x) hC.lt1 hC.sh1 (isMem_m t1).1 (by have := (isMem_m t1).2; omega) (by decide) (x_istore rfl (x_iload rfl (x_sipush (x_br2 (fun q1 => have q1 := cy_eq q1; ?_) (fun q1 => have q1 := cn_eq q1; x_iload rfl (x_sipush (x_br2 (fun q2 => have q2 := cy_eq q2; ?_) (fun q2 => have q2 := cn_eq q2; x_sipush (x_iret (nrwI _) ?_))))))))))))))))))))))))
    · exact kk.no 0 (if_neg (fun z => by rw [z.1] at t1; cases t1)) W kp_refl
    · exact kk.no 0 (if_neg (fun z => by rw [z.2] at t4; cases t4)) W kp_refl
    · rw [(hR.2.1 _ (isMem_m t1).2).1] at q1
      exact b4 t1 t4 (Or.inl q1) _ _ _ _ _ _ _
    · rw [(hR.2.1 _ (isMem_m t1).2).1] at q2
      exact b4 t1 t4 (Or.inr q2) _ _ _ _ _ _ _
    · rw [(hR.2.1 _ (isMem_m t1).2).1] at q1 q2
      rw [if_pos ⟨t1, t4⟩, if_pos ⟨q1, q2⟩] at kk
      exact kk.yes rfl W kp_refl
  obtain ⟨x1, x2⟩ := isMem_m hm
  obtain ⟨y1, y2⟩ := isWk_m hy
  rw [if_pos ⟨hm, hy⟩, if_neg (fun z => hr.elim z.1 z.2)] at kk
  have hset : sok (nm V) (vS V (tN y)) := hV.2.2 _ y2
  have es4 : wa w (i + 4) (tN y) = vS V (tN y) := hR.2.2.1 _ y2
  have hpl : pc (hatsV V (vS V (tN y)) (tN x)) ≤ 12 := pc_le _
  have hs9 : sok (nm V) (hatsV V (wa w (i + 4) (tN y)) (tN x)) := (sok.mkS (n := tN x) (by omega)).mono (Nat.le_of_lt x2) hn
  have key : ∀ m, m ≤ pc (hatsV V (vS V (tN y)) (tN x)) + 1 → ∃ S : Nat, sm (dbtS V (tN x) (vS V (tN y))) m = kI (S : Int) ∧ S ≤ 924 * m := by
    intro m
    induction m with
    | zero => intro _; exact ⟨0, rfl, by omega⟩
    | succ m ih =>
      intro hm9
      obtain ⟨S, h1, h2⟩ := ih (by omega)
      have hb9 := bin_le (pc (hatsV V (vS V (tN y)) (tN x))) (by omega) m (by omega)
      show ∃ S : Nat, sm (dbtS V (tN x) (vS V (tN y))) m + dbtS V (tN x) (vS V (tN y)) m = _ ∧ _
      rw [h1]
      unfold dbtS
      split
      · exact ⟨S + bin (pc (hatsV V (vS V (tN y)) (tN x))) m, by rw [kI_add]; rfl, by omega⟩
      · exact ⟨S, by rw [kI_zero, Int32.add_zero], by omega⟩
  have loop : ∀ m, m ≤ pc (hatsV V (vS V (tN y)) (tN x)) + 1 → ∀ (S : Nat), sm (dbtS V (tN x) (vS V (tN y))) m = kI (S : Int) → S ≤ 924 * m → J 2 [some (.ref (ad 0)), some (.int x), some (.int y), some (.int z1), some (.int (vS V (tN y))), some (.int (kI (pc (hatsV V (vS V (tN y)) (tN x)) : Int))), some (.long (kL (S : Int))), none, some (.int (kI (m : Int)))] [] h bg := up_ind (fun m hm9 ih S hS hS2 => ?_)
  · refine hJ 1 _ _ rfl _ _ _ _ (x_aload rfl (w_getr W 6 0 (t := i) (by decide) shp_0 rfl rfl hc (w_getr W 0 13 (t := i + 4) hC.lt hC.sh rfl rfl (hC.rf4 _) (x_iload rfl (w_iald W (tN y) hC.lt4 hC.sh4 y1 (by omega) (by decide) (x_istore rfl (x_aload rfl (w_getr W 6 0 (t := i) (by decide) shp_0 rfl rfl hc (x_iload rfl (x_iload rfl (x_cv rfl (Nat.le_of_ble_eq_true rfl) (isO_W W hC.lt hC.sh) (c_hatsAhead W hC hR hV x1 x2 (xk_go (x_cs rfl (Nat.le_of_ble_eq_true rfl) (c_bitc hs9 (xk_go (x_istore rfl (x_ldc2 (x_lstore rfl (x_sipush (x_istore rfl (x_goto (?_)))))))))))))))))))))))
    refine J_c (loop 0 (Nat.zero_le _) 0 rfl (by omega)) ?_
    rw [es4]
    rfl
  generalize hH : pc (hatsV V (vS V (tN y)) (tN x)) = H at *
  have es : sm (dbtS V (tN x) (vS V (tN y))) (m + 1) = sm (dbtS V (tN x) (vS V (tN y))) m + dbtS V (tN x) (vS V (tN y)) m := rfl
  have hbi : ∀ a b : Bool, bI a = bI b ↔ a = b := by decide
  refine hJ 2 _ _ rfl _ _ _ _ (x_iload rfl (x_iload rfl (x_br2 (fun q1 => have q1 := gt_y rfl (by omega) q1; hJ 4 _ _ rfl _ _ _ _ (x_lload rfl (x_l2i (x_iret (nrwI _) ?_)))) (fun q1 => have q1 := gt_n rfl (by omega) q1; x_aload rfl (w_getr W 6 0 (t := i) (by decide) shp_0 rfl rfl hc (x_iload rfl (x_iload rfl (x_cv rfl (Nat.le_of_ble_eq_true rfl) (isO_W W hC.lt hC.sh) (c_comesBySeeing W hC hR hV x1 x2 (xk_go (x_aload rfl (w_getr W 6 0 (t := i) (by decide) shp_0 rfl rfl hc (x_iload rfl (x_iload rfl (x_cv rfl (Nat.le_of_ble_eq_true rfl) (isO_W W hC.lt hC.sh) (c_has x1 (by omega) (xk_go (x_br2 (fun q2 => have q2 := cy_ne q2; hJ 3 _ _ rfl _ _ _ _ (x_iinc rfl rfl (x_goto (?_)))) (fun q2 => have q2 := cn_ne q2; x_lload rfl (x_iload rfl (x_iload rfl (x_cs rfl (Nat.le_of_ble_eq_true rfl) (c_choose rfl rfl (by omega) (by omega) (xk_go (x_ladd (x_lstore rfl (x_goto (hJ 3 _ _ rfl _ _ _ _ (x_iinc rfl rfl (x_goto (?_)))))))))))))))))))))))))))))))
  · have e : m = H + 1 := by omega
    subst e
    rw [hS] at kk
    rw [l2i_k]
    exact kk.yes rfl W kp_refl
  · rw [hbi] at q2
    have e : dbtS V (tN x) (vS V (tN y)) m = kI 0 := if_neg q2
    refine J_c (ih (by omega) S (by rw [es, e, hS, kI_zero, Int32.add_zero]) (by omega)) ?_
    simp only [sI, kN_succ]
  · rw [hbi] at q2
    have e : dbtS V (tN x) (vS V (tN y)) m = kI (bin H m : Int) := by
      unfold dbtS
      rw [if_pos q2, hH]
    have hb9 := bin_le H (by omega) m (by omega)
    refine J_c (ih (by omega) (S + bin H m) (by rw [es, e, hS, kI_add]; rfl) (by omega)) ?_
    rw [kL_addN]
    simp only [sI, kN_succ]
end X6
