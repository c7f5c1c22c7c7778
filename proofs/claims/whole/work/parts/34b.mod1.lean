/-! ===== the model: reading ===== -/
section M1
variable {ga : Nat → Nat} {L : Nat} {xs : Nat → Int32} {d : Nat} {h : ac_H} {P : ac_P} {ad : Nat → Nat} {w : Wst} {V : VT}
theorem c7_within {x y z : Int64} (hP : P (.inl (some (.int (bI (decide (y.toInt ≤ x.toInt ∧ x.toInt ≤ z.toInt)))))) h) : WP ga L xs (d + 1) 140 [.long x, .long y, .long z] h P := by
  refine WP.enter kX7_within (Nat.le_of_ble_eq_true rfl) (fun J hJ => ?_)
  refine hJ 0 _ _ rfl _ _ _ _ (x_lload rfl (x_lload rfl (x_lcmp (x_br (fun b1 => have b1 := cy_lt b1; hJ 1 _ _ rfl _ _ _ _ (x_sipush (x_goto (hJ 2 _ _ rfl _ _ _ _ (x_iret (by first | exact nrwB _ | rfl | decide) ?_))))) (fun b1 => have b1 := cn_lt b1; x_lload rfl (x_lload rfl (x_lcmp (x_br (fun b2 => have b2 := cy_gt b2; hJ 1 _ _ rfl _ _ _ _ (x_sipush (x_goto (hJ 2 _ _ rfl _ _ _ _ (x_iret (by first | exact nrwB _ | rfl | decide) ?_))))) (fun b2 => have b2 := cn_gt b2; x_sipush (x_goto (hJ 2 _ _ rfl _ _ _ _ (x_iret (by first | exact nrwB _ | rfl | decide) ?_))))))))))))
  · rw [lg_lt] at b1
    rw [decide_eq_false (by omega)] at hP
    exact hP
  · rw [← Int32.not_lt, lg_lt] at b1
    rw [lg_gt] at b2
    rw [decide_eq_false (by omega)] at hP
    exact hP
  · rw [← Int32.not_lt, lg_lt] at b1
    rw [← Int32.not_lt, lg_gt] at b2
    rw [decide_eq_true (by omega)] at hP
    exact hP
theorem c7_has {m : Nat} {s x : Int32} (hx : x = kI (m : Int)) (hm : m < 32) (hP : P (.inl (some (.int (bI (hb s m))))) h) : WP ga L xs (d + 1) 141 [.int s, .int x] h P := by
  subst hx
  refine WP.enter kX7_has (Nat.le_of_ble_eq_true rfl) (fun J hJ => ?_)
  refine hJ 0 _ _ rfl _ _ _ _ (x_iload rfl (x_iload rfl (x_ishr (x_sipush (x_iand (x_sipush (x_br2 (fun b1 => have b1 := cy_ne b1; hJ 1 _ _ rfl _ _ _ _ (x_sipush (x_goto (hJ 2 _ _ rfl _ _ _ _ (x_iret (by first | exact nrwB _ | rfl | decide) ?_))))) (fun b1 => have b1 := cn_ne b1; x_sipush (x_goto (hJ 2 _ _ rfl _ _ _ _ (x_iret (by first | exact nrwB _ | rfl | decide) ?_)))))))))))
  · rw [shr_and1 hm] at b1
    have e : hb s m = false := by
      cases h9 : hb s m
      · rfl
      · rw [h9] at b1
        exact absurd rfl b1
    rw [e] at hP
    exact hP
  · rw [shr_and1 hm] at b1
    have e : hb s m = true := by
      cases h9 : hb s m
      · rw [h9] at b1
        exact absurd b1 (by decide)
      · rfl
    rw [e] at hP
    exact hP
theorem c7_size {n : Nat} {s : Int32} (hs : sok n s) (hP : P (.inl (some (.int (kI (pc s : Int))))) h) : WP ga L xs (d + 1) 142 [.int s] h P := by
  obtain ⟨a, ha, rfl⟩ := sok12 hs
  refine WP.enter kX7_size (Nat.le_of_ble_eq_true rfl) (fun J hJ => ?_)
  have loop : ∀ a9 : Nat, a9 < 4096 → ∀ c : Nat, c + pc (kI (a9 : Int)) = pc (kI (a : Int)) → J 1 [some (.int (kI (a : Int))), some (.int (kI (c : Int))), some (.int (kI (a9 : Int)))] [] h (0, 0) := by
    intro a9
    induction a9 using Nat.strongRecOn with
    | _ a9 ih =>
      intro ha9 c hc
      refine hJ 1 _ _ rfl _ _ _ _ (x_iload rfl (x_br (fun b1 => have b1 := cy_eq b1; hJ 2 _ _ rfl _ _ _ _ (x_iload rfl (x_iret (nrwI _) ?_))) (fun b1 => have b1 := cn_eq b1; x_iinc rfl rfl (x_iload rfl (x_iload rfl (x_sipush (x_isub (x_iand (x_istore rfl (x_goto (?_)))))))))))
      · rw [kN_eq0 (by omega)] at b1
        subst b1
        have : pc (kI ((0 : Nat) : Int)) = 0 := by decide
        rw [← hc, this] at hP
        exact hP
      · rw [kN_eq0 (by omega)] at b1
        obtain ⟨e1, e2⟩ := sz_all a9 ha9 (by omega)
        have e3 := and_pred_lt (a := a9) (by omega)
        refine J_c (ih _ e3 (by omega) (c + 1) (by omega)) ?_
        simp only [sI, kN_succ, e1]
  refine hJ 0 _ _ rfl _ _ _ _ (x_sipush (x_istore rfl (x_iload rfl (x_istore rfl (x_goto (?_))))))
  exact loop a ha 0 (by omega)
theorem c7_many (W : WW ad w h) (hK : wa w 81 = V) (hV : VOK V) (hP : P (.inl (some (.int (kI (nm V : Int))))) h) : WP ga L xs (d + 1) 159 [.ref (ad 80)] h P := by
  rw [← hV.n.1, ← hK] at hP
  refine WP.enter kX7_many (Nat.le_of_ble_eq_true rfl) (fun J hJ => ?_)
  exact hJ 0 _ _ rfl _ _ _ _ (x_aload rfl (w_getr W 7 0 (t := 81) (by decide) shp_80 rfl rfl rfl (x_sipush (w_iald W 4 (by decide) shp_81 rfl (by decide) (by decide) (x_iret (nrwI _) hP)))))
theorem c7_of {m t : Nat} {x y : Int32} (W : WW ad w h) (hK : wa w 81 = V) (hx : x = kI (m : Int)) (hy : y = kI (t : Int)) (hm : m < 12) (ht : t < 4) (hP : P (.inl (some (.int (V (6 + 4 * m + t))))) h) : WP ga L xs (d + 1) 163 [.ref (ad 80), .int x, .int y] h P := by
  subst hx hy
  rw [← hK] at hP
  refine WP.enter kX7_of (Nat.le_of_ble_eq_true rfl) (fun J hJ => ?_)
  exact hJ 0 _ _ rfl _ _ _ _ (x_aload rfl (w_getr W 7 0 (t := 81) (by decide) shp_80 rfl rfl rfl (x_sipush (x_sipush (x_iload rfl (x_imul (x_iadd (x_iload rfl (x_iadd (w_iald W (6 + 4 * m + t) (by decide) shp_81 (of_ix m t) (by omega) (by decide) (x_iret (nrwI _) hP)))))))))))
theorem c7_all (W : WW ad w h) (hK : wa w 81 = V) (hV : VOK V) (hP : P (.inl (some (.int (everyV V)))) h) : WP ga L xs (d + 2) 160 [.ref (ad 80)] h P := by
  have hn := hV.n.2
  refine WP.enter kX7_all (Nat.le_of_ble_eq_true rfl) (fun J hJ => ?_)
  exact hJ 0 _ _ rfl _ _ _ _ (x_sipush (x_aload rfl (x_cv rfl (Nat.le_of_ble_eq_true rfl) (isO_W W (by decide) shp_80) (c7_many W hK hV (xk_go (x_shl1 (by omega) (x_sipush (x_isub (x_iret (nrwI _) hP)))))))))
theorem every_toInt {V : VT} (hV : VOK V) : everyV V = kI ((2 ^ nm V - 1 : Nat) : Int) := by
  have key : ∀ n, n < 13 → b1 n - kI 1 = kI ((2 ^ n - 1 : Nat) : Int) := by decide +kernel
  exact key _ (by have := hV.n.2; omega)
theorem c7_isMember {x : Int32} (W : WW ad w h) (hK : wa w 81 = V) (hV : VOK V) (hP : P (.inl (some (.int (bI (isMemV V x))))) h) : WP ga L xs (d + 2) 161 [.ref (ad 80), .int x] h P := by
  have hn := hV.n.2
  have e : isMemV V x = decide ((Int64.ofNat 0).toInt ≤ x.toInt64.toInt ∧ x.toInt64.toInt ≤ ((kI (nm V : Int) - kI 1).toInt64).toInt) := by
    rw [toInt64_toInt, toInt64_toInt, i64_nat (by omega), kI_sub, kI_toInt (by omega) (by omega)]
    unfold isMemV
    rw [decide_eq_decide]
    omega
  rw [e] at hP
  refine WP.enter kX7_isMember (Nat.le_of_ble_eq_true rfl) (fun J hJ => ?_)
  exact hJ 0 _ _ rfl _ _ _ _ (x_iload rfl (x_i2l (x_ldc2 (x_aload rfl (x_cv rfl (Nat.le_of_ble_eq_true rfl) (isO_W W (by decide) shp_80) (c7_many W hK hV (xk_go (x_sipush (x_isub (x_i2l (x_cs rfl (Nat.le_of_ble_eq_true rfl) (c7_within (xk_go (x_iret (by first | exact nrwB _ | rfl | decide) hP))))))))))))))
theorem c7_isSet {x : Int32} (W : WW ad w h) (hK : wa w 81 = V) (hV : VOK V) (hP : P (.inl (some (.int (bI (isSetV V x))))) h) : WP ga L xs (d + 3) 162 [.ref (ad 80), .int x] h P := by
  have hn := hV.n.2
  have h2 : 2 ^ nm V ≤ 2 ^ 12 := Nat.pow_le_pow_right (by decide) hn
  have h3 : 0 < 2 ^ nm V := Nat.pow_pos (by decide)
  have e : isSetV V x = decide ((Int64.ofNat 0).toInt ≤ x.toInt64.toInt ∧ x.toInt64.toInt ≤ ((everyV V).toInt64).toInt) := by
    rw [toInt64_toInt, toInt64_toInt, i64_nat (by omega), every_toInt hV, kI_toInt (by omega) (by omega)]
    unfold isSetV
    rw [decide_eq_decide]
    omega
  rw [e] at hP
  refine WP.enter kX7_isSet (Nat.le_of_ble_eq_true rfl) (fun J hJ => ?_)
  exact hJ 0 _ _ rfl _ _ _ _ (x_iload rfl (x_i2l (x_ldc2 (x_aload rfl (x_cv rfl (Nat.le_of_ble_eq_true rfl) (isO_W W (by decide) shp_80) (c7_all W hK hV (xk_go (x_i2l (x_cs rfl (Nat.le_of_ble_eq_true rfl) (c7_within (xk_go (x_iret (by first | exact nrwB _ | rfl | decide) hP))))))))))))
theorem c7_meets {n : Nat} {s : Int32} (W : WW ad w h) (hK : wa w 81 = V) (hs : sok n s) (hP : P (.inl (some (.int (bI (meetsV V s))))) h) : WP ga L xs (d + 2) 164 [.ref (ad 80), .int s] h P := by
  refine WP.enter kX7_meets (Nat.le_of_ble_eq_true rfl) (fun J hJ => ?_)
  refine hJ 0 _ _ rfl _ _ _ _ (x_iload rfl (x_cs rfl (Nat.le_of_ble_eq_true rfl) (c7_size hs (xk_go (x_aload rfl (w_getr W 7 0 (t := 81) (by decide) shp_80 rfl rfl rfl (x_sipush (w_iald W 1 (by decide) shp_81 rfl (by decide) (by decide) (x_br2 (fun b1 => have b1 := cy_ne b1; hJ 1 _ _ rfl _ _ _ _ (x_sipush (x_goto (hJ 2 _ _ rfl _ _ _ _ (x_iret (by first | exact nrwB _ | rfl | decide) ?_))))) (fun b1 => have b1 := cn_ne b1; x_sipush (x_goto (hJ 2 _ _ rfl _ _ _ _ (x_iret (by first | exact nrwB _ | rfl | decide) ?_)))))))))))))
  · rw [hK] at b1
    rw [show meetsV V s = false from decide_eq_false b1] at hP
    exact hP
  · rw [hK] at b1
    rw [show meetsV V s = true from decide_eq_true b1] at hP
    exact hP
theorem c7_payOf {n m : Nat} {s x : Int32} (W : WW ad w h) (hK : wa w 81 = V) (hs : sok n s) (hx : x = kI (m : Int)) (hm : m < 12) (hP : P (.inl (some (.int (payV V s m)))) h) : WP ga L xs (d + 3) 165 [.ref (ad 80), .int s, .int x] h P := by
  subst hx
  have e8 : V (6 + 4 * m + 2) = vC V m := by unfold vC; congr 1; omega
  unfold payV at hP
  refine WP.enter kX7_payOf (Nat.le_of_ble_eq_true rfl) (fun J hJ => ?_)
  refine hJ 0 _ _ rfl _ _ _ _ (x_iload rfl (x_iload rfl (x_cs rfl (Nat.le_of_ble_eq_true rfl) (c7_has rfl (by omega) (xk_go (x_br (fun b1 => have b1 := bI_eq0.mp b1; hJ 3 _ _ rfl _ _ _ _ (x_sipush (x_goto (hJ 4 _ _ rfl _ _ _ _ (x_iret (nrwI _) ?_))))) (fun b1 => have b1 := bI_ne0.mp b1; x_aload rfl (x_iload rfl (x_cv rfl (Nat.le_of_ble_eq_true rfl) (isO_W W (by decide) shp_80) (c7_meets W hK hs (xk_go (x_br (fun b2 => have b2 := bI_eq0.mp b2; hJ 1 _ _ rfl _ _ _ _ (x_sipush (x_goto (hJ 2 _ _ rfl _ _ _ _ (x_aload rfl (x_iload rfl (x_sipush (x_cv rfl (Nat.le_of_ble_eq_true rfl) (isO_W W (by decide) shp_80) (c7_of W hK rfl rfl (by omega) (by decide) (xk_go (x_isub (x_goto (hJ 4 _ _ rfl _ _ _ _ (x_iret (nrwI _) ?_)))))))))))))) (fun b2 => have b2 := bI_ne0.mp b2; x_aload rfl (w_getr W 7 0 (t := 81) (by decide) shp_80 rfl rfl rfl (x_sipush (w_iald W 2 (by decide) shp_81 rfl (by decide) (by decide) (x_goto (hJ 2 _ _ rfl _ _ _ _ (x_aload rfl (x_iload rfl (x_sipush (x_cv rfl (Nat.le_of_ble_eq_true rfl) (isO_W W (by decide) shp_80) (c7_of W hK rfl rfl (by omega) (by decide) (xk_go (x_isub (x_goto (hJ 4 _ _ rfl _ _ _ _ (x_iret (nrwI _) ?_))))))))))))))))))))))))))))
  · rw [if_neg (by rw [b1]; decide)] at hP
    exact hP
  · rw [if_pos b1, if_neg (by rw [b2]; decide)] at hP
    rw [e8]
    exact hP
  · rw [if_pos b1, if_pos b2] at hP
    rw [e8, hK]
    exact hP

end M1
