/-! ===== two clubs: the class and the model ===== -/
theorem lgc_y {a N : Nat} (ha : a ≤ 100000) (hN : N ≤ 100000) (b : 0 ≤ lg_cmp (kI (a : Int)).toInt64 (kL (N : Int))) : N ≤ a := by
  rw [← Int32.not_lt, lg_lt, kN_64 (by omega), kL_toInt (by omega) (by omega), kL_toInt (by omega) (by omega)] at b
  omega
theorem lgc_n {a N : Nat} (ha : a ≤ 100000) (hN : N ≤ 100000) (b : ¬ 0 ≤ lg_cmp (kI (a : Int)).toInt64 (kL (N : Int))) : a < N := by
  rw [← Int32.not_lt, Decidable.not_not, lg_lt, kN_64 (by omega), kL_toInt (by omega) (by omega), kL_toInt (by omega) (by omega)] at b
  omega
section W1
variable {ga : Nat → Nat} {L : Nat} {xs : Nat → Int32} {d : Nat} {h : ac_H} {P : ac_P} {ad : Nat → Nat} {w : Wst} {i : Nat} {V : VT}
theorem c_find {x y z : Int32} (W : WW ad w h) (hC : isC i) (hR : CR w i V) (hV : VOK V) (hn8 : nm V ≤ 8) (kk : ∀ h' w', WW ad w' h' → kp l6061 w w' → P (.inl (some (.int (twoV V x y z)))) h') : WP ga L xs (d + 3) 65 [.ref (ad 60), .ref (ad i), .int x, .int y, .int z] h P := by
  have hp3 := pow3 hn8
  have hn12 := hV.n.2
  refine WP.enter kX5_find (Nat.le_of_ble_eq_true rfl) (fun J hJ => ?_)
  have loop : ∀ n, n ≤ 3 ^ nm V → ∀ h' w' c, WW ad w' h' → kp l6061 w w' → OD w' i (nm V) x y (dg n) → fo (kthF (rstB V x y) z) (none, 0) n = (none, c) → J 1 [some (.ref (ad 60)), some (.ref (ad i)), some (.int x), some (.int y), some (.int z), some (.long (kL ((3 ^ nm V : Nat) : Int))), none, some (.int (kI (c : Int))), some (.int (kI (n : Int)))] [] h' (0, 0) := up_ind (fun n hm ih h0 w0 c W0 hk ho hst => ?_)
  · refine hJ 0 _ _ rfl _ _ _ _ (x_aload rfl (x_aload rfl (x_iload rfl (x_iload rfl (x_cv rfl (Nat.le_of_ble_eq_true rfl) (isO_W W (by decide) shp_60) (c_begin W hC hn8 (fun h1 w1 W1 e1 o1 => xk_v (x_sipush (x_aload rfl (w_geti W1 0 4 hC.lt hC.sh rfl rfl (x_cs rfl (Nat.le_of_ble_eq_true rfl) (c_power (b := 3) (t := nm V) rfl ((hR.far e1 hC l6061G).n hV) (by omega) (by omega) (xk_go (x_lstore rfl (x_sipush (x_istore rfl (x_sipush (x_istore rfl (x_goto (?_))))))))))))))))))))
    exact loop 0 (Nat.zero_le _) _ _ 0 W1 e1 o1 rfl
  have hR0 : CR w0 i V := hR.far hk hC l6061G
  have hcn := kth_cnt hst
  unfold twoV at kk
  refine hJ 1 _ _ rfl _ _ _ _ (x_iload rfl (x_i2l (x_lload rfl (x_lcmp (x_br (fun q1 => have q1 := lgc_y (by omega) (by omega) q1; hJ 4 _ _ rfl _ _ _ _ (x_iload rfl (x_sipush (x_br2 (fun q2 => have q2 := cy_ne q2; hJ 5 _ _ rfl _ _ _ _ (x_sipush (x_goto (hJ 6 _ _ rfl _ _ _ _ (x_iret (nrwI _) ?_))))) (fun q2 => have q2 := cn_ne q2; x_iload rfl (x_goto (hJ 6 _ _ rfl _ _ _ _ (x_iret (nrwI _) ?_)))))))) (fun q1 => have q1 := lgc_n (by omega) (by omega) q1; x_aload rfl (x_cv rfl (Nat.le_of_ble_eq_true rfl) (isO_W W0 (by decide) shp_60) (c_isAtRest W0 hC hR0 hV hn8 ho (fun j => dg_lt j n) (xk_go (x_br (fun q3 => have q3 := bI_eq0.mp q3; hJ 3 _ _ rfl _ _ _ _ (x_aload rfl (x_cv rfl (Nat.le_of_ble_eq_true rfl) (isO_W W0 (by decide) shp_60) (c_turnOn W0 hC hR0 hV hn8 ho (fun h1 w1 W1 e1 o1 => xk_v (x_iinc rfl rfl (x_goto (?_)))))))) (fun q3 => have q3 := bI_ne0.mp q3; x_iload rfl (x_iload rfl (x_br2 (fun q4 => have q4 := cy_ne q4; hJ 2 _ _ rfl _ _ _ _ (x_iinc rfl rfl (x_goto (hJ 3 _ _ rfl _ _ _ _ (x_aload rfl (x_cv rfl (Nat.le_of_ble_eq_true rfl) (isO_W W0 (by decide) shp_60) (c_turnOn W0 hC hR0 hV hn8 ho (fun h2 w2 W2 e2 o2 => xk_v (x_iinc rfl rfl (x_goto (?_))))))))))) (fun q4 => have q4 := cn_ne q4; x_iload rfl (x_iret (nrwI _) ?_)))))))))))))))
  · have e : n = 3 ^ nm V := by omega
    rw [e] at hst
    rw [kth_end hst, if_neg q2] at kk
    exact kk h0 w0 W0 hk
  · have e : n = 3 ^ nm V := by omega
    rw [e] at hst
    rw [kth_end hst, if_pos q2] at kk
    exact kk h0 w0 W0 hk
  · have q5 : rstB V x y n = false := q3
    exact J_c (ih q1 h1 _ _ W1 (hk.trans e1) o1 (kth_no hst q5)) (by simp only [sI, kN_succ])
  · have q5 : rstB V x y n = true := q3
    exact J_c (ih q1 h2 _ _ W2 (hk.trans e2) o2 (kth_go hst q5 q4)) (by simp only [sI, kN_succ])
  · have q5 : rstB V x y n = true := q3
    rw [kth_stop hst q5 q4 q1] at kk
    exact kk h0 w0 W0 hk
theorem x_two {x y z : Int32} (W : WW ad w h) (hC : isC i) (hR : CR w i V) (hV : VOK V) (hc : wr w 0 0 = i) (kk : KC ad P w [0, 2] (twoT V x y) (.int (twoV V x y z))) : WP ga L xs (d + 4) 94 [.ref (ad 0), .int x, .int y, .int z] h P := by
  have hn := hV.n.2
  have en : wn w i 4 = kI (nm V : Int) := hR.n hV
  have h8 : wn w i 4 ≤ kI 8 → nm V ≤ 8 := fun q => by
    rw [en] at q
    exact (kN_le (b := 8) (by omega) (by omega)).mp q
  unfold twoT at kk
  refine WP.enter kX6_two (Nat.le_of_ble_eq_true rfl) (fun J hJ => ?_)
  refine hJ 0 _ _ rfl _ _ _ _ (x_iload rfl (x_sipush (x_sipush (x_csb rfl (Nat.le_of_ble_eq_true rfl) ⟨by decide, by decide⟩ (c_reqWithin rfl rfl (by omega) (fun t1 => ?_) (fun t1 => xk_v (x_iload rfl (x_sipush (x_sipush (x_csb rfl (Nat.le_of_ble_eq_true rfl) ⟨by decide, by decide⟩ (c_reqWithin rfl rfl (by omega) (fun t2 => ?_) (fun t2 => xk_v (x_aload rfl (w_getr W 6 0 (t := i) (by decide) shp_0 rfl rfl hc (w_geti W 0 4 hC.lt hC.sh rfl rfl (x_sipush (x_br2 (fun q1 => have q1 := cy_le q1; hJ 1 _ _ rfl _ _ _ _ (x_aload rfl (w_getr W 6 6 (t := 60) (by decide) shp_0 rfl rfl rfl (x_aload rfl (w_getr W 6 0 (t := i) (by decide) shp_0 rfl rfl hc (x_iload rfl (x_iload rfl (x_iload rfl (x_cv rfl (Nat.le_of_ble_eq_true rfl) (isO_W W (by decide) shp_60) (c_find W hC hR hV (h8 q1) (fun h1 w1 W1 e1 => xk_go (x_iret (nrwI _) ?_)))))))))))) (fun q1 => have q1 := cn_le q1; x_thr ⟨by decide, by decide⟩ (Nat.le_of_ble_eq_true rfl) (by decide) ?_))))))))))))))))))
  · exact kk.no 0 (if_neg (fun z => by rw [t1] at z; cases z.1)) W kp_refl
  · exact kk.no 0 (if_neg (fun z => by rw [t2] at z; cases z.2)) W kp_refl
  · exact kk.yes (by rw [if_pos ⟨t1, t2⟩, if_neg (by have := h8 q1; omega)]) W1 (e1.mono l6061S)
  · rw [en] at q1
    have q1 := (kN_lt (a := 8) (by omega) (by omega)).mp q1
    exact kk.no 1 (by rw [if_pos ⟨t1, t2⟩, if_pos q1]) W kp_refl
end W1
