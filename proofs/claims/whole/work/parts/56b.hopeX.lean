/-! ===== hope: the class ===== -/
section W1
variable {ga : Nat → Nat} {L : Nat} {xs : Nat → Int32} {d : Nat} {h : ac_H} {P : ac_P} {ad : Nat → Nat} {w : Wst} {i : Nat} {V : VT}
theorem x_hope {x y z u : Int32} (W : WW ad w h) (hC : isC i) (hR : CR w i V) (hV : VOK V) (hc : wr w 0 0 = i) (kk : KC ad P w [1, 0] (hopeT V x y z u) (.long (hopeV V x y z u))) : WP ga L xs (d + 4) 105 [.ref (ad 0), .int x, .int y, .int z, .int u] h P := by
  have hn := hV.n.2
  have hi := hR.n hV
  have zN : inV z 1 20 = true → z = kI (tN z : Int) := fun h9 => (xnV (a := 1) (b := 20) h9).1
  have zB : inV z 1 20 = true → 1 ≤ tN z ∧ tN z ≤ 20 := fun h9 => (xnV (a := 1) (b := 20) h9).2
  have yN : inV z 1 20 = true → inV y 0 z.toInt = true → y = kI (tN y : Int) ∧ tN y ≤ tN z := fun h8 h9 => in0y h8 h9
  have hAb : inV z 1 20 = true → 0 < hopeA V (tN z) ∧ hopeA V (tN z) ≤ 204800000000000 := fun h9 => hopeA_b hn (zB h9)
  have hAc : inV z 1 20 = true → 0 < hopeA V (tN z) ∧ hopeA V (tN z) ≤ 1000000000000000000 := fun h9 => by have := hAb h9; omega
  have eoth : isMemV V x = true → wn w i 4 - kI 1 = kI ((nm V - 1 : Nat) : Int) := fun h9 => by
    rw [hi]
    exact kN_pred (by have := (isMem_m h9).2; omega)
  have emax : inV z 1 20 = true → kL (if (1 : Int) < hopeA V (tN z) then hopeA V (tN z) else 1) = kL (hopeA V (tN z)) := fun h9 => by
    have := hAb h9
    split
    · rfl
    · rw [show hopeA V (tN z) = 1 by omega]
  have hvb : isMemV V x = true → inV z 1 20 = true → inV y 0 z.toInt = true → bndL (hopeI V (tN x) (tN y) (tN z)) := fun h1 h2 h3 => by
    have := hopeI_b (m := tN x) hV (isMem_m h1).2 (yN h2 h3).2 (zB h2)
    unfold bndL
    omega
  have hvv : isMemV V x = true → inV z 1 20 = true → inV y 0 z.toInt = true → (wn w i 2).toInt64 * waysV (nm V - 1) (wn w i 1 - kI 1) (tN y) (tN z) - (wa w (i + 3) (tN x)).toInt64 * kL (hopeA V (tN z)) = kL (hopeI V (tN x) (tN y) (tN z)) := fun h1 h2 h3 => by
    rw [hR.1.2.1, hR.1.2.2.1, (hR.2.1 _ (isMem_m h1).2).2.2, toI64, toI64, ← kL_of (waysV (nm V - 1) (V 1 - kI 1) (tN y) (tN z)), kL_mul, kL_mul, kL_sub]
    rfl
  unfold hopeT hopeV at kk
  refine WP.enter kX6_hope (Nat.le_of_ble_eq_true rfl) (fun J hJ => ?_)
  refine hJ 0 _ _ rfl _ _ _ _ (x_aload rfl (x_iload rfl (x_cvb rfl (Nat.le_of_ble_eq_true rfl) (isO_W W (by decide) shp_0) ⟨by decide, by decide⟩ (c_reqMember W hC hR hV hc (fun t1 => ?_) (fun t1 => xk_v (x_iload rfl (x_iload rfl (x_csb rfl (Nat.le_of_ble_eq_true rfl) ⟨by decide, by decide⟩ (c_reqChance (fun t2 => ?_) (fun t2 t3 => xk_v (x_iload rfl (x_sipush (x_sipush (x_csb rfl (Nat.le_of_ble_eq_true rfl) ⟨by decide, by decide⟩ (c_reqWithin rfl rfl (by omega) (fun t4 => ?_) (fun t4 => xk_v (x_aload rfl (w_getr W 6 0 (t := i) (by decide) shp_0 rfl rfl hc (w_geti W 0 4 hC.lt hC.sh rfl rfl (x_sipush (x_isub (x_istore rfl (x_ldc2 (x_iload rfl (x_iload rfl (x_cs rfl (Nat.le_of_ble_eq_true rfl) (c_power (b := tN z) (t := nm V - 1) (zN t2) (eoth t1) (by have := zB t2; omega) (by omega) (xk_go (x_cs rfl (Nat.le_of_ble_eq_true rfl) (c_maxL (v := 1) (A := hopeA V (tN z)) ⟨by omega, by omega⟩ (by have := hAb t2; unfold bndL; omega) (xk_go (x_eql (emax t2) (x_lstore rfl (x_aload rfl (w_getr W 6 0 (t := i) (by decide) shp_0 rfl rfl hc (w_geti W 0 2 hC.lt hC.sh rfl rfl (x_i2l (x_iload rfl (x_aload rfl (w_getr W 6 0 (t := i) (by decide) shp_0 rfl rfl hc (w_geti W 0 1 hC.lt hC.sh rfl rfl (x_sipush (x_isub (x_iload rfl (x_iload rfl (x_cs rfl (Nat.le_of_ble_eq_true rfl) (c_waysThat (eoth t1) (by omega) (yN t2 t3).1 (zN t2) (yN t2 t3).2 (zB t2).2 (xk_go (x_lmul (x_aload rfl (w_getr W 6 0 (t := i) (by decide) shp_0 rfl rfl hc (w_getr W 0 12 (t := i + 3) hC.lt hC.sh rfl rfl (hC.rf3 _) (x_iload rfl (w_iald W (tN x) hC.lt3 hC.sh3 (isMem_m t1).1 (by have := (isMem_m t1).2; omega) (by decide) (x_i2l (x_lload rfl (x_lmul (x_lsub (x_eql (hvv t1 t2 t3) (x_lstore rfl (x_iload rfl (x_br (fun q1 => have q1 := cy_ne q1; hJ 1 _ _ rfl _ _ _ _ (x_lload rfl (x_lload rfl (x_cs rfl (Nat.le_of_ble_eq_true rfl) (c_floorMod (hvb t1 t2 t3) (hAc t2) (xk_go (x_goto (hJ 2 _ _ rfl _ _ _ _ (x_lret rfl ?_))))))))) (fun q1 => have q1 := cn_ne q1; x_lload rfl (x_lload rfl (x_cs rfl (Nat.le_of_ble_eq_true rfl) (c_floorDiv (hvb t1 t2 t3) (hAc t2) (xk_go (x_goto (hJ 2 _ _ rfl _ _ _ _ (x_lret rfl ?_))))))))))))))))))))))))))))))))))))))))))))))))))))))))))))))))))))))
  · exact kk.no 0 (if_neg (by rw [t1]; decide)) W kp_refl
  · exact kk.no 1 (by
      unfold oddsT at t2
      rw [if_pos t1, if_neg (fun z9 => by rw [if_pos ⟨z9.1, z9.2.1⟩] at t2; cases t2)]) W kp_refl
  · exact kk.no 1 (by rw [if_pos t1, if_neg (fun z9 => by rw [t4] at z9; cases z9.2.2)]) W kp_refl
  · rw [if_pos t1, if_pos ⟨t2, t3, t4⟩, if_neg (show ¬ u = kI 0 from q1)] at kk
    exact kk.yes rfl W kp_refl
  · rw [if_pos t1, if_pos ⟨t2, t3, t4⟩, if_pos (show u = kI 0 from q1)] at kk
    exact kk.yes rfl W kp_refl
end W1
