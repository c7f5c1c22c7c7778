/-! ===== what one is worth: the class ===== -/
def worthT (V : VT) (x y : Int32) : Nat := if isMemV V x = true then (if inV y 1 60 = true then 0 else 2) else 1
def worthV (V : VT) (x y : Int32) : Int32 := metV V (tN y) - metV (neverV V (tN x)) (tN y)
section B1
variable {ga : Nat → Nat} {L : Nat} {xs : Nat → Int32} {d : Nat} {h : ac_H} {P : ac_P} {ad : Nat → Nat} {w : Wst} {i : Nat} {V : VT}
theorem side {i j : Nat} (hC : isC i) (h20 : i ≠ 20) (hj : j < 5) (z : i + j ∈ [20, 20 + 1, 20 + 2, 20 + 3, 20 + 4]) : False := by
  simp at z
  unfold isC at hC
  omega
theorem x_worth {x y : Int32} (W : WW ad w h) (hC : isC i) (hR : CR w i V) (hV : VOK V) (hc : wr w 0 0 = i) (h20 : i ≠ 20) (kk : KC ad P w [1, 0] (worthT V x y) (.int (worthV V x y))) : WP ga L xs (d + 7) 108 [.ref (ad 0), .int x, .int y] h P := by
  have hn := hV.n.2
  have hw := hV.w.2
  have hC20 : isC 20 := Or.inr (Or.inr (Or.inl rfl))
  have hshl : isMemV V x = true → kI 1 <<< (x &&& 31) = b1 (tN x) := fun h9 => by
    have h1 := (isMem_m h9).1
    rw [h1, shl1 _ (by have := (isMem_m h9).2; omega), ← h1]
  unfold worthT at kk
  refine WP.enter kX6_worth (Nat.le_of_ble_eq_true rfl) (fun J hJ => ?_)
  refine hJ 0 _ _ rfl _ _ _ _ (x_aload rfl (x_iload rfl (x_cvb rfl (Nat.le_of_ble_eq_true rfl) (isO_W W (by decide) shp_0) ⟨by decide, by decide⟩ (c_reqMember W hC hR hV hc (fun t1 => ?_) (fun t1 => xk_v (x_iload rfl (x_sipush (x_sipush (x_csb rfl (Nat.le_of_ble_eq_true rfl) ⟨by decide, by decide⟩ (c_reqWithin rfl rfl (by omega) (fun t2 => ?_) (fun t2 => xk_v (x_aload rfl (w_getr W 6 2 (t := 20) (by decide) shp_0 rfl rfl rfl (x_aload rfl (w_getr W 6 0 (t := i) (by decide) shp_0 rfl rfl hc (x_cv rfl (Nat.le_of_ble_eq_true rfl) (isO_W W (by decide) shp_20) (c_become W hC hC20 h20 hR hV (fun h1 w1 W1 e0 c0 => xk_v (x_aload rfl (w_getr W1 6 2 (t := 20) (by decide) shp_0 rfl rfl rfl (x_iload rfl (x_sipush (x_sipush (x_cv rfl (Nat.le_of_ble_eq_true rfl) (isO_W W1 (by decide) shp_20) (c_giveRule W1 hC20 (isMem_m t1).1 (by have := (isMem_m t1).2; omega) (fun h2 W2 => xk_v (x_aload rfl (w_getr W2 6 2 (t := 20) (by decide) shp_0 rfl rfl rfl (x_dupr (w_geti W2 0 5 (by decide) shp_20 rfl rfl (x_sipush (x_iload rfl (x_ishl (x_sipush (x_ixor (x_iand (w_puti W2 0 5 (by decide) shp_20 rfl rfl (okI rfl) (fun h3 W3 => x_aload rfl (w_getr W3 6 4 (t := 40) (by decide) shp_0 rfl rfl rfl (x_aload rfl (w_getr W3 6 0 (t := i) (by decide) shp_0 rfl rfl ((congrFun ((((e0.trans (kp_sa (by simp))).trans (kp_sa (by simp))).trans (kp_sn (by simp))) 0 (by simp)).2.1 0).trans hc) (x_iload rfl (x_cv rfl (Nat.le_of_ble_eq_true rfl) (isO_W W3 (by decide) shp_40) (c_meetings W3 hC (hR.kp (((e0.trans (kp_sa (by simp))).trans (kp_sa (by simp))).trans (kp_sn (by simp))) (fun j hj z => side hC h20 hj z)) hV (xnV (a := 1) (b := 60) t2).1 (xnV (a := 1) (b := 60) t2).2.2 (fun h4 w4 W4 e4 => xk_go (x_aload rfl (w_getr W4 6 4 (t := 40) (by decide) shp_0 rfl rfl rfl (x_aload rfl (w_getr W4 6 2 (t := 20) (by decide) shp_0 rfl rfl rfl (x_iload rfl (x_cv rfl (Nat.le_of_ble_eq_true rfl) (isO_W W4 (by decide) shp_40) (c_meetings W4 hC20 ((c0.never (by have := (isMem_m t1).2; omega) (hshl t1)).far e4 hC20 (by simp)) (hV.never (by have := (isMem_m t1).2; omega)) (xnV (a := 1) (b := 60) t2).1 (xnV (a := 1) (b := 60) t2).2.2 (fun h5 w5 W5 e5 => xk_go (x_isub (x_iret (nrwI _) ?_)))))))))))))))))))))))))))))))))))))))))))))))))))))))
  · exact kk.no 0 (if_neg (by rw [t1]; decide)) W kp_refl
  · exact kk.no 1 (by rw [if_pos t1, if_neg (by rw [t2]; decide)]) W kp_refl
  · exact kk.yes (by rw [if_pos t1, if_pos t2]) W5 ((((((e0.trans (kp_sa (by simp))).trans (kp_sa (by simp))).trans (kp_sn (by simp))).mono lTC).trans (e4.mono l4041')).trans (e5.mono l4041'))
end B1
