/-! ===== weeks ahead: the class ===== -/
section A1
variable {ga : Nat → Nat} {L : Nat} {xs : Nat → Int32} {d : Nat} {h : ac_H} {P : ac_P} {ad : Nat → Nat} {w : Wst} {i : Nat} {V : VT}
theorem l4041' : ∀ a ∈ [40, 41], a ∈ SC := by decide
theorem ge100 {x y : Int32} (hx : inV x 1 60 = true) (h1 : kI 100 ≤ y) (h2 : y < kI 100 + x) : inV y 100 (99 + x.toInt) = true := by
  obtain ⟨x1, x2, x3⟩ := xnV (a := 1) (b := 60) hx
  have e : x.toInt = (tN x : Int) := xnT (a := 1) (b := 60) hx
  have h9 := kI_add 100 (tN x : Int)
  rw [← x1] at h9
  rw [h9, Int32.lt_iff_toInt_lt, kI_toInt (by omega) (by omega)] at h2
  rw [Int32.le_iff_toInt_le] at h1
  have : (kI 100).toInt = 100 := rfl
  exact decide_eq_true (by omega)
theorem no100a {x y : Int32} (h1 : y < kI 100) : inV y 100 (99 + x.toInt) = false := by
  refine inV_no (fun z => ?_)
  have z := of_decide_eq_true z
  rw [Int32.lt_iff_toInt_lt] at h1
  have : (kI 100).toInt = 100 := rfl
  omega
theorem no100b {x y : Int32} (hx : inV x 1 60 = true) (h1 : kI 100 + x ≤ y) : inV y 100 (99 + x.toInt) = false := by
  refine inV_no (fun z => ?_)
  have z := of_decide_eq_true z
  obtain ⟨x1, x2, x3⟩ := xnV (a := 1) (b := 60) hx
  have e : x.toInt = (tN x : Int) := xnT (a := 1) (b := 60) hx
  have h9 := kI_add 100 (tN x : Int)
  rw [← x1] at h9
  rw [h9, Int32.le_iff_toInt_le, kI_toInt (by omega) (by omega)] at h1
  omega
theorem x_ahead {x y : Int32} (W : WW ad w h) (hC : isC i) (hR : CR w i V) (hV : VOK V) (hc : wr w 0 0 = i) (kk : KC ad P w [0] (aheadT x y) (.int (aheadV V x y))) : WP ga L xs (d + 7) 106 [.ref (ad 0), .int x, .int y] h P := by
  have hn := hV.n.2
  have hw := hV.w.2
  have hp0 := POK.start hV
  refine WP.enter kX6_ahead (Nat.le_of_ble_eq_true rfl) (fun J hJ => ?_)
  have loop : inV x 1 60 = true → (inV y 0 2 = true ∨ inV y 100 (99 + x.toInt) = true) → ¬ y = kI 0 → ∀ u bg m, m ≤ tN x → ∀ h' w' z, WW ad w' h' → kp [40, 41] w w' → CoR w' i V (runP V (startP V) m) false → (∀ j, j < m → ¬ y = kI ((100 + j : Nat) : Int)) → J 5 [some (.ref (ad 0)), some (.int x), some (.int y), some (.int u), some (.int (orA V m)), some (.int (andA V m)), some (.int (kI (m : Int))), z] [] h' bg := fun hx hy hy0 u bg => up_ind (fun m hm ih h0 w0 z W0 hk hc0 hne => ?_)
  · refine hJ 0 _ _ rfl _ _ _ _ (x_iload rfl (x_sipush (x_sipush (x_csb rfl (Nat.le_of_ble_eq_true rfl) ⟨by decide, by decide⟩ (c_reqWithin rfl rfl (by omega) (fun t1 => ?_) (fun t1 => xk_v (x_iload rfl (x_sipush (x_br2 (fun q1 => have q1 := cy_lt q1; hJ 1 _ _ rfl _ _ _ _ (x_sipush (x_goto (hJ 2 _ _ rfl _ _ _ _ (x_istore rfl (x_iload rfl (x_br (fun q2 => absurd (show ¬ kI (0) = 0 from q2) (by decide)) (fun q2 => x_iload rfl (x_sipush (x_sipush (x_csb rfl (Nat.le_of_ble_eq_true rfl) ⟨by decide, by decide⟩ (c_reqWithin rfl rfl (by omega) (fun t2 => ?_) (fun t2 => xk_v (x_goto (hJ 3 _ _ rfl _ _ _ _ (x_iload rfl (x_br (fun q3 => have q3 := cy_ne q3; hJ 4 _ _ rfl _ _ _ _ (x_aload rfl (w_getr W 6 4 (t := 40) (by decide) shp_0 rfl rfl rfl (x_aload rfl (w_getr W 6 0 (t := i) (by decide) shp_0 rfl rfl hc (x_cv rfl (Nat.le_of_ble_eq_true rfl) (isO_W W (by decide) shp_40) (c_start W hC hR hV (fun h1 w1 W1 e0 c0 d0 => xk_v (x_sipush (x_istore rfl (x_aload rfl (w_getr W1 6 0 (t := i) (by decide) shp_0 rfl rfl ((congrFun (e0 0 (by simp)).2.1 0).trans hc) (x_cv rfl (Nat.le_of_ble_eq_true rfl) (isO_W W1 hC.lt hC.sh) (c_everyone W1 hC (hR.far e0 hC (by simp)) hV (xk_go (x_istore rfl (x_sipush (x_istore rfl (x_goto (?_)))))))))))))))))))) (fun q3 => have q3 := cn_ne q3; x_aload rfl (w_getr W 6 4 (t := 40) (by decide) shp_0 rfl rfl rfl (x_aload rfl (w_getr W 6 0 (t := i) (by decide) shp_0 rfl rfl hc (x_iload rfl (x_cv rfl (Nat.le_of_ble_eq_true rfl) (isO_W W (by decide) shp_40) (c_meetings W hC hR hV (xnV (a := 1) (b := 60) t1).1 (xnV (a := 1) (b := 60) t1).2.2 (fun h2 w2 W2 e0 => xk_go (x_iret (nrwI _) ?_)))))))))))))))))))))))))) (fun q1 => have q1 := cn_lt q1; x_iload rfl (x_sipush (x_iload rfl (x_iadd (x_br2 (fun q4 => have q4 := cy_ge q4; hJ 1 _ _ rfl _ _ _ _ (x_sipush (x_goto (hJ 2 _ _ rfl _ _ _ _ (x_istore rfl (x_iload rfl (x_br (fun q5 => absurd (show ¬ kI (0) = 0 from q5) (by decide)) (fun q5 => x_iload rfl (x_sipush (x_sipush (x_csb rfl (Nat.le_of_ble_eq_true rfl) ⟨by decide, by decide⟩ (c_reqWithin rfl rfl (by omega) (fun t2 => ?_) (fun t2 => xk_v (x_goto (hJ 3 _ _ rfl _ _ _ _ (x_iload rfl (x_br (fun q6 => have q6 := cy_ne q6; hJ 4 _ _ rfl _ _ _ _ (x_aload rfl (w_getr W 6 4 (t := 40) (by decide) shp_0 rfl rfl rfl (x_aload rfl (w_getr W 6 0 (t := i) (by decide) shp_0 rfl rfl hc (x_cv rfl (Nat.le_of_ble_eq_true rfl) (isO_W W (by decide) shp_40) (c_start W hC hR hV (fun h3 w3 W3 e0 c0 d0 => xk_v (x_sipush (x_istore rfl (x_aload rfl (w_getr W3 6 0 (t := i) (by decide) shp_0 rfl rfl ((congrFun (e0 0 (by simp)).2.1 0).trans hc) (x_cv rfl (Nat.le_of_ble_eq_true rfl) (isO_W W3 hC.lt hC.sh) (c_everyone W3 hC (hR.far e0 hC (by simp)) hV (xk_go (x_istore rfl (x_sipush (x_istore rfl (x_goto (?_)))))))))))))))))))) (fun q6 => have q6 := cn_ne q6; x_aload rfl (w_getr W 6 4 (t := 40) (by decide) shp_0 rfl rfl rfl (x_aload rfl (w_getr W 6 0 (t := i) (by decide) shp_0 rfl rfl hc (x_iload rfl (x_cv rfl (Nat.le_of_ble_eq_true rfl) (isO_W W (by decide) shp_40) (c_meetings W hC hR hV (xnV (a := 1) (b := 60) t1).1 (xnV (a := 1) (b := 60) t1).2.2 (fun h4 w4 W4 e0 => xk_go (x_iret (nrwI _) ?_)))))))))))))))))))))))))) (fun q4 => have q4 := cn_ge q4; x_sipush (x_goto (hJ 2 _ _ rfl _ _ _ _ (x_istore rfl (x_iload rfl (x_br (fun q7 => hJ 3 _ _ rfl _ _ _ _ (x_iload rfl (x_br (fun q8 => have q8 := cy_ne q8; hJ 4 _ _ rfl _ _ _ _ (x_aload rfl (w_getr W 6 4 (t := 40) (by decide) shp_0 rfl rfl rfl (x_aload rfl (w_getr W 6 0 (t := i) (by decide) shp_0 rfl rfl hc (x_cv rfl (Nat.le_of_ble_eq_true rfl) (isO_W W (by decide) shp_40) (c_start W hC hR hV (fun h5 w5 W5 e0 c0 d0 => xk_v (x_sipush (x_istore rfl (x_aload rfl (w_getr W5 6 0 (t := i) (by decide) shp_0 rfl rfl ((congrFun (e0 0 (by simp)).2.1 0).trans hc) (x_cv rfl (Nat.le_of_ble_eq_true rfl) (isO_W W5 hC.lt hC.sh) (c_everyone W5 hC (hR.far e0 hC (by simp)) hV (xk_go (x_istore rfl (x_sipush (x_istore rfl (x_goto (?_)))))))))))))))))))) (fun q8 => have q8 := cn_ne q8; x_aload rfl (w_getr W 6 4 (t := 40) (by decide) shp_0 rfl rfl rfl (x_aload rfl (w_getr W 6 0 (t := i) (by decide) shp_0 rfl rfl hc (x_iload rfl (x_cv rfl (Nat.le_of_ble_eq_true rfl) (isO_W W (by decide) shp_40) (c_meetings W hC hR hV (xnV (a := 1) (b := 60) t1).1 (xnV (a := 1) (b := 60) t1).2.2 (fun h6 w6 W6 e0 => xk_go (x_iret (nrwI _) ?_)))))))))))) (fun q7 => absurd (show ¬ kI (1) = 0 by decide) q7)))))))))))))))))))))
    · exact kk.no 0 (if_neg (fun z => by rw [t1] at z; cases z.1)) W kp_refl
    · exact kk.no 0 (if_neg (fun z => by rw [t2, no100a q1] at z; rcases z.2 with z | z <;> cases z)) W kp_refl
    · exact loop t1 (Or.inl t2) q3 _ _ 0 (Nat.zero_le _) _ _ _ W1 e0 c0 (fun j hj => by omega)
    · have hyes := kk.yes (if_pos ⟨t1, Or.inl t2⟩) W2 (e0.mono l4041')
      unfold aheadV at hyes
      rw [if_pos (show y = kI 0 from q3)] at hyes
      exact hyes
    · exact kk.no 0 (if_neg (fun z => by rw [t2, no100b t1 q4] at z; rcases z.2 with z | z <;> cases z)) W kp_refl
    · exact loop t1 (Or.inl t2) q6 _ _ 0 (Nat.zero_le _) _ _ _ W3 e0 c0 (fun j hj => by omega)
    · have hyes := kk.yes (if_pos ⟨t1, Or.inl t2⟩) W4 (e0.mono l4041')
      unfold aheadV at hyes
      rw [if_pos (show y = kI 0 from q6)] at hyes
      exact hyes
    · exact loop t1 (Or.inr (ge100 t1 q1 q4)) q8 _ _ 0 (Nat.zero_le _) _ _ _ W5 e0 c0 (fun j hj => by omega)
    · have hyes := kk.yes (if_pos ⟨t1, Or.inr (ge100 t1 q1 q4)⟩) W6 (e0.mono l4041')
      unfold aheadV at hyes
      rw [if_pos (show y = kI 0 from q8)] at hyes
      exact hyes
  have xn := xnV (a := 1) (b := 60) hx
  have hpm := hp0.run hn m (by have : (startP V).2 = wk V := rfl; omega)
  have hlen : (runP V (startP V) m).2 = wk V + m := runP_len (V := V) (p := startP V) m
  have hT : aheadT x y = 0 := if_pos ⟨hx, hy⟩
  have hR0 := hR.far hk hC (by simp)
  have hk9 := hk.mono l4041'
  have eo : orA V (m + 1) = orA V m ||| nextP V (runP V (startP V) m) := rfl
  have ea : andA V (m + 1) = andA V m &&& nextP V (runP V (startP V) m) := rfl
  refine hJ 5 _ _ rfl _ _ _ _ (x_iload rfl (x_iload rfl (x_br2 (fun q1 => have q1 := ge_y xn.1 (by omega) q1; hJ 7 _ _ rfl _ _ _ _ (x_iload rfl (x_sipush (x_br2 (fun q2 => have q2 := cy_ne q2; hJ 8 _ _ rfl _ _ _ _ (x_iload rfl (x_goto (hJ 9 _ _ rfl _ _ _ _ (x_iret (nrwI _) ?_))))) (fun q2 => have q2 := cn_ne q2; x_aload rfl (w_getr W0 6 0 (t := i) (by decide) shp_0 rfl rfl ((congrFun (hk 0 (by simp)).2.1 0).trans hc) (x_cv rfl (Nat.le_of_ble_eq_true rfl) (isO_W W0 hC.lt hC.sh) (c_everyone W0 hC hR0 hV (xk_go (x_iload rfl (x_sipush (x_ixor (x_iand (x_goto (hJ 9 _ _ rfl _ _ _ _ (x_iret (nrwI _) ?_)))))))))))))))) (fun q1 => have q1 := ge_n xn.1 (by omega) q1; x_aload rfl (w_getr W0 6 4 (t := 40) (by decide) shp_0 rfl rfl rfl (x_cv rfl (Nat.le_of_ble_eq_true rfl) (isO_W W0 (by decide) shp_40) (c_go W0 hC hR0 hV hc0 hpm (by omega) (fun h1 w1 W1 e1 c1 => xk_go (x_istore rfl (x_iload rfl (x_sipush (x_iload rfl (x_iadd (x_br2 (fun q3 => have q3 := cy_ne q3; hJ 6 _ _ rfl _ _ _ _ (x_iload rfl (x_iload rfl (x_ior (x_istore rfl (x_iload rfl (x_iload rfl (x_iand (x_istore rfl (x_iinc rfl rfl (x_goto (?_)))))))))))) (fun q3 => have q3 := cn_ne q3; x_iload rfl (x_iret (nrwI _) ?_))))))))))))))))
  · have e : m = tN x := by omega
    subst e
    have hmiss := ahead_miss hx hne
    have hyes := kk.yes hT W0 hk9
    unfold aheadV at hyes
    rw [if_neg hy0, if_neg (by rw [hmiss]; decide), if_neg (show ¬ y = kI 1 from q2)] at hyes
    exact hyes
  · have e : m = tN x := by omega
    subst e
    have hmiss := ahead_miss hx hne
    have hyes := kk.yes hT W0 hk9
    unfold aheadV at hyes
    rw [if_neg hy0, if_neg (by rw [hmiss]; decide), if_pos (show y = kI 1 from q2)] at hyes
    exact hyes
  · have q3' : ¬ y = kI ((100 + m : Nat) : Int) := by rw [kI_add] at q3; exact q3
    refine J_c (ih q1 h1 _ (some (.int (nextP V (runP V (startP V) m)))) W1 (hk.trans e1) c1 (fun j hj => ?_)) ?_
    · by_cases ej : j = m
      · rw [ej]; exact q3'
      · exact hne j (by omega)
    · simp only [sI, kN_succ, eo, ea]
  · have q3' : y = kI ((100 + m : Nat) : Int) := by rw [kI_add] at q3; exact q3
    obtain ⟨g1, g2, g3⟩ := ahead_hit q3' hx q1
    have hyes := kk.yes hT W1 (hk9.trans (e1.mono l4041'))
    unfold aheadV at hyes
    rw [if_neg g3, if_pos g1, g2] at hyes
    exact hyes
end A1
