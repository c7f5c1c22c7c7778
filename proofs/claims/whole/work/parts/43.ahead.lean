/-! ===== weeks ahead ===== -/
def orF (V : VT) (k : Nat) (c : Int32) : Int32 := c ||| nextP V (runP V (startP V) k)
def andF (V : VT) (k : Nat) (c : Int32) : Int32 := c &&& nextP V (runP V (startP V) k)
def orA (V : VT) (n : Nat) : Int32 := fo (orF V) (kI 0) n
def andA (V : VT) (n : Nat) : Int32 := fo (andF V) (everyV V) n
def aheadT (x y : Int32) : Nat := if inV x 1 60 = true ∧ (inV y 0 2 = true ∨ inV y 100 (99 + x.toInt) = true) then 0 else 1
def aheadV (V : VT) (x y : Int32) : Int32 := if y = kI 0 then metV V (tN x) else if inV y 100 (99 + x.toInt) = true then nextP V (runP V (startP V) (tN y - 100)) else if y = kI 1 then everyV V &&& (orA V (tN x) ^^^ kI (-1)) else andA V (tN x)
theorem xnV {x : Int32} {a b : Nat} (h : inV x a b = true) : x = kI (tN x : Int) ∧ a ≤ tN x ∧ tN x ≤ b := by
  have h := of_decide_eq_true h
  unfold tN
  exact ⟨by rw [Int.toNat_of_nonneg (by omega), kI_of], by omega, by omega⟩
theorem xnT {x : Int32} {a b : Nat} (h : inV x a b = true) : x.toInt = (tN x : Int) := by
  have h := of_decide_eq_true h
  unfold tN
  omega
theorem inV_no {x : Int32} {a b : Int} (h : ¬ inV x a b = true) : inV x a b = false := by simpa using h
theorem ahead_hit {x y : Int32} {k : Nat} (hy : y = kI ((100 + k : Nat) : Int)) (hx : inV x 1 60 = true) (hk : k < tN x) : inV y 100 (99 + x.toInt) = true ∧ tN y - 100 = k ∧ ¬ y = kI 0 := by
  obtain ⟨x1, x2, x3⟩ := xnV (a := 1) (b := 60) hx
  have e : x.toInt = (tN x : Int) := xnT (a := 1) (b := 60) hx
  have e2 : y.toInt = ((100 + k : Nat) : Int) := by rw [hy, kN_toInt (by omega)]
  have e3 : tN y = 100 + k := by unfold tN; omega
  refine ⟨decide_eq_true (by omega), by omega, fun z => ?_⟩
  rw [z] at e2
  have : (kI 0).toInt = 0 := rfl
  omega
theorem ahead_miss {x y : Int32} (hx : inV x 1 60 = true) (h : ∀ j, j < tN x → ¬ y = kI ((100 + j : Nat) : Int)) : inV y 100 (99 + x.toInt) = false := by
  refine inV_no (fun z => ?_)
  obtain ⟨x1, x2, x3⟩ := xnV (a := 1) (b := 60) hx
  have e : x.toInt = (tN x : Int) := xnT (a := 1) (b := 60) hx
  have z := of_decide_eq_true z
  refine h (y.toInt.toNat - 100) (by omega) ?_
  have e2 : ((100 + (y.toInt.toNat - 100) : Nat) : Int) = y.toInt := by omega
  rw [e2, kI_of]
section A1
variable {ga : Nat → Nat} {L : Nat} {xs : Nat → Int32} {d : Nat} {h : ac_H} {P : ac_P} {ad : Nat → Nat} {w : Wst} {i : Nat} {V : VT}
theorem c7_metAhead {x : Int32} {n : Nat} (W : WW ad w h) (hK : wa w 81 = V) (hV : VOK V) (hx : x = kI (n : Int)) (hn9 : n ≤ 60) (kk : ∀ h' w', WW ad w' h' → kp [80, 86] w w' → kf [17] w w' → P (.inl (some (.int (metV V n)))) h') : WP ga L xs (d + 8) 223 [.ref (ad 80), .int x] h P := by
  subst hx
  have hn := hV.n.2
  have hw := hV.w.2
  have hp0 := POK.start hV
  refine WP.enter kX7_metAhead (Nat.le_of_ble_eq_true rfl) (fun J hJ => ?_)
  have loop : ∀ m, m ≤ n → ∀ h' w', WW ad w' h' → kp [80, 86] w w' → kf [17] w w' → PR w' (runP V (startP V) m) → J 1 [some (.ref (ad 80)), some (.int (kI (n : Int))), some (.int (metV V m)), some (.int (kI (m : Int)))] [] h' (0, 0) := up_ind (fun m hm ih h0 w0 W0 hk hf hr0 => ?_)
  · refine hJ 0 _ _ rfl _ _ _ _ (x_aload rfl (x_cv rfl (Nat.le_of_ble_eq_true rfl) (isO_W W (by decide) shp_80) (c7_lays W hK hV (fun h1 w1 W1 e1 f1 c1 => xk_v (x_sipush (x_istore rfl (x_sipush (x_istore rfl (x_goto (?_))))))))))
    exact loop 0 (Nat.zero_le _) _ _ W1 e1 f1 c1
  have hK0 : wa w0 81 = V := (hk 81 (by simp)).2.2.1.trans hK
  have hpm := hp0.run hn m (by have : (startP V).2 = wk V := rfl; omega)
  have hlen : (runP V (startP V) m).2 = wk V + m := runP_len (V := V) (p := startP V) m
  have e9 : metV V (m + 1) = metV V m + bI (meetsV V (nextP V (runP V (startP V) m))) := rfl
  refine hJ 1 _ _ rfl _ _ _ _ (x_iload rfl (x_iload rfl (x_br2 (fun q1 => have q1 := ge_y rfl (by omega) q1; hJ 4 _ _ rfl _ _ _ _ (x_iload rfl (x_iret (nrwI _) ?_))) (fun q1 => have q1 := ge_n rfl (by omega) q1; x_iload rfl (x_aload rfl (x_aload rfl (x_cv rfl (Nat.le_of_ble_eq_true rfl) (isO_W W0 (by decide) shp_80) (c7_goesOn W0 hK0 hV hr0 hpm (by omega) (fun h1 w1 W1 e1 f1 c1 => xk_go (x_cv rfl (Nat.le_of_ble_eq_true rfl) (isO_W W1 (by decide) shp_80) (c7_meets W1 ((e1 81 (by simp)).2.2.1.trans hK0) (sok_next hn) (xk_go (x_br (fun q2 => have q2 := bI_eq0.mp q2; hJ 2 _ _ rfl _ _ _ _ (x_sipush (x_goto (hJ 3 _ _ rfl _ _ _ _ (x_iadd (x_istore rfl (x_iinc rfl rfl (x_goto (?_))))))))) (fun q2 => have q2 := bI_ne0.mp q2; x_sipush (x_goto (hJ 3 _ _ rfl _ _ _ _ (x_iadd (x_istore rfl (x_iinc rfl rfl (x_goto (?_)))))))))))))))))))))
  · have e : m = n := by omega
    subst e
    exact kk h0 _ W0 hk hf
  · refine J_c (ih q1 h1 _ W1 (hk.trans e1) (hf.trans f1) c1) ?_
    simp only [sI, kN_succ]
    rw [e9, q2]
    rfl
  · refine J_c (ih q1 h1 _ W1 (hk.trans e1) (hf.trans f1) c1) ?_
    simp only [sI, kN_succ]
    rw [e9, q2]
    rfl
theorem inV_l' {x z : Int32} {a : Nat} (ha : a < 2147483648) : decide ((Int64.ofNat a).toInt ≤ x.toInt64.toInt ∧ x.toInt64.toInt ≤ z.toInt64.toInt) = inV x a z.toInt := by
  rw [toInt64_toInt, toInt64_toInt, i64_nat ha]
  rfl
theorem m_ahead {x y : Int32} (W : WW ad w h) (hK : wa w 81 = V) (hV : VOK V) (kk : KQ ad P w (aheadT x y) (.int (aheadV V x y))) : WP ga L xs (d + 9) 224 [.ref (ad 80), .int x, .int y] h P := by
  have hn := hV.n.2
  have hw := hV.w.2
  have hp0 := POK.start hV
  have wx : inV x 1 60 = decide ((Int64.ofNat 1).toInt ≤ x.toInt64.toInt ∧ x.toInt64.toInt ≤ (Int64.ofNat 60).toInt) := (inV_l (a := 1) (b := 60) (by omega) (by omega)).symm
  have wy : inV y 0 2 = decide ((Int64.ofNat 0).toInt ≤ y.toInt64.toInt ∧ y.toInt64.toInt ≤ (Int64.ofNat 2).toInt) := (inV_l (a := 0) (b := 2) (by omega) (by omega)).symm
  have wz : inV x 1 60 = true → inV y 100 (99 + x.toInt) = decide ((Int64.ofNat 100).toInt ≤ y.toInt64.toInt ∧ y.toInt64.toInt ≤ (kI 99 + x).toInt64.toInt) := fun hx => by
    obtain ⟨x1, x2, x3⟩ := xnV (a := 1) (b := 60) hx
    have e : x.toInt = (tN x : Int) := xnT (a := 1) (b := 60) hx
    have e1 : kI 99 + x = kI ((99 + tN x : Nat) : Int) := by
      have h9 := kI_add 99 (tN x : Int)
      rw [← x1] at h9
      exact h9.trans (congrArg kI (by omega))
    have e2 : ((99 + tN x : Nat) : Int) = 99 + x.toInt := by omega
    rw [e1, inV_l' (a := 100) (by omega), kN_toInt (by omega), e2]
    rfl
  refine WP.enter kX7_ahead (Nat.le_of_ble_eq_true rfl) (fun J hJ => ?_)
  have loop : ∀ w1, kp SM w w1 → kf FM w w1 → wa w1 81 = V → wn w1 80 4 = kI 0 → inV x 1 60 = true → (inV y 0 2 = true ∨ inV y 100 (99 + x.toInt) = true) → ¬ y = kI 0 → ∀ m, m ≤ tN x → ∀ h' w' z, WW ad w' h' → kp [80, 86] w1 w' → kf [17] w1 w' → PR w' (runP V (startP V) m) → (∀ j, j < m → ¬ y = kI ((100 + j : Nat) : Int)) → J 6 [some (.ref (ad 80)), some (.int x), some (.int y), some (.int (orA V m)), some (.int (andA V m)), some (.int (kI (m : Int))), z] [] h' (0, 0) := fun w1 k1 k2 hK h4 hx hy hy0 => up_ind (fun m hm ih h0 w0 z W0 hk hf hr0 hne => ?_)
  · refine hJ 0 _ _ rfl _ _ _ _ (x_aload rfl (x_iload rfl (x_i2l (x_ldc2 (x_ldc2 (x_cs rfl (Nat.le_of_ble_eq_true rfl) (c7_within (xk_go (x_br (fun q1 => have q1 := bI_eq0.mp q1; hJ 2 _ _ rfl _ _ _ _ (x_sipush (x_goto (hJ 3 _ _ rfl _ _ _ _ (w_puti W 7 4 (by decide) shp_80 rfl rfl (okI rfl) (fun h1 W1 => x_aload rfl (w_geti W1 7 4 (by decide) shp_80 rfl rfl (x_br (fun q2 => absurd (show kI (1) ≤ 0 from q2) (by decide)) (fun q2 => x_sipush (x_iret (nrwI _) ?_)))))))))) (fun q1 => have q1 := bI_ne0.mp q1; x_iload rfl (x_i2l (x_ldc2 (x_ldc2 (x_cs rfl (Nat.le_of_ble_eq_true rfl) (c7_within (xk_go (x_br (fun q3 => have q3 := bI_ne0.mp q3; hJ 1 _ _ rfl _ _ _ _ (x_sipush (x_goto (hJ 3 _ _ rfl _ _ _ _ (w_puti W 7 4 (by decide) shp_80 rfl rfl (okI rfl) (fun h2 W2 => x_aload rfl (w_geti W2 7 4 (by decide) shp_80 rfl rfl (x_br (fun q4 => hJ 4 _ _ rfl _ _ _ _ (x_iload rfl (x_br (fun q5 => have q5 := cy_ne q5; hJ 5 _ _ rfl _ _ _ _ (x_aload rfl (x_cv rfl (Nat.le_of_ble_eq_true rfl) (isO_W W2 (by decide) shp_80) (c7_lays W2 hK hV (fun h3 w3 W3 e0 f0 c0 => xk_v (x_sipush (x_istore rfl (x_aload rfl (x_cv rfl (Nat.le_of_ble_eq_true rfl) (isO_W W3 (by decide) shp_80) (c7_all W3 ((e0 81 (by simp)).2.2.1.trans hK) hV (xk_go (x_istore rfl (x_sipush (x_istore rfl (x_goto (?_)))))))))))))))) (fun q5 => have q5 := cn_ne q5; x_aload rfl (x_iload rfl (x_cv rfl (Nat.le_of_ble_eq_true rfl) (isO_W W2 (by decide) shp_80) (c7_metAhead W2 hK hV (xnV (a := 1) (b := 60) (wx.trans q1)).1 (xnV (a := 1) (b := 60) (wx.trans q1)).2.2 (fun h4 w4 W4 e0 f0 => xk_go (x_iret (nrwI _) ?_))))))))) (fun q4 => absurd (show kI (0) ≤ 0 by decide) q4))))))))) (fun q3 => have q3 := bI_nn q3; x_iload rfl (x_i2l (x_ldc2 (x_sipush (x_iload rfl (x_iadd (x_i2l (x_cs rfl (Nat.le_of_ble_eq_true rfl) (c7_within (xk_go (x_br (fun q6 => have q6 := bI_eq0.mp q6; hJ 2 _ _ rfl _ _ _ _ (x_sipush (x_goto (hJ 3 _ _ rfl _ _ _ _ (w_puti W 7 4 (by decide) shp_80 rfl rfl (okI rfl) (fun h5 W5 => x_aload rfl (w_geti W5 7 4 (by decide) shp_80 rfl rfl (x_br (fun q7 => absurd (show kI (1) ≤ 0 from q7) (by decide)) (fun q7 => x_sipush (x_iret (nrwI _) ?_)))))))))) (fun q6 => have q6 := bI_ne0.mp q6; x_goto (hJ 1 _ _ rfl _ _ _ _ (x_sipush (x_goto (hJ 3 _ _ rfl _ _ _ _ (w_puti W 7 4 (by decide) shp_80 rfl rfl (okI rfl) (fun h6 W6 => x_aload rfl (w_geti W6 7 4 (by decide) shp_80 rfl rfl (x_br (fun q8 => hJ 4 _ _ rfl _ _ _ _ (x_iload rfl (x_br (fun q9 => have q9 := cy_ne q9; hJ 5 _ _ rfl _ _ _ _ (x_aload rfl (x_cv rfl (Nat.le_of_ble_eq_true rfl) (isO_W W6 (by decide) shp_80) (c7_lays W6 hK hV (fun h7 w7 W7 e0 f0 c0 => xk_v (x_sipush (x_istore rfl (x_aload rfl (x_cv rfl (Nat.le_of_ble_eq_true rfl) (isO_W W7 (by decide) shp_80) (c7_all W7 ((e0 81 (by simp)).2.2.1.trans hK) hV (xk_go (x_istore rfl (x_sipush (x_istore rfl (x_goto (?_)))))))))))))))) (fun q9 => have q9 := cn_ne q9; x_aload rfl (x_iload rfl (x_cv rfl (Nat.le_of_ble_eq_true rfl) (isO_W W6 (by decide) shp_80) (c7_metAhead W6 hK hV (xnV (a := 1) (b := 60) (wx.trans q1)).1 (xnV (a := 1) (b := 60) (wx.trans q1)).2.2 (fun h8 w8 W8 e0 f0 => xk_go (x_iret (nrwI _) ?_))))))))) (fun q8 => absurd (show kI (0) ≤ 0 by decide) q8))))))))))))))))))))))))))))))))))))))
    · exact kk.go W1 kpM4 kfM4 (if_neg (fun z => by rw [wx.trans q1] at z; cases z.1)) wn4 (fun h => by cases h)
    · exact loop _ kpM4 kfM4 hK wn4 (wx.trans q1) (Or.inl (wy.trans q3)) q5 0 (Nat.zero_le _) _ _ _ W3 e0 f0 c0 (fun j hj => by omega)
    · refine kk.go W4 (kpM4.trans (e0.mono l1786)) (kfM4.trans (f0.mono f17)) (if_pos ⟨wx.trans q1, Or.inl (wy.trans q3)⟩) ((f0 4 (by simp)).trans wn4) (fun _ => ?_)
      unfold aheadV
      rw [if_pos (show y = kI 0 from q5)]
    · exact kk.go W5 kpM4 kfM4 (if_neg (fun z => by rw [wy, q3, (wz (wx.trans q1)).trans q6] at z; rcases z.2 with z | z <;> cases z)) wn4 (fun h => by cases h)
    · exact loop _ kpM4 kfM4 hK wn4 (wx.trans q1) (Or.inr ((wz (wx.trans q1)).trans q6)) q9 0 (Nat.zero_le _) _ _ _ W7 e0 f0 c0 (fun j hj => by omega)
    · refine kk.go W8 (kpM4.trans (e0.mono l1786)) (kfM4.trans (f0.mono f17)) (if_pos ⟨wx.trans q1, Or.inr ((wz (wx.trans q1)).trans q6)⟩) ((f0 4 (by simp)).trans wn4) (fun _ => ?_)
      unfold aheadV
      rw [if_pos (show y = kI 0 from q9)]
  have xn := xnV (a := 1) (b := 60) hx
  have hK0 : wa w0 81 = V := (hk 81 (by simp)).2.2.1.trans hK
  have hpm := hp0.run hn m (by have : (startP V).2 = wk V := rfl; omega)
  have hlen : (runP V (startP V) m).2 = wk V + m := runP_len (V := V) (p := startP V) m
  have hT : aheadT x y = 0 := if_pos ⟨hx, hy⟩
  have hk9 := k1.trans (hk.mono l1786)
  have hf9 := k2.trans (hf.mono f17)
  have h49 : wn w0 80 4 = kI 0 := (hf 4 (by simp)).trans h4
  have eo : orA V (m + 1) = orA V m ||| nextP V (runP V (startP V) m) := rfl
  have ea : andA V (m + 1) = andA V m &&& nextP V (runP V (startP V) m) := rfl
  refine hJ 6 _ _ rfl _ _ _ _ (x_iload rfl (x_iload rfl (x_br2 (fun q1 => have q1 := ge_y xn.1 (by omega) q1; hJ 8 _ _ rfl _ _ _ _ (x_iload rfl (x_sipush (x_br2 (fun q2 => have q2 := cy_ne q2; hJ 9 _ _ rfl _ _ _ _ (x_iload rfl (x_goto (hJ 10 _ _ rfl _ _ _ _ (x_iret (nrwI _) ?_))))) (fun q2 => have q2 := cn_ne q2; x_aload rfl (x_cv rfl (Nat.le_of_ble_eq_true rfl) (isO_W W0 (by decide) shp_80) (c7_all W0 hK0 hV (xk_go (x_iload rfl (x_sipush (x_ixor (x_iand (x_goto (hJ 10 _ _ rfl _ _ _ _ (x_iret (nrwI _) ?_))))))))))))))) (fun q1 => have q1 := ge_n xn.1 (by omega) q1; x_aload rfl (x_cv rfl (Nat.le_of_ble_eq_true rfl) (isO_W W0 (by decide) shp_80) (c7_goesOn W0 hK0 hV hr0 hpm (by omega) (fun h1 w1 W1 e1 f1 c1 => xk_go (x_istore rfl (x_iload rfl (x_sipush (x_iload rfl (x_iadd (x_br2 (fun q3 => have q3 := cy_ne q3; hJ 7 _ _ rfl _ _ _ _ (x_iload rfl (x_iload rfl (x_ior (x_istore rfl (x_iload rfl (x_iload rfl (x_iand (x_istore rfl (x_iinc rfl rfl (x_goto (?_)))))))))))) (fun q3 => have q3 := cn_ne q3; x_iload rfl (x_iret (nrwI _) ?_)))))))))))))))
  · have e : m = tN x := by omega
    subst e
    have hmiss := ahead_miss hx hne
    refine kk.go W0 hk9 hf9 hT h49 (fun _ => ?_)
    unfold aheadV
    rw [if_neg hy0, if_neg (by rw [hmiss]; decide), if_neg (show ¬ y = kI 1 from q2)]
  · have e : m = tN x := by omega
    subst e
    have hmiss := ahead_miss hx hne
    refine kk.go W0 hk9 hf9 hT h49 (fun _ => ?_)
    unfold aheadV
    rw [if_neg hy0, if_neg (by rw [hmiss]; decide), if_pos (show y = kI 1 from q2)]
  · have q3' : ¬ y = kI ((100 + m : Nat) : Int) := by rw [kI_add] at q3; exact q3
    refine J_c (ih q1 h1 _ (some (.int (nextP V (runP V (startP V) m)))) W1 (hk.trans e1) (hf.trans f1) c1 (fun j hj => ?_)) ?_
    · by_cases ej : j = m
      · rw [ej]; exact q3'
      · exact hne j (by omega)
    · simp only [sI, kN_succ, eo, ea]
  · have q3' : y = kI ((100 + m : Nat) : Int) := by rw [kI_add] at q3; exact q3
    obtain ⟨g1, g2, g3⟩ := ahead_hit q3' hx q1
    refine kk.go W1 (hk9.trans (e1.mono l1786)) (hf9.trans (f1.mono f17)) hT ((f1 4 (by simp)).trans h49) (fun _ => ?_)
    unfold aheadV
    rw [if_neg g3, if_pos g1, g2]
end A1
