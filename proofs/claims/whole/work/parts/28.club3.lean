/-! ===== a club: the walks ===== -/
section C0
variable {ga : Nat → Nat} {L : Nat} {xs : Nat → Int32} {d : Nat} {h : ac_H} {P : ac_P} {ad : Nat → Nat} {w : Wst} {i : Nat} {V : VT}
theorem c_max {x y : Int32} (hP : P (.inl (some (.int (imax x y)))) h) : WP ga L xs (d + 1) 253 [.int x, .int y] h P := by
  unfold imax at hP
  refine WP.enter kJ9_max_7cf53 (Nat.le_of_ble_eq_true rfl) (fun J hJ => ?_)
  refine hJ 0 _ _ rfl _ _ _ _ (x_iload rfl (x_iload rfl (x_br2 (fun b1 => hJ 1 _ _ rfl _ _ _ _ (x_iload rfl (x_goto (hJ 2 _ _ rfl _ _ _ _ (x_iret (nrwI _) ?_))))) (fun b1 => x_iload rfl (x_goto (hJ 2 _ _ rfl _ _ _ _ (x_iret (nrwI _) ?_)))))))
  · rw [if_neg (nl_le b1)] at hP
    exact hP
  · rw [if_pos (nn_lt b1)] at hP
    exact hP
theorem c_gainOf {m : Nat} {s x : Int32} (W : WW ad w h) (hC : isC i) (hR : CR w i V) (hV : VOK V) (hs : sok (nm V) s) (hx : x = kI (m : Int)) (hm : m < nm V) (hP : P (.inl (some (.int (gainV V s m)))) h) : WP ga L xs (d + 4) 12 [.ref (ad i), .int x, .int s] h P := by
  subst hx
  have hn := hV.n.2
  refine WP.enter kX0_gainOf (Nat.le_of_ble_eq_true rfl) (fun J hJ => ?_)
  exact hJ 0 _ _ rfl _ _ _ _ (x_aload rfl (x_iload rfl (x_iload rfl (x_sipush (x_iload rfl (x_shl1 (by omega) (x_ixor (x_cv rfl (Nat.le_of_ble_eq_true rfl) (isO_W W hC.lt hC.sh) (c_payOf W hC hR hV (hs.tog hm) rfl hm (xk_go (x_aload rfl (x_iload rfl (x_iload rfl (x_cv rfl (Nat.le_of_ble_eq_true rfl) (isO_W W hC.lt hC.sh) (c_payOf W hC hR hV hs rfl hm (xk_go (x_isub (x_iret (nrwI _) hP))))))))))))))))))
theorem c_payOfAll {s : Int32} (W : WW ad w h) (hC : isC i) (hR : CR w i V) (hV : VOK V) (hs : sok (nm V) s) (hP : P (.inl (some (.int (payAllV V s)))) h) : WP ga L xs (d + 3) 13 [.ref (ad i), .int s] h P := by
  rw [payAll_eq hV hs] at hP
  refine WP.enter kX0_payOfAll (Nat.le_of_ble_eq_true rfl) (fun J hJ => ?_)
  refine hJ 0 _ _ rfl _ _ _ _ (x_aload rfl (x_iload rfl (x_cv rfl (Nat.le_of_ble_eq_true rfl) (isO_W W hC.lt hC.sh) (c_meets W hC hR hs (xk_go (x_br (fun b1 => have b1 := bI_eq0.mp b1; hJ 1 _ _ rfl _ _ _ _ (x_sipush (x_goto (hJ 2 _ _ rfl _ _ _ _ (x_istore rfl (x_iload rfl (x_aload rfl (x_iload rfl (x_cv rfl (Nat.le_of_ble_eq_true rfl) (isO_W W hC.lt hC.sh) (c_costOfAll W hC hR hV (xk_go (x_isub (x_iret (nrwI _) ?_))))))))))))) (fun b1 => have b1 := bI_ne0.mp b1; x_aload rfl (w_geti W 0 2 hC.lt hC.sh rfl rfl (x_aload rfl (w_geti W 0 1 hC.lt hC.sh rfl rfl (x_imul (x_goto (hJ 2 _ _ rfl _ _ _ _ (x_istore rfl (x_iload rfl (x_aload rfl (x_iload rfl (x_cv rfl (Nat.le_of_ble_eq_true rfl) (isO_W W hC.lt hC.sh) (c_costOfAll W hC hR hV (xk_go (x_isub (x_iret (nrwI _) ?_))))))))))))))))))))))
  · rw [if_neg (by rw [b1]; decide)] at hP
    exact hP
  · rw [if_pos b1] at hP
    rw [hR.1.2.1, hR.1.2.2.1]
    exact hP
theorem c_bribeFor {s : Int32} (W : WW ad w h) (hC : isC i) (hR : CR w i V) (hV : VOK V) (hs : sok (nm V) s) (hP : P (.inl (some (.int (bribeV V s)))) h) : WP ga L xs (d + 5) 15 [.ref (ad i), .int s] h P := by
  have hn := hV.n.2
  refine WP.enter kX0_bribeFor (Nat.le_of_ble_eq_true rfl) (fun J hJ => ?_)
  have loop : ∀ m, m ≤ nm V → J 1 [some (.ref (ad i)), some (.int s), some (.int (sm (fun m => imax (kI 0) (gainV V s m)) m)), some (.int (kI (m : Int)))] [] h (0, 0) := up_ind (fun m hm ih => ?_)
  · exact hJ 0 _ _ rfl _ _ _ _ (x_sipush (x_istore rfl (x_sipush (x_istore rfl (x_goto (loop 0 (Nat.zero_le _)))))))
  refine hJ 1 _ _ rfl _ _ _ _ (x_iload rfl (x_aload rfl (w_geti W 0 4 hC.lt hC.sh rfl rfl (x_br2 (fun b1 => have b1 := ge_y (hR.n hV) (by omega) b1; hJ 2 _ _ rfl _ _ _ _ (x_iload rfl (x_iret (nrwI _) ?_))) (fun b1 => have b1 := ge_n (hR.n hV) (by omega) b1; x_iload rfl (x_sipush (x_aload rfl (x_iload rfl (x_iload rfl (x_cv rfl (Nat.le_of_ble_eq_true rfl) (isO_W W hC.lt hC.sh) (c_gainOf W hC hR hV hs rfl (by omega) (xk_go (x_cs rfl (Nat.le_of_ble_eq_true rfl) (c_max (xk_go (x_iadd (x_istore rfl (x_iinc rfl rfl (x_goto (?_))))))))))))))))))))
  · have e : m = nm V := by omega
    subst e
    exact hP
  · refine J_c (ih (by omega)) ?_
    simp only [sI, sm, kN_succ]
theorem c_eager {s : Int32} (W : WW ad w h) (hC : isC i) (hR : CR w i V) (hV : VOK V) (hs : sok (nm V) s) (hP : ∀ e, eagerP V s e → P (.inl (some (.int e))) h) : WP ga L xs (d + 2) 16 [.ref (ad i), .int s] h P := by
  have hn := hV.n.2
  obtain ⟨q, hq, q1, q2⟩ := hV.q
  have hp := pc_le s
  obtain ⟨r1, r2, r3, r4, r5, r6, r7⟩ := hR
  have eq : wn w i 1 = kI (q : Int) := r1.2.1.trans hq
  refine WP.enter kX0_eager (Nat.le_of_ble_eq_true rfl) (fun J hJ => ?_)
  refine hJ 0 _ _ rfl _ _ _ _ (x_iload rfl (x_cs rfl (Nat.le_of_ble_eq_true rfl) (c_bitc hs (xk_go (x_istore rfl (x_iload rfl (x_aload rfl (w_geti W 0 1 hC.lt hC.sh rfl rfl (x_br2 (fun b1 => hJ 1 _ _ rfl _ _ _ _ (x_iload rfl (x_aload rfl (w_geti W 0 8 hC.lt hC.sh rfl rfl (x_iand (x_istore rfl (x_iload rfl (x_sipush (x_iadd (x_aload rfl (w_geti W 0 1 hC.lt hC.sh rfl rfl (x_br2 (fun b2 => hJ 2 _ _ rfl _ _ _ _ (x_iload rfl (x_goto (hJ 3 _ _ rfl _ _ _ _ (x_iret (nrwI _) ?_))))) (fun b2 => x_iload rfl (x_aload rfl (w_geti W 0 7 hC.lt hC.sh rfl rfl (x_iload rfl (x_sipush (x_ixor (x_iand (x_ior (x_goto (hJ 3 _ _ rfl _ _ _ _ (x_iret (nrwI _) ?_))))))))))))))))))))))) (fun b1 => x_iload rfl (x_aload rfl (w_geti W 0 9 hC.lt hC.sh rfl rfl (x_iand (x_iret (nrwI _) ?_))))))))))))))
  · refine hP _ (fun m => ?_)
    rw [eq, kN_succ] at b2
    have b1 : ¬ pc s = q := fun z => b1 (by rw [eq, z])
    have b2 : ¬ pc s + 1 = q := fun z => b2 (by rw [z])
    by_cases hm : m < nm V
    · rw [hb_and, r6]
      have := gain_pos (s := s) hV hm hq q2
      by_cases e : hb s m = true <;> simp only [e] at this ⊢ <;> simp [this, b1, b2, hm]
    · rw [hb_and, hs.2 m (by omega)]
      simp [hm]
  · refine hP _ (fun m => ?_)
    have b1 : ¬ pc s = q := fun z => b1 (by rw [eq, z])
    have b2 : pc s + 1 = q := by
      rw [eq, kN_succ] at b2
      exact (kN_inj (by omega) (by omega)).mp (Decidable.not_not.mp b2)
    by_cases hm : m < nm V
    · rw [hb_or, hb_and, hb_and, r6, r5, hb_not (by omega)]
      have := gain_pos (s := s) hV hm hq q2
      by_cases e : hb s m = true <;> simp only [e] at this ⊢ <;> simp [this, b1, b2, hm]
    · rw [hb_or, hb_and, hb_and, r5, hs.2 m (by omega)]
      simp [hm]
  · refine hP _ (fun m => ?_)
    have b1 : pc s = q := by
      rw [eq] at b1
      exact (kN_inj (by omega) (by omega)).mp (Decidable.not_not.mp b1)
    by_cases hm : m < nm V
    · rw [hb_and, r7]
      have := gain_pos (s := s) hV hm hq q2
      by_cases e : hb s m = true <;> simp only [e] at this ⊢ <;> simp [this, b1, hm]
    · rw [hb_and, hs.2 m (by omega)]
      simp [hm]
end C0
