/-! ===== the model: questions at rest ===== -/
theorem KQ.go {ad : Nat → Nat} {P : ac_P} {w w' : Wst} {h' : ac_H} {T t : Nat} {R v : Value} (kk : KQ ad P w T R) (W' : WW ad w' h') (k1 : kp SM w w') (k2 : kf FM w w') (hT : T = t) (h4 : wn w' 80 4 = kI (t : Int)) (hv : t = 0 → v = R) : P (.inl (some v)) h' := by
  subst hT
  exact kk h' w' v W' k1 k2 h4 hv
theorem setT0 {V : VT} {s : Int32} (h : isSetV V s = true) : setT V s = 0 := if_pos h
theorem setT1 {V : VT} {s : Int32} (h : isSetV V s = false) : setT V s = 1 := if_neg (by rw [h]; decide)
theorem whatT0 {s : Int32} (h : inV s 0 1 = true) : whatT s = 0 := if_pos h
theorem whatT1 {s : Int32} (h : inV s 0 1 = false) : whatT s = 1 := if_neg (by rw [h]; decide)
section M1
variable {ga : Nat → Nat} {L : Nat} {xs : Nat → Int32} {d : Nat} {h : ac_H} {P : ac_P} {ad : Nat → Nat} {w : Wst} {V : VT}
theorem m_gain {s x : Int32} (W : WW ad w h) (hK : wa w 81 = V) (hV : VOK V) (kk : KQ ad P w (gainT V s x) (.int (gainV V s x.toInt.toNat))) : WP ga L xs (d + 5) 193 [.ref (ad 80), .int s, .int x] h P := by
  have hn := hV.n.2
  have hm : isMemV V x = true → x = kI (x.toInt.toNat : Int) ∧ x.toInt.toNat < nm V := fun h => by
    have h := of_decide_eq_true h
    exact ⟨by rw [Int.toNat_of_nonneg h.1, kI_of], by omega⟩
  unfold gainT at kk
  refine WP.enter kX7_gain (Nat.le_of_ble_eq_true rfl) (fun J hJ => ?_)
  refine hJ 0 _ _ rfl _ _ _ _ (x_aload rfl (x_aload rfl (x_iload rfl (x_cv rfl (Nat.le_of_ble_eq_true rfl) (isO_W W (by decide) shp_80) (c7_isMember W hK hV (xk_go (x_br (fun q1 => have q1 := bI_ne0.mp q1; hJ 1 _ _ rfl _ _ _ _ (x_aload rfl (x_iload rfl (x_cv rfl (Nat.le_of_ble_eq_true rfl) (isO_W W (by decide) shp_80) (c7_isSet W hK hV (xk_go (x_br (fun q2 => have q2 := bI_eq0.mp q2; hJ 2 _ _ rfl _ _ _ _ (x_sipush (x_goto (hJ 3 _ _ rfl _ _ _ _ (w_puti W 7 4 (by decide) shp_80 rfl rfl (okI rfl) (fun h1 W1 => x_aload rfl (w_geti W1 7 4 (by decide) shp_80 rfl rfl (x_br (fun q3 => absurd (show kI (2) ≤ 0 from q3) (by decide)) (fun q3 => x_sipush (x_goto (hJ 5 _ _ rfl _ _ _ _ (x_iret (nrwI _) ?_)))))))))))) (fun q2 => have q2 := bI_ne0.mp q2; x_sipush (x_goto (hJ 3 _ _ rfl _ _ _ _ (w_puti W 7 4 (by decide) shp_80 rfl rfl (okI rfl) (fun h2 W2 => x_aload rfl (w_geti W2 7 4 (by decide) shp_80 rfl rfl (x_br (fun q4 => hJ 4 _ _ rfl _ _ _ _ (x_aload rfl (x_iload rfl (x_iload rfl (x_cv rfl (Nat.le_of_ble_eq_true rfl) (isO_W W2 (by decide) shp_80) (c7_gainOf W2 hK hV (isSet_sok hV q2) (hm q1).1 (hm q1).2 (xk_go (x_goto (hJ 5 _ _ rfl _ _ _ _ (x_iret (nrwI _) ?_)))))))))) (fun q4 => absurd (show kI (0) ≤ 0 by decide) q4))))))))))))))) (fun q1 => have q1 := bI_nn q1; x_sipush (x_goto (hJ 3 _ _ rfl _ _ _ _ (w_puti W 7 4 (by decide) shp_80 rfl rfl (okI rfl) (fun h3 W3 => x_aload rfl (w_geti W3 7 4 (by decide) shp_80 rfl rfl (x_br (fun q5 => absurd (show kI (1) ≤ 0 from q5) (by decide)) (fun q5 => x_sipush (x_goto (hJ 5 _ _ rfl _ _ _ _ (x_iret (nrwI _) ?_))))))))))))))))))
  · exact kk.go W1 kpM4 kfM4 (by rw [if_pos q1, if_neg (by rw [q2]; decide)]) wn4 (fun h => by cases h)
  · exact kk.go W2 kpM4 kfM4 (by rw [if_pos q1, if_pos q2]) wn4 (fun _ => rfl)
  · exact kk.go W3 kpM4 kfM4 (by rw [if_neg (by rw [q1]; decide)]) wn4 (fun h => by cases h)
theorem m_pay {s : Int32} (W : WW ad w h) (hK : wa w 81 = V) (hV : VOK V) (kk : KQ ad P w (setT V s) (.int (payAllV V s))) : WP ga L xs (d + 5) 207 [.ref (ad 80), .int s] h P := by
  refine WP.enter kX7_pay (Nat.le_of_ble_eq_true rfl) (fun J hJ => ?_)
  refine hJ 0 _ _ rfl _ _ _ _ (x_aload rfl (x_sipush (w_puti W 7 4 (by decide) shp_80 rfl rfl (okI rfl) (fun h1 W1 => x_aload rfl (x_iload rfl (x_cv rfl (Nat.le_of_ble_eq_true rfl) (isO_W W1 (by decide) shp_80) (c7_isSet W1 hK hV (xk_go (x_br (fun q1 => have q1 := bI_eq0.mp q1; hJ 1 _ _ rfl _ _ _ _ (x_aload rfl (x_sipush (x_cv rfl (Nat.le_of_ble_eq_true rfl) (isO_W W1 (by decide) shp_80) (c7_fails W1 (fun h2 W2 => xk_go (x_goto (hJ 2 _ _ rfl _ _ _ _ (x_iret (nrwI _) ?_))))))))) (fun q1 => have q1 := bI_ne0.mp q1; x_aload rfl (x_iload rfl (x_cv rfl (Nat.le_of_ble_eq_true rfl) (isO_W W1 (by decide) shp_80) (c7_payAll W1 hK hV (isSet_sok hV q1) (xk_go (x_goto (hJ 2 _ _ rfl _ _ _ _ (x_iret (nrwI _) ?_)))))))))))))))))
  · exact kk.go W2 (kpM4.trans kpM4) (kfM4.trans kfM4) (setT1 q1) wn4 (fun h => by cases h)
  · exact kk.go W1 kpM4 kfM4 (setT0 q1) wn4 (fun _ => rfl)
theorem m_bribe {s : Int32} (W : WW ad w h) (hK : wa w 81 = V) (hV : VOK V) (kk : KQ ad P w (setT V s) (.int (bribeV V s))) : WP ga L xs (d + 6) 211 [.ref (ad 80), .int s] h P := by
  refine WP.enter kX7_bribe (Nat.le_of_ble_eq_true rfl) (fun J hJ => ?_)
  refine hJ 0 _ _ rfl _ _ _ _ (x_aload rfl (x_sipush (w_puti W 7 4 (by decide) shp_80 rfl rfl (okI rfl) (fun h1 W1 => x_aload rfl (x_iload rfl (x_cv rfl (Nat.le_of_ble_eq_true rfl) (isO_W W1 (by decide) shp_80) (c7_isSet W1 hK hV (xk_go (x_br (fun q1 => have q1 := bI_eq0.mp q1; hJ 1 _ _ rfl _ _ _ _ (x_aload rfl (x_sipush (x_cv rfl (Nat.le_of_ble_eq_true rfl) (isO_W W1 (by decide) shp_80) (c7_fails W1 (fun h2 W2 => xk_go (x_goto (hJ 2 _ _ rfl _ _ _ _ (x_iret (nrwI _) ?_))))))))) (fun q1 => have q1 := bI_ne0.mp q1; x_aload rfl (x_iload rfl (x_cv rfl (Nat.le_of_ble_eq_true rfl) (isO_W W1 (by decide) shp_80) (c7_bribeOf W1 hK hV (isSet_sok hV q1) (xk_go (x_goto (hJ 2 _ _ rfl _ _ _ _ (x_iret (nrwI _) ?_)))))))))))))))))
  · exact kk.go W2 (kpM4.trans kpM4) (kfM4.trans kfM4) (setT1 q1) wn4 (fun h => by cases h)
  · exact kk.go W1 kpM4 kfM4 (setT0 q1) wn4 (fun _ => rfl)
theorem m_rests {s : Int32} (W : WW ad w h) (hK : wa w 81 = V) (hV : VOK V) (kk : KQ ad P w (setT V s) (.int (bI (restV V s)))) : WP ga L xs (d + 7) 194 [.ref (ad 80), .int s] h P := by
  refine WP.enter kX7_rests (Nat.le_of_ble_eq_true rfl) (fun J hJ => ?_)
  refine hJ 0 _ _ rfl _ _ _ _ (x_aload rfl (x_aload rfl (x_iload rfl (x_cv rfl (Nat.le_of_ble_eq_true rfl) (isO_W W (by decide) shp_80) (c7_isSet W hK hV (xk_go (x_br (fun q1 => have q1 := bI_eq0.mp q1; hJ 1 _ _ rfl _ _ _ _ (x_sipush (x_goto (hJ 2 _ _ rfl _ _ _ _ (w_puti W 7 4 (by decide) shp_80 rfl rfl (okI rfl) (fun h1 W1 => x_aload rfl (w_geti W1 7 4 (by decide) shp_80 rfl rfl (x_br (fun q2 => hJ 3 _ _ rfl _ _ _ _ (x_sipush (x_goto (hJ 4 _ _ rfl _ _ _ _ (x_iret (by first | exact nrwB _ | rfl | decide) ?_))))) (fun q2 => absurd (show ¬ kI (1) = 0 by decide) q2))))))))) (fun q1 => have q1 := bI_ne0.mp q1; x_sipush (x_goto (hJ 2 _ _ rfl _ _ _ _ (w_puti W 7 4 (by decide) shp_80 rfl rfl (okI rfl) (fun h2 W2 => x_aload rfl (w_geti W2 7 4 (by decide) shp_80 rfl rfl (x_br (fun q3 => absurd (show ¬ kI (0) = 0 from q3) (by decide)) (fun q3 => x_aload rfl (x_iload rfl (x_cv rfl (Nat.le_of_ble_eq_true rfl) (isO_W W2 (by decide) shp_80) (c7_ftg W2 hK hV (isSet_sok hV q1) (xk_go (x_sipush (x_br2 (fun q4 => have q4 := cy_ne q4; hJ 3 _ _ rfl _ _ _ _ (x_sipush (x_goto (hJ 4 _ _ rfl _ _ _ _ (x_iret (by first | exact nrwB _ | rfl | decide) ?_))))) (fun q4 => have q4 := cn_ne q4; x_sipush (x_goto (hJ 4 _ _ rfl _ _ _ _ (x_iret (by first | exact nrwB _ | rfl | decide) ?_)))))))))))))))))))))))))
  · exact kk.go W1 kpM4 kfM4 (setT1 q1) wn4 (fun h => by cases h)
  · exact kk.go W2 kpM4 kfM4 (setT0 q1) wn4 (fun _ => by rw [r_false hV q4]; rfl)
  · exact kk.go W2 kpM4 kfM4 (setT0 q1) wn4 (fun _ => by rw [r_true hV q4]; rfl)
theorem m_strong {s : Int32} (W : WW ad w h) (hK : wa w 81 = V) (hV : VOK V) (kk : KQ ad P w (setT V s) (.int (bI (strongV V s)))) : WP ga L xs (d + 7) 197 [.ref (ad 80), .int s] h P := by
  refine WP.enter kX7_strong (Nat.le_of_ble_eq_true rfl) (fun J hJ => ?_)
  refine hJ 0 _ _ rfl _ _ _ _ (x_aload rfl (x_aload rfl (x_iload rfl (x_cv rfl (Nat.le_of_ble_eq_true rfl) (isO_W W (by decide) shp_80) (c7_isSet W hK hV (xk_go (x_br (fun q1 => have q1 := bI_eq0.mp q1; hJ 1 _ _ rfl _ _ _ _ (x_sipush (x_goto (hJ 2 _ _ rfl _ _ _ _ (w_puti W 7 4 (by decide) shp_80 rfl rfl (okI rfl) (fun h1 W1 => x_aload rfl (w_geti W1 7 4 (by decide) shp_80 rfl rfl (x_br (fun q2 => hJ 3 _ _ rfl _ _ _ _ (x_sipush (x_goto (hJ 4 _ _ rfl _ _ _ _ (x_iret (by first | exact nrwB _ | rfl | decide) ?_))))) (fun q2 => absurd (show ¬ kI (1) = 0 by decide) q2))))))))) (fun q1 => have q1 := bI_ne0.mp q1; x_sipush (x_goto (hJ 2 _ _ rfl _ _ _ _ (w_puti W 7 4 (by decide) shp_80 rfl rfl (okI rfl) (fun h2 W2 => x_aload rfl (w_geti W2 7 4 (by decide) shp_80 rfl rfl (x_br (fun q3 => absurd (show ¬ kI (0) = 0 from q3) (by decide)) (fun q3 => x_aload rfl (x_iload rfl (x_cv rfl (Nat.le_of_ble_eq_true rfl) (isO_W W2 (by decide) shp_80) (c7_isStrong W2 hK hV (isSet_sok hV q1) (xk_go (x_br (fun q4 => have q4 := bI_eq0.mp q4; hJ 3 _ _ rfl _ _ _ _ (x_sipush (x_goto (hJ 4 _ _ rfl _ _ _ _ (x_iret (by first | exact nrwB _ | rfl | decide) ?_))))) (fun q4 => have q4 := bI_ne0.mp q4; x_sipush (x_goto (hJ 4 _ _ rfl _ _ _ _ (x_iret (by first | exact nrwB _ | rfl | decide) ?_))))))))))))))))))))))))
  · exact kk.go W1 kpM4 kfM4 (setT1 q1) wn4 (fun h => by cases h)
  · exact kk.go W2 kpM4 kfM4 (setT0 q1) wn4 (fun _ => by rw [q4]; rfl)
  · exact kk.go W2 kpM4 kfM4 (setT0 q1) wn4 (fun _ => by rw [q4]; rfl)
theorem m_rest {k : Int32} (W : WW ad w h) (hK : wa w 81 = V) (hV : VOK V) (kk : KQ ad P w 0 (.int (kthR (fun a => restV V (kI (a : Int))) (2 ^ nm V) k))) : WP ga L xs (d + 7) 195 [.ref (ad 80), .int k] h P := by
  have hn := hV.n.2
  have h12 := pow_le hV
  refine WP.enter kX7_rest (Nat.le_of_ble_eq_true rfl) (fun J hJ => ?_)
  refine hJ 0 _ _ rfl _ _ _ _ (x_aload rfl (x_sipush (w_puti W 7 4 (by decide) shp_80 rfl rfl (okI rfl) (fun h1 W1 => x_sipush (x_istore rfl (x_sipush (x_istore rfl (x_goto (?_)))))))))
  have loop : ∀ m, m ≤ 2 ^ nm V → ∀ c, fo (kthF (fun a => restV V (kI (a : Int))) k) (none, 0) m = (none, c) → J 1 [some (.ref (ad 80)), some (.int k), some (.int (kI (c : Int))), some (.int (kI (m : Int)))] [] h1 (0, 0) := up_ind (fun m hm ih c hf => ?_)
  · exact loop 0 (Nat.zero_le _) 0 rfl
  have hs : m < 2 ^ nm V → sok (nm V) (kI (m : Int)) := set_k hV
  have hc := kth_cnt hf
  refine hJ 1 _ _ rfl _ _ _ _ (x_iload rfl (x_aload rfl (x_cv rfl (Nat.le_of_ble_eq_true rfl) (isO_W W1 (by decide) shp_80) (c7_all W1 hK hV (xk_go (x_br2 (fun q1 => have q1 := ev_y hV hm q1; hJ 5 _ _ rfl _ _ _ _ (x_iload rfl (x_sipush (x_br2 (fun q2 => have q2 := cy_ne q2; hJ 6 _ _ rfl _ _ _ _ (x_sipush (x_goto (hJ 7 _ _ rfl _ _ _ _ (x_iret (nrwI _) ?_))))) (fun q2 => have q2 := cn_ne q2; x_iload rfl (x_goto (hJ 7 _ _ rfl _ _ _ _ (x_iret (nrwI _) ?_)))))))) (fun q1 => have q1 := ev_n hV hm q1; x_aload rfl (x_iload rfl (x_cv rfl (Nat.le_of_ble_eq_true rfl) (isO_W W1 (by decide) shp_80) (c7_ftg W1 hK hV (hs q1) (xk_go (x_sipush (x_br2 (fun q3 => have q3 := r_true hV q3; hJ 2 _ _ rfl _ _ _ _ (x_iload rfl (x_iload rfl (x_br2 (fun q4 => have q4 := cy_ne q4; hJ 3 _ _ rfl _ _ _ _ (x_iinc rfl rfl (x_goto (hJ 4 _ _ rfl _ _ _ _ (x_iinc rfl rfl (x_goto (?_))))))) (fun q4 => have q4 := cn_ne q4; x_iload rfl (x_iret (nrwI _) ?_)))))) (fun q3 => have q3 := r_false hV q3; x_goto (hJ 4 _ _ rfl _ _ _ _ (x_iinc rfl rfl (x_goto (?_))))))))))))))))))
  · subst q1
    rw [kth_end hf, if_neg q2] at kk
    exact kk.go W1 kpM4 kfM4 rfl wn4 (fun _ => rfl)
  · subst q1
    rw [kth_end hf, if_pos q2] at kk
    exact kk.go W1 kpM4 kfM4 rfl wn4 (fun _ => rfl)
  · refine J_c (ih q1 (c + 1) (kth_go hf q3 q4)) ?_
    simp only [sI, kN_succ]
  · rw [kth_stop hf q3 q4 q1] at kk
    exact kk.go W1 kpM4 kfM4 rfl wn4 (fun _ => rfl)
  · refine J_c (ih q1 c (kth_no hf q3)) ?_
    simp only [sI, kN_succ]
theorem m_strongs {k : Int32} (W : WW ad w h) (hK : wa w 81 = V) (hV : VOK V) (kk : KQ ad P w 0 (.int (kthR (fun a => strongV V (kI (a : Int))) (2 ^ nm V) k))) : WP ga L xs (d + 7) 198 [.ref (ad 80), .int k] h P := by
  have hn := hV.n.2
  have h12 := pow_le hV
  refine WP.enter kX7_strongs (Nat.le_of_ble_eq_true rfl) (fun J hJ => ?_)
  refine hJ 0 _ _ rfl _ _ _ _ (x_aload rfl (x_sipush (w_puti W 7 4 (by decide) shp_80 rfl rfl (okI rfl) (fun h1 W1 => x_sipush (x_istore rfl (x_sipush (x_istore rfl (x_goto (?_)))))))))
  have loop : ∀ m, m ≤ 2 ^ nm V → ∀ c, fo (kthF (fun a => strongV V (kI (a : Int))) k) (none, 0) m = (none, c) → J 1 [some (.ref (ad 80)), some (.int k), some (.int (kI (c : Int))), some (.int (kI (m : Int)))] [] h1 (0, 0) := up_ind (fun m hm ih c hf => ?_)
  · exact loop 0 (Nat.zero_le _) 0 rfl
  have hs : m < 2 ^ nm V → sok (nm V) (kI (m : Int)) := set_k hV
  have hc := kth_cnt hf
  refine hJ 1 _ _ rfl _ _ _ _ (x_iload rfl (x_aload rfl (x_cv rfl (Nat.le_of_ble_eq_true rfl) (isO_W W1 (by decide) shp_80) (c7_all W1 hK hV (xk_go (x_br2 (fun q1 => have q1 := ev_y hV hm q1; hJ 5 _ _ rfl _ _ _ _ (x_iload rfl (x_sipush (x_br2 (fun q2 => have q2 := cy_ne q2; hJ 6 _ _ rfl _ _ _ _ (x_sipush (x_goto (hJ 7 _ _ rfl _ _ _ _ (x_iret (nrwI _) ?_))))) (fun q2 => have q2 := cn_ne q2; x_iload rfl (x_goto (hJ 7 _ _ rfl _ _ _ _ (x_iret (nrwI _) ?_)))))))) (fun q1 => have q1 := ev_n hV hm q1; x_aload rfl (x_iload rfl (x_cv rfl (Nat.le_of_ble_eq_true rfl) (isO_W W1 (by decide) shp_80) (c7_isStrong W1 hK hV (hs q1) (xk_go (x_br (fun q3 => have q3 := bI_ne0.mp q3; hJ 2 _ _ rfl _ _ _ _ (x_iload rfl (x_iload rfl (x_br2 (fun q4 => have q4 := cy_ne q4; hJ 3 _ _ rfl _ _ _ _ (x_iinc rfl rfl (x_goto (hJ 4 _ _ rfl _ _ _ _ (x_iinc rfl rfl (x_goto (?_))))))) (fun q4 => have q4 := cn_ne q4; x_iload rfl (x_iret (nrwI _) ?_)))))) (fun q3 => have q3 := bI_nn q3; x_goto (hJ 4 _ _ rfl _ _ _ _ (x_iinc rfl rfl (x_goto (?_)))))))))))))))))
  · subst q1
    rw [kth_end hf, if_neg q2] at kk
    exact kk.go W1 kpM4 kfM4 rfl wn4 (fun _ => rfl)
  · subst q1
    rw [kth_end hf, if_pos q2] at kk
    exact kk.go W1 kpM4 kfM4 rfl wn4 (fun _ => rfl)
  · refine J_c (ih q1 (c + 1) (kth_go hf q3 q4)) ?_
    simp only [sI, kN_succ]
  · rw [kth_stop hf q3 q4 q1] at kk
    exact kk.go W1 kpM4 kfM4 rfl wn4 (fun _ => rfl)
  · refine J_c (ih q1 c (kth_no hf q3)) ?_
    simp only [sI, kN_succ]
theorem bst_succ {p : Nat → Bool} {bt : Nat → Nat → Bool} {N : Nat} : bst p bt (N + 1) = bstF p bt N (bst p bt N) := rfl
theorem m_bestRest (W : WW ad w h) (hK : wa w 81 = V) (hV : VOK V) (kk : KQ ad P w 0 (.int (bestRestV V))) : WP ga L xs (d + 6) 206 [.ref (ad 80)] h P := by
  have hn := hV.n.2
  have h12 := pow_le hV
  unfold bestRestV at kk
  refine WP.enter kX7_bestRest (Nat.le_of_ble_eq_true rfl) (fun J hJ => ?_)
  refine hJ 0 _ _ rfl _ _ _ _ (x_aload rfl (x_sipush (w_puti W 7 4 (by decide) shp_80 rfl rfl (okI rfl) (fun h1 W1 => x_sipush (x_istore rfl (x_sipush (x_istore rfl (x_goto (?_)))))))))
  have loop : ∀ m, m ≤ 2 ^ nm V → J 1 [some (.ref (ad 80)), some (.int (optI (bst (fun a => restV V (kI (a : Int))) (fun a b => decide (payAllV V (kI (b : Int)) < payAllV V (kI (a : Int)))) m))), some (.int (kI (m : Int)))] [] h1 (0, 0) := up_ind (fun m hm ih => ?_)
  · exact loop 0 (Nat.zero_le _)
  have hs : m < 2 ^ nm V → sok (nm V) (kI (m : Int)) := set_k hV
  have hl : ∀ a, bst (fun a => restV V (kI (a : Int))) (fun a b => decide (payAllV V (kI (b : Int)) < payAllV V (kI (a : Int)))) m = some a → a < 4096 := fun a h9 => by have := (bst_lt h9).1; omega
  have hl2 : ∀ a, bst (fun a => restV V (kI (a : Int))) (fun a b => decide (payAllV V (kI (b : Int)) < payAllV V (kI (a : Int)))) m = some a → sok (nm V) (kI (a : Int)) := fun a h9 => set_k hV (by have := (bst_lt h9).1; omega)
  have hsn := bst_succ (p := fun a => restV V (kI (a : Int))) (bt := fun a b => decide (payAllV V (kI (b : Int)) < payAllV V (kI (a : Int)))) (N := m)
  by_cases hlast : m = 2 ^ nm V
  · subst hlast
    refine hJ 1 _ _ rfl _ _ _ _ (x_iload rfl (x_aload rfl (x_cv rfl (Nat.le_of_ble_eq_true rfl) (isO_W W1 (by decide) shp_80) (c7_all W1 hK hV (xk_go (x_br2 (fun q1 => have q1 := ev_y hV hm q1; hJ 4 _ _ rfl _ _ _ _ (x_iload rfl (x_iret (nrwI _) ?_))) (fun q1 => have q1 := ev_n hV hm q1; x_aload rfl (x_iload rfl (x_cv rfl (Nat.le_of_ble_eq_true rfl) (isO_W W1 (by decide) shp_80) (c7_ftg W1 hK hV (hs q1) (xk_go (x_sipush (x_br2 (fun q2 => have q2 := r_false hV q2; ?_) (fun q2 => have q2 := r_true hV (cn_ne q2); x_iload rfl (x_sipush (x_br2 (fun q3 => have q3 := cy_eq q3; ?_) (fun q3 => have q3 := cn_eq q3; x_aload rfl (x_iload rfl (x_cv rfl (Nat.le_of_ble_eq_true rfl) (isO_W W1 (by decide) shp_80) (c7_payAll W1 hK hV ?_ (xk_go (x_aload rfl (x_iload rfl (x_cv rfl (Nat.le_of_ble_eq_true rfl) (isO_W W1 (by decide) shp_80) (c7_payAll W1 hK hV ?_ (xk_go (x_br2 (fun q4 => have q4 := cy_le q4; ?_) (fun q4 => have q4 := cn_le q4; x_goto (?_)))))))))))))))))))))))))))))
    · exact kk.go W1 kpM4 kfM4 rfl wn4 (fun _ => rfl)
    all_goals omega
  have ih := ih (by omega)
  rw [hsn] at ih
  generalize bst (fun a => restV V (kI (a : Int))) (fun a b => decide (payAllV V (kI (b : Int)) < payAllV V (kI (a : Int)))) m = o at *
  cases o with
  | none =>
    refine hJ 1 _ _ rfl _ _ _ _ (x_iload rfl (x_aload rfl (x_cv rfl (Nat.le_of_ble_eq_true rfl) (isO_W W1 (by decide) shp_80) (c7_all W1 hK hV (xk_go (x_br2 (fun q1 => have q1 := ev_y hV hm q1; hJ 4 _ _ rfl _ _ _ _ (x_iload rfl (x_iret (nrwI _) ?_))) (fun q1 => have q1 := ev_n hV hm q1; x_aload rfl (x_iload rfl (x_cv rfl (Nat.le_of_ble_eq_true rfl) (isO_W W1 (by decide) shp_80) (c7_ftg W1 hK hV (hs q1) (xk_go (x_sipush (x_br2 (fun q2 => have q2 := r_false hV q2; hJ 3 _ _ rfl _ _ _ _ (x_iinc rfl rfl (x_goto (?_)))) (fun q2 => have q2 := r_true hV (cn_ne q2); x_iload rfl (x_sipush (x_br2 (fun q3 => have q3 := cy_eq q3; hJ 2 _ _ rfl _ _ _ _ (x_iload rfl (x_istore rfl (x_goto (hJ 3 _ _ rfl _ _ _ _ (x_iinc rfl rfl (x_goto (?_)))))))) (fun q3 => have q3 := cn_eq q3; x_aload rfl (x_iload rfl (x_cv rfl (Nat.le_of_ble_eq_true rfl) (isO_W W1 (by decide) shp_80) (c7_payAll W1 hK hV ?_ (xk_go (x_aload rfl (x_iload rfl (x_cv rfl (Nat.le_of_ble_eq_true rfl) (isO_W W1 (by decide) shp_80) (c7_payAll W1 hK hV ?_ (xk_go (x_br2 (fun q4 => have q4 := cy_le q4; hJ 3 _ _ rfl _ _ _ _ (x_iinc rfl rfl (x_goto (?_)))) (fun q4 => have q4 := cn_le q4; x_goto (hJ 2 _ _ rfl _ _ _ _ (x_iload rfl (x_istore rfl (x_goto (hJ 3 _ _ rfl _ _ _ _ (x_iinc rfl rfl (x_goto (?_))))))))))))))))))))))))))))))))))))
    · exact absurd q1 hlast
    · have e : bstF (fun a => restV V (kI (a : Int))) (fun a b => decide (payAllV V (kI (b : Int)) < payAllV V (kI (a : Int)))) m none = none := by simp [bstF, q2]
      rw [e] at ih
      exact J_c ih (by simp only [sI, kN_succ])
    · have e : bstF (fun a => restV V (kI (a : Int))) (fun a b => decide (payAllV V (kI (b : Int)) < payAllV V (kI (a : Int)))) m none = some m := by simp [bstF, q2]
      rw [e] at ih
      exact J_c ih (by simp only [sI, kN_succ, optI])
    all_goals exact absurd rfl q3
  | some b =>
    refine hJ 1 _ _ rfl _ _ _ _ (x_iload rfl (x_aload rfl (x_cv rfl (Nat.le_of_ble_eq_true rfl) (isO_W W1 (by decide) shp_80) (c7_all W1 hK hV (xk_go (x_br2 (fun q1 => have q1 := ev_y hV hm q1; hJ 4 _ _ rfl _ _ _ _ (x_iload rfl (x_iret (nrwI _) ?_))) (fun q1 => have q1 := ev_n hV hm q1; x_aload rfl (x_iload rfl (x_cv rfl (Nat.le_of_ble_eq_true rfl) (isO_W W1 (by decide) shp_80) (c7_ftg W1 hK hV (hs q1) (xk_go (x_sipush (x_br2 (fun q2 => have q2 := r_false hV q2; hJ 3 _ _ rfl _ _ _ _ (x_iinc rfl rfl (x_goto (?_)))) (fun q2 => have q2 := r_true hV (cn_ne q2); x_iload rfl (x_sipush (x_br2 (fun q3 => have q3 := cy_eq q3; hJ 2 _ _ rfl _ _ _ _ (x_iload rfl (x_istore rfl (x_goto (hJ 3 _ _ rfl _ _ _ _ (x_iinc rfl rfl (x_goto (?_)))))))) (fun q3 => have q3 := cn_eq q3; x_aload rfl (x_iload rfl (x_cv rfl (Nat.le_of_ble_eq_true rfl) (isO_W W1 (by decide) shp_80) (c7_payAll W1 hK hV ?_ (xk_go (x_aload rfl (x_iload rfl (x_cv rfl (Nat.le_of_ble_eq_true rfl) (isO_W W1 (by decide) shp_80) (c7_payAll W1 hK hV ?_ (xk_go (x_br2 (fun q4 => have q4 := cy_le q4; hJ 3 _ _ rfl _ _ _ _ (x_iinc rfl rfl (x_goto (?_)))) (fun q4 => have q4 := cn_le q4; x_goto (hJ 2 _ _ rfl _ _ _ _ (x_iload rfl (x_istore rfl (x_goto (hJ 3 _ _ rfl _ _ _ _ (x_iinc rfl rfl (x_goto (?_))))))))))))))))))))))))))))))))))))
    · exact absurd q1 hlast
    · have e : bstF (fun a => restV V (kI (a : Int))) (fun a b => decide (payAllV V (kI (b : Int)) < payAllV V (kI (a : Int)))) m (some b) = some b := by simp [bstF, q2]
      rw [e] at ih
      exact J_c ih (by simp only [sI, kN_succ])
    · exact absurd ((optI_none hl).mp q3) (by simp)
    · exact hs q1
    · exact hl2 b rfl
    · have e : bstF (fun a => restV V (kI (a : Int))) (fun a b => decide (payAllV V (kI (b : Int)) < payAllV V (kI (a : Int)))) m (some b) = some b := by
        simp only [bstF, q2, true_and, decide_eq_true_eq]
        exact if_neg (Int32.not_lt.mpr q4)
      rw [e] at ih
      exact J_c ih (by simp only [sI, kN_succ])
    · have e : bstF (fun a => restV V (kI (a : Int))) (fun a b => decide (payAllV V (kI (b : Int)) < payAllV V (kI (a : Int)))) m (some b) = some m := by
        simp only [bstF, q2, true_and, decide_eq_true_eq]
        exact if_pos q4
      rw [e] at ih
      exact J_c ih (by simp only [sI, kN_succ, optI])
theorem m_pivots {s : Int32} (W : WW ad w h) (hK : wa w 81 = V) (hV : VOK V) (kk : KQ ad P w (setT V s) (.int (pivV V s))) : WP ga L xs (d + 5) 208 [.ref (ad 80), .int s] h P := by
  have hn := hV.n.2
  refine WP.enter kX7_pivots (Nat.le_of_ble_eq_true rfl) (fun J hJ => ?_)
  have loop : ∀ h1, WW ad (sn w 80 4 (kI 0)) h1 → isSetV V s = true → ∀ m, m ≤ nm V → J 2 [some (.ref (ad 80)), some (.int s), some (.int (mkS (fun m => decide (¬ meetsV V (s ^^^ b1 m) = meetsV V s)) m)), some (.int (kI (m : Int)))] [] h1 (0, 0) := fun h1 W1 hset => up_ind (fun m hm ih => ?_)
  · refine hJ 0 _ _ rfl _ _ _ _ (x_aload rfl (x_sipush (w_puti W 7 4 (by decide) shp_80 rfl rfl (okI rfl) (fun h1 W1 => x_aload rfl (x_iload rfl (x_cv rfl (Nat.le_of_ble_eq_true rfl) (isO_W W1 (by decide) shp_80) (c7_isSet W1 hK hV (xk_go (x_br (fun q1 => have q1 := bI_ne0.mp q1; hJ 1 _ _ rfl _ _ _ _ (x_sipush (x_istore rfl (x_sipush (x_istore rfl (x_goto (?_))))))) (fun q1 => have q1 := bI_nn q1; x_aload rfl (x_sipush (x_cv rfl (Nat.le_of_ble_eq_true rfl) (isO_W W1 (by decide) shp_80) (c7_fails W1 (fun h2 W2 => xk_go (x_iret (nrwI _) ?_)))))))))))))))
    · exact loop _ W1 q1 0 (Nat.zero_le _)
    · exact kk.go W2 (kpM4.trans kpM4) (kfM4.trans kfM4) (setT1 q1) wn4 (fun h => by cases h)
  have hs := isSet_sok hV hset
  have es : mkS (fun m => decide (¬ meetsV V (s ^^^ b1 m) = meetsV V s)) (m + 1) = mkS (fun m => decide (¬ meetsV V (s ^^^ b1 m) = meetsV V s)) m ||| (if decide (¬ meetsV V (s ^^^ b1 m) = meetsV V s) = true then b1 m else kI 0) := rfl
  have hbi : ∀ a b : Bool, bI a = bI b ↔ a = b := by decide
  refine hJ 2 _ _ rfl _ _ _ _ (x_iload rfl (x_aload rfl (x_cv rfl (Nat.le_of_ble_eq_true rfl) (isO_W W1 (by decide) shp_80) (c7_many W1 hK hV (xk_go (x_br2 (fun q1 => have q1 := ge_y rfl (by omega) q1; hJ 5 _ _ rfl _ _ _ _ (x_iload rfl (x_iret (nrwI _) ?_))) (fun q1 => have q1 := ge_n rfl (by omega) q1; x_iload rfl (x_aload rfl (x_iload rfl (x_sipush (x_iload rfl (x_shl1 (by omega) (x_ixor (x_cv rfl (Nat.le_of_ble_eq_true rfl) (isO_W W1 (by decide) shp_80) (c7_meets W1 hK (hs.tog q1) (xk_go (x_aload rfl (x_iload rfl (x_cv rfl (Nat.le_of_ble_eq_true rfl) (isO_W W1 (by decide) shp_80) (c7_meets W1 hK hs (xk_go (x_br2 (fun q2 => have q2 := cy_eq q2; hJ 3 _ _ rfl _ _ _ _ (x_sipush (x_goto (hJ 4 _ _ rfl _ _ _ _ (x_ior (x_istore rfl (x_iinc rfl rfl (x_goto (?_))))))))) (fun q2 => have q2 := cn_eq q2; x_sipush (x_iload rfl (x_shl1 (by omega) (x_goto (hJ 4 _ _ rfl _ _ _ _ (x_ior (x_istore rfl (x_iinc rfl rfl (x_goto (?_))))))))))))))))))))))))))))))))
  · have e : m = nm V := by omega
    subst e
    exact kk.go W1 kpM4 kfM4 (setT0 hset) wn4 (fun _ => rfl)
  · have q2 := (hbi _ _).mp q2
    rw [decide_eq_false (fun z => z q2)] at es
    refine J_c (ih q1) ?_
    simp only [sI, kN_succ, es]
    rfl
  · have q2 : ¬ meetsV V (s ^^^ b1 m) = meetsV V s := fun z => q2 (by rw [z])
    rw [decide_eq_true q2] at es
    refine J_c (ih q1) ?_
    simp only [sI, kN_succ, es]
    rfl
theorem m_replies {s x : Int32} (W : WW ad w h) (hK : wa w 81 = V) (hV : VOK V) (kk : KQ ad P w (replT V s x) (.int (replV V s x))) : WP ga L xs (d + 6) 209 [.ref (ad 80), .int s, .int x] h P := by
  have hn := hV.n.2
  refine WP.enter kX7_replies (Nat.le_of_ble_eq_true rfl) (fun J hJ => ?_)
  have sokR : isSetV V s = true → ∀ k, (∀ j, j < k → restV V (repl V s j) = false) → sok (nm V) (repl V s k) := by
    intro hset k
    induction k with
    | zero => intro _; exact isSet_sok hV hset
    | succ k ih =>
      intro hno
      exact (ih (fun j hj => hno j (by omega))).tog (ftg_least (hno k (by omega))).1
  have w01 : (Int64.ofNat 0).toInt ≤ x.toInt64.toInt ∧ x.toInt64.toInt ≤ (Int64.ofNat 1).toInt ↔ inV x 0 1 = true := by
    have e : inV x 0 1 = decide ((Int64.ofNat 0).toInt ≤ x.toInt64.toInt ∧ x.toInt64.toInt ≤ (Int64.ofNat 1).toInt) := (inV_l (a := 0) (b := 1) (by omega) (by omega)).symm
    rw [e, decide_eq_true_eq]
  have loop : ∀ h1, WW ad (sn w 80 4 (kI 0)) h1 → isSetV V s = true → inV x 0 1 = true → ∀ m, m ≤ 4097 → (∀ j, j < m → restV V (repl V s j) = false) → ∀ z, J 4 [some (.ref (ad 80)), some (.int s), some (.int x), some (.int (repl V s m)), some (.int (kI (m : Int))), z] [] h1 (0, 0) := fun h1 W1 hset hx => up_ind (fun m hm ih hno z => ?_)
  · refine hJ 0 _ _ rfl _ _ _ _ (x_aload rfl (x_aload rfl (x_iload rfl (x_cv rfl (Nat.le_of_ble_eq_true rfl) (isO_W W (by decide) shp_80) (c7_isSet W hK hV (xk_go (x_br (fun q1 => have q1 := bI_eq0.mp q1; hJ 1 _ _ rfl _ _ _ _ (x_sipush (x_goto (hJ 2 _ _ rfl _ _ _ _ (w_puti W 7 4 (by decide) shp_80 rfl rfl (okI rfl) (fun h1 W1 => x_aload rfl (w_geti W1 7 4 (by decide) shp_80 rfl rfl (x_br (fun q2 => absurd (show kI (1) ≤ 0 from q2) (by decide)) (fun q2 => x_sipush (x_iret (nrwI _) ?_)))))))))) (fun q1 => have q1 := bI_ne0.mp q1; x_iload rfl (x_i2l (x_ldc2 (x_ldc2 (x_cs rfl (Nat.le_of_ble_eq_true rfl) (c7_within (xk_go (x_br (fun q3 => have q3 := bI_eq0.mp q3; hJ 1 _ _ rfl _ _ _ _ (x_sipush (x_goto (hJ 2 _ _ rfl _ _ _ _ (w_puti W 7 4 (by decide) shp_80 rfl rfl (okI rfl) (fun h2 W2 => x_aload rfl (w_geti W2 7 4 (by decide) shp_80 rfl rfl (x_br (fun q4 => absurd (show kI (1) ≤ 0 from q4) (by decide)) (fun q4 => x_sipush (x_iret (nrwI _) ?_)))))))))) (fun q3 => have q3 := bI_ne0.mp q3; x_sipush (x_goto (hJ 2 _ _ rfl _ _ _ _ (w_puti W 7 4 (by decide) shp_80 rfl rfl (okI rfl) (fun h3 W3 => x_aload rfl (w_geti W3 7 4 (by decide) shp_80 rfl rfl (x_br (fun q5 => hJ 3 _ _ rfl _ _ _ _ (x_iload rfl (x_istore rfl (x_sipush (x_istore rfl (x_goto (?_))))))) (fun q5 => absurd (show kI (0) ≤ 0 by decide) q5)))))))))))))))))))))))
    · exact kk.go W1 kpM4 kfM4 (if_neg (fun z => by rw [z.1] at q1; cases q1)) wn4 (fun h => by cases h)
    · exact kk.go W2 kpM4 kfM4 (if_neg (fun z => of_decide_eq_false q3 (w01.mpr z.2))) wn4 (fun h => by cases h)
    · exact loop _ W3 q1 (w01.mp (of_decide_eq_true q3)) 0 (Nat.zero_le _) (fun j hj => by omega) _
  have hT : replT V s x = 0 := if_pos ⟨hset, hx⟩
  have hs := sokR hset m hno
  refine hJ 4 _ _ rfl _ _ _ _ (x_iload rfl (x_sipush (x_br2 (fun q1 => have q1 := gt_y (n := 4096) rfl (by omega) q1; hJ 8 _ _ rfl _ _ _ _ (x_sipush (x_iret (nrwI _) ?_))) (fun q1 => have q1 := gt_n (n := 4096) rfl (by omega) q1; x_aload rfl (x_iload rfl (x_cv rfl (Nat.le_of_ble_eq_true rfl) (isO_W W1 (by decide) shp_80) (c7_ftg W1 hK hV hs (xk_go (x_istore rfl (x_iload rfl (x_sipush (x_br2 (fun q2 => have q2 := r_false hV q2; hJ 7 _ _ rfl _ _ _ _ (x_iload rfl (x_sipush (x_iload rfl (x_ishl (x_ixor (x_istore rfl (x_iinc rfl rfl (x_goto (?_)))))))))) (fun q2 => have q2 := r_true hV (cn_ne q2); x_iload rfl (x_br (fun q3 => have q3 := cy_ne q3; hJ 5 _ _ rfl _ _ _ _ (x_iload rfl (x_goto (hJ 6 _ _ rfl _ _ _ _ (x_iret (nrwI _) ?_))))) (fun q3 => have q3 := cn_ne q3; x_iload rfl (x_goto (hJ 6 _ _ rfl _ _ _ _ (x_iret (nrwI _) ?_))))))))))))))))))
  · have e : fstG (fun k => restV V (repl V s k)) 4097 = 4097 := fst_all (fun j hj => hno j (by omega))
    unfold replV at kk
    rw [e, if_neg (by omega)] at kk
    exact kk.go W1 kpM4 kfM4 hT wn4 (fun _ => rfl)
  · have e1 := ftg_eq q2
    have e2 := ftg_least q2
    refine J_c (ih (by omega) (fun j hj => ?_) (some (.int (ftgV V (repl V s m))))) ?_
    · by_cases ej : j = m
      · rw [ej]; exact q2
      · exact hno j (by omega)
    · have e3 : repl V s (m + 1) = repl V s m ^^^ b1 (fstG (gainP V (repl V s m)) (nm V)) := rfl
      rw [e3, e1, shl1 _ (by omega)]
      simp only [sI, kN_succ]
  · have e : fstG (fun k => restV V (repl V s k)) 4097 = m := fst_is q2 hno (by omega)
    unfold replV at kk
    rw [e, if_pos (by omega), if_neg (show ¬ x = kI 0 from q3)] at kk
    exact kk.go W1 kpM4 kfM4 hT wn4 (fun _ => rfl)
  · have e : fstG (fun k => restV V (repl V s k)) 4097 = m := fst_is q2 hno (by omega)
    unfold replV at kk
    rw [e, if_pos (by omega), if_pos (show x = kI 0 from q3)] at kk
    exact kk.go W1 kpM4 kfM4 hT wn4 (fun _ => rfl)
def valV (V : VT) (b : Bool) (s : Int32) : Int32 := if b = true then bribeV V s else costAllV V s
def lvO (f : Int32 → Int32) : Option Nat → Int32
  | none => kI 0
  | some a => f (kI (a : Int))
theorem c7_leastSet {b : Bool} (W : WW ad w h) (hK : wa w 81 = V) (hV : VOK V) (hP : P (.inl (some (.int (optI (leastS V (valV V b)))))) h) : WP ga L xs (d + 6) 213 [.ref (ad 80), .int (bI b)] h P := by
  have hn := hV.n.2
  have h12 := pow_le hV
  refine WP.enter kX7_leastSet (Nat.le_of_ble_eq_true rfl) (fun J hJ => ?_)
  have loop : ∀ m, m ≤ 2 ^ nm V → ∀ z, J 1 [some (.ref (ad 80)), some (.int (bI b)), some (.int (optI (bst (fun a => meetsV V (kI (a : Int))) (fun a c => decide (valV V b (kI (a : Int)) < valV V b (kI (c : Int)))) m))), some (.int (lvO (valV V b) (bst (fun a => meetsV V (kI (a : Int))) (fun a c => decide (valV V b (kI (a : Int)) < valV V b (kI (c : Int)))) m))), some (.int (kI (m : Int))), z] [] h (0, 0) := up_ind (fun m hm ih z => ?_)
  · exact hJ 0 _ _ rfl _ _ _ _ (x_sipush (x_istore rfl (x_sipush (x_istore rfl (x_sipush (x_istore rfl (x_goto (loop 0 (Nat.zero_le _) _))))))))
  have hs : m < 2 ^ nm V → sok (nm V) (kI (m : Int)) := set_k hV
  have hl : ∀ a, bst (fun a => meetsV V (kI (a : Int))) (fun a c => decide (valV V b (kI (a : Int)) < valV V b (kI (c : Int)))) m = some a → a < 4096 := fun a h9 => by have := (bst_lt h9).1; omega
  have hsn := bst_succ (p := fun a => meetsV V (kI (a : Int))) (bt := fun a c => decide (valV V b (kI (a : Int)) < valV V b (kI (c : Int)))) (N := m)
  by_cases hlast : m = 2 ^ nm V
  · subst hlast
    refine hJ 1 _ _ rfl _ _ _ _ (x_iload rfl (x_aload rfl (x_cv rfl (Nat.le_of_ble_eq_true rfl) (isO_W W (by decide) shp_80) (c7_all W hK hV (xk_go (x_br2 (fun q1 => have q1 := ev_y hV hm q1; hJ 7 _ _ rfl _ _ _ _ (x_iload rfl (x_iret (nrwI _) ?_))) (fun q1 => have q1 := ev_n hV hm q1; x_aload rfl (x_iload rfl (x_cv rfl (Nat.le_of_ble_eq_true rfl) (isO_W W (by decide) shp_80) (c7_meets W hK (hs q1) (xk_go (x_br (fun q2 => have q2 := bI_ne0.mp q2; ?_) (fun q2 => have q2 := bI_nn q2; x_goto (?_))))))))))))))
    · exact hP
    all_goals omega
  have ih := ih (by omega)
  rw [hsn] at ih
  generalize bst (fun a => meetsV V (kI (a : Int))) (fun a c => decide (valV V b (kI (a : Int)) < valV V b (kI (c : Int)))) m = o at *
  have hval : ∀ (v : Int32), v = valV V b (kI (m : Int)) → meetsV V (kI (m : Int)) = true → ((optI o = kI (-1) → J 1 [some (.ref (ad 80)), some (.int (bI b)), some (.int (kI (m : Int))), some (.int v), some (.int (kI ((m + 1 : Nat) : Int))), some (.int v)] [] h (0, 0)) ∧ (¬ optI o = kI (-1) → v < lvO (valV V b) o → J 1 [some (.ref (ad 80)), some (.int (bI b)), some (.int (kI (m : Int))), some (.int v), some (.int (kI ((m + 1 : Nat) : Int))), some (.int v)] [] h (0, 0)) ∧ (¬ optI o = kI (-1) → lvO (valV V b) o ≤ v → J 1 [some (.ref (ad 80)), some (.int (bI b)), some (.int (optI o)), some (.int (lvO (valV V b) o)), some (.int (kI ((m + 1 : Nat) : Int))), some (.int v)] [] h (0, 0))) := by
    intro v hv hm9
    subst hv
    cases o with
    | none =>
      have e : bstF (fun a => meetsV V (kI (a : Int))) (fun a c => decide (valV V b (kI (a : Int)) < valV V b (kI (c : Int)))) m none = some m := by simp [bstF, hm9]
      rw [e] at ih
      exact ⟨fun _ => ih _, fun h => absurd rfl h, fun h => absurd rfl h⟩
    | some a =>
      refine ⟨fun h => absurd ((optI_none hl).mp h) (by simp), fun _ h => ?_, fun _ h => ?_⟩
      · have e : bstF (fun a => meetsV V (kI (a : Int))) (fun a c => decide (valV V b (kI (a : Int)) < valV V b (kI (c : Int)))) m (some a) = some m := by
          simp only [bstF, hm9, true_and, decide_eq_true_eq]
          exact if_pos h
        rw [e] at ih
        exact ih _
      · have e : bstF (fun a => meetsV V (kI (a : Int))) (fun a c => decide (valV V b (kI (a : Int)) < valV V b (kI (c : Int)))) m (some a) = some a := by
          simp only [bstF, hm9, true_and, decide_eq_true_eq]
          exact if_neg (Int32.not_lt.mpr h)
        rw [e] at ih
        exact ih _
  have hskip : meetsV V (kI (m : Int)) = false → ∀ z, J 1 [some (.ref (ad 80)), some (.int (bI b)), some (.int (optI o)), some (.int (lvO (valV V b) o)), some (.int (kI ((m + 1 : Nat) : Int))), z] [] h (0, 0) := fun hm9 z => by
    have e : bstF (fun a => meetsV V (kI (a : Int))) (fun a c => decide (valV V b (kI (a : Int)) < valV V b (kI (c : Int)))) m o = o := by
      cases o <;> simp [bstF, hm9]
    rw [e] at ih
    exact ih z
  refine hJ 1 _ _ rfl _ _ _ _ (x_iload rfl (x_aload rfl (x_cv rfl (Nat.le_of_ble_eq_true rfl) (isO_W W (by decide) shp_80) (c7_all W hK hV (xk_go (x_br2 (fun q1 => have q1 := ev_y hV hm q1; hJ 7 _ _ rfl _ _ _ _ (x_iload rfl (x_iret (nrwI _) ?_))) (fun q1 => have q1 := ev_n hV hm q1; x_aload rfl (x_iload rfl (x_cv rfl (Nat.le_of_ble_eq_true rfl) (isO_W W (by decide) shp_80) (c7_meets W hK (hs q1) (xk_go (x_br (fun q2 => have q2 := bI_ne0.mp q2; hJ 2 _ _ rfl _ _ _ _ (x_iload rfl (x_br (fun q3 => have q3 := bI_eq0.mp q3; hJ 3 _ _ rfl _ _ _ _ (x_aload rfl (x_iload rfl (x_cv rfl (Nat.le_of_ble_eq_true rfl) (isO_W W (by decide) shp_80) (c7_costOf W hK hV (hs q1) (xk_go (x_goto (hJ 4 _ _ rfl _ _ _ _ (x_istore rfl (x_iload rfl (x_sipush (x_br2 (fun q4 => have q4 := cy_eq q4; hJ 5 _ _ rfl _ _ _ _ (x_iload rfl (x_istore rfl (x_iload rfl (x_istore rfl (x_goto (hJ 6 _ _ rfl _ _ _ _ (x_iinc rfl rfl (x_goto (?_)))))))))) (fun q4 => have q4 := cn_eq q4; x_iload rfl (x_iload rfl (x_br2 (fun q5 => have q5 := cy_lt q5; hJ 5 _ _ rfl _ _ _ _ (x_iload rfl (x_istore rfl (x_iload rfl (x_istore rfl (x_goto (hJ 6 _ _ rfl _ _ _ _ (x_iinc rfl rfl (x_goto (?_)))))))))) (fun q5 => have q5 := cn_lt q5; x_goto (hJ 6 _ _ rfl _ _ _ _ (x_iinc rfl rfl (x_goto (?_)))))))))))))))))))) (fun q3 => have q3 := bI_ne0.mp q3; x_aload rfl (x_iload rfl (x_cv rfl (Nat.le_of_ble_eq_true rfl) (isO_W W (by decide) shp_80) (c7_bribeOf W hK hV (hs q1) (xk_go (x_goto (hJ 4 _ _ rfl _ _ _ _ (x_istore rfl (x_iload rfl (x_sipush (x_br2 (fun q6 => have q6 := cy_eq q6; hJ 5 _ _ rfl _ _ _ _ (x_iload rfl (x_istore rfl (x_iload rfl (x_istore rfl (x_goto (hJ 6 _ _ rfl _ _ _ _ (x_iinc rfl rfl (x_goto (?_)))))))))) (fun q6 => have q6 := cn_eq q6; x_iload rfl (x_iload rfl (x_br2 (fun q7 => have q7 := cy_lt q7; hJ 5 _ _ rfl _ _ _ _ (x_iload rfl (x_istore rfl (x_iload rfl (x_istore rfl (x_goto (hJ 6 _ _ rfl _ _ _ _ (x_iinc rfl rfl (x_goto (?_)))))))))) (fun q7 => have q7 := cn_lt q7; x_goto (hJ 6 _ _ rfl _ _ _ _ (x_iinc rfl rfl (x_goto (?_)))))))))))))))))))))) (fun q2 => have q2 := bI_nn q2; x_goto (hJ 6 _ _ rfl _ _ _ _ (x_iinc rfl rfl (x_goto (?_)))))))))))))))))
  · exact absurd q1 hlast
  · exact J_c ((hval _ (by unfold valV; rw [if_neg (by rw [q3]; decide)]) q2).1 q4) (by simp only [sI, kN_succ])
  · exact J_c ((hval _ (by unfold valV; rw [if_neg (by rw [q3]; decide)]) q2).2.1 q4 q5) (by simp only [sI, kN_succ])
  · exact J_c ((hval _ (by unfold valV; rw [if_neg (by rw [q3]; decide)]) q2).2.2 q4 q5) (by simp only [sI, kN_succ])
  · exact J_c ((hval _ (by unfold valV; rw [if_pos q3]) q2).1 q6) (by simp only [sI, kN_succ])
  · exact J_c ((hval _ (by unfold valV; rw [if_pos q3]) q2).2.1 q6 q7) (by simp only [sI, kN_succ])
  · exact J_c ((hval _ (by unfold valV; rw [if_pos q3]) q2).2.2 q6 q7) (by simp only [sI, kN_succ])
  · exact J_c (hskip q2 z) (by simp only [sI, kN_succ])
theorem m_leastBribe {x : Int32} (W : WW ad w h) (hK : wa w 81 = V) (hV : VOK V) (kk : KQ ad P w (whatT x) (.int (leastV V (bribeV V) x))) : WP ga L xs (d + 7) 214 [.ref (ad 80), .int x] h P := by
  have hn := hV.n.2
  have h12 := pow_le hV
  refine WP.enter kX7_leastBribe (Nat.le_of_ble_eq_true rfl) (fun J hJ => ?_)
  have w01 : inV x 0 1 = decide ((Int64.ofNat 0).toInt ≤ x.toInt64.toInt ∧ x.toInt64.toInt ≤ (Int64.ofNat 1).toInt) := (inV_l (a := 0) (b := 1) (by omega) (by omega)).symm
  have hv : valV V true = bribeV V := rfl
  have hl : ∀ a, leastS V (valV V true) = some a → a < 2 ^ nm V := fun a h9 => (bst_lt h9).1
  unfold leastV at kk
  rw [← hv] at kk
  have key : ∀ o : Option Nat, leastS V (valV V true) = o → inV x 0 1 = true → (optI o = kI (-1) → o = none) ∧ (¬ optI o = kI (-1) → ∃ a, o = some a ∧ a < 2 ^ nm V) := fun o ho _ => by
    cases o with
    | none => exact ⟨fun _ => rfl, fun h => absurd rfl h⟩
    | some a => exact ⟨fun h => absurd ((optI_none (fun b hb9 => by cases hb9; have := hl a ho; omega)).mp h) (by simp), fun _ => ⟨a, rfl, hl a ho⟩⟩
  refine hJ 0 _ _ rfl _ _ _ _ (x_aload rfl (x_iload rfl (x_i2l (x_ldc2 (x_ldc2 (x_cs rfl (Nat.le_of_ble_eq_true rfl) (c7_within (xk_go (x_br (fun q1 => have q1 := bI_eq0.mp q1; hJ 1 _ _ rfl _ _ _ _ (x_sipush (x_goto (hJ 2 _ _ rfl _ _ _ _ (w_puti W 7 4 (by decide) shp_80 rfl rfl (okI rfl) (fun h1 W1 => x_aload rfl (w_geti W1 7 4 (by decide) shp_80 rfl rfl (x_br (fun q2 => absurd (show kI (1) ≤ 0 from q2) (by decide)) (fun q2 => x_sipush (x_iret (nrwI _) ?_)))))))))) (fun q1 => have q1 := bI_ne0.mp q1; x_sipush (x_goto (hJ 2 _ _ rfl _ _ _ _ (w_puti W 7 4 (by decide) shp_80 rfl rfl (okI rfl) (fun h2 W2 => x_aload rfl (w_geti W2 7 4 (by decide) shp_80 rfl rfl (x_br (fun q3 => hJ 3 _ _ rfl _ _ _ _ (x_aload rfl (x_sipush (x_cv rfl (Nat.le_of_ble_eq_true rfl) (isO_W W2 (by decide) shp_80) (c7_leastSet (b := true) W2 hK hV (xk_go (x_istore rfl (x_iload rfl (x_sipush (x_br2 (fun q4 => have q4 := cy_eq q4; hJ 4 _ _ rfl _ _ _ _ (x_iload rfl (x_goto (hJ 6 _ _ rfl _ _ _ _ (x_iret (nrwI _) ?_))))) (fun q4 => have q4 := cn_eq q4; x_iload rfl (x_sipush (x_br2 (fun q5 => have q5 := cy_ne q5; hJ 5 _ _ rfl _ _ _ _ (x_aload rfl (x_iload rfl (x_cv rfl (Nat.le_of_ble_eq_true rfl) (isO_W W2 (by decide) shp_80) (c7_bribeOf W2 hK hV ?_ (xk_go (x_goto (hJ 6 _ _ rfl _ _ _ _ (x_iret (nrwI _) ?_))))))))) (fun q5 => have q5 := cn_ne q5; x_goto (hJ 4 _ _ rfl _ _ _ _ (x_iload rfl (x_goto (hJ 6 _ _ rfl _ _ _ _ (x_iret (nrwI _) ?_))))))))))))))))))) (fun q3 => absurd (show kI (0) ≤ 0 by decide) q3)))))))))))))))))
  · exact kk.go W1 kpM4 kfM4 (whatT1 (w01.trans q1)) wn4 (fun h => by cases h)
  · have hx := w01.trans q1
    have e := (key _ rfl hx).1 q4
    rw [e] at kk
    exact kk.go W2 kpM4 kfM4 (whatT0 hx) wn4 (fun _ => by rw [e]; rfl)
  · obtain ⟨a, e, ha⟩ := (key _ rfl (w01.trans q1)).2 q4
    rw [e]
    exact set_k hV ha
  · have hx := w01.trans q1
    obtain ⟨a, e, ha⟩ := (key _ rfl hx).2 q4
    have hx0 : x = kI 0 := (in01 hx).resolve_right q5
    rw [e] at kk
    refine kk.go W2 kpM4 kfM4 (whatT0 hx) wn4 (fun _ => ?_)
    rw [e]
    show _ = Value.int (if x = kI 0 then valV V true (kI (a : Int)) else kI (a : Int))
    rw [if_pos hx0]
    rfl
  · have hx := w01.trans q1
    obtain ⟨a, e, ha⟩ := (key _ rfl hx).2 q4
    have hx0 : ¬ x = kI 0 := by rw [q5]; decide
    rw [e] at kk
    refine kk.go W2 kpM4 kfM4 (whatT0 hx) wn4 (fun _ => ?_)
    rw [e]
    show _ = Value.int (if x = kI 0 then valV V true (kI (a : Int)) else kI (a : Int))
    rw [if_neg hx0]
    rfl
theorem m_contract {x : Int32} (W : WW ad w h) (hK : wa w 81 = V) (hV : VOK V) (kk : KQ ad P w (whatT x) (.int (leastV V (costAllV V) x))) : WP ga L xs (d + 7) 215 [.ref (ad 80), .int x] h P := by
  have hn := hV.n.2
  have h12 := pow_le hV
  refine WP.enter kX7_contract (Nat.le_of_ble_eq_true rfl) (fun J hJ => ?_)
  have w01 : inV x 0 1 = decide ((Int64.ofNat 0).toInt ≤ x.toInt64.toInt ∧ x.toInt64.toInt ≤ (Int64.ofNat 1).toInt) := (inV_l (a := 0) (b := 1) (by omega) (by omega)).symm
  have hv : valV V false = costAllV V := rfl
  have hl : ∀ a, leastS V (valV V false) = some a → a < 2 ^ nm V := fun a h9 => (bst_lt h9).1
  unfold leastV at kk
  rw [← hv] at kk
  have key : ∀ o : Option Nat, leastS V (valV V false) = o → inV x 0 1 = true → (optI o = kI (-1) → o = none) ∧ (¬ optI o = kI (-1) → ∃ a, o = some a ∧ a < 2 ^ nm V) := fun o ho _ => by
    cases o with
    | none => exact ⟨fun _ => rfl, fun h => absurd rfl h⟩
    | some a => exact ⟨fun h => absurd ((optI_none (fun b hb9 => by cases hb9; have := hl a ho; omega)).mp h) (by simp), fun _ => ⟨a, rfl, hl a ho⟩⟩
  refine hJ 0 _ _ rfl _ _ _ _ (x_aload rfl (x_iload rfl (x_i2l (x_ldc2 (x_ldc2 (x_cs rfl (Nat.le_of_ble_eq_true rfl) (c7_within (xk_go (x_br (fun q1 => have q1 := bI_eq0.mp q1; hJ 1 _ _ rfl _ _ _ _ (x_sipush (x_goto (hJ 2 _ _ rfl _ _ _ _ (w_puti W 7 4 (by decide) shp_80 rfl rfl (okI rfl) (fun h1 W1 => x_aload rfl (w_geti W1 7 4 (by decide) shp_80 rfl rfl (x_br (fun q2 => absurd (show kI (1) ≤ 0 from q2) (by decide)) (fun q2 => x_sipush (x_iret (nrwI _) ?_)))))))))) (fun q1 => have q1 := bI_ne0.mp q1; x_sipush (x_goto (hJ 2 _ _ rfl _ _ _ _ (w_puti W 7 4 (by decide) shp_80 rfl rfl (okI rfl) (fun h2 W2 => x_aload rfl (w_geti W2 7 4 (by decide) shp_80 rfl rfl (x_br (fun q3 => hJ 3 _ _ rfl _ _ _ _ (x_aload rfl (x_sipush (x_cv rfl (Nat.le_of_ble_eq_true rfl) (isO_W W2 (by decide) shp_80) (c7_leastSet (b := false) W2 hK hV (xk_go (x_istore rfl (x_iload rfl (x_sipush (x_br2 (fun q4 => have q4 := cy_eq q4; hJ 4 _ _ rfl _ _ _ _ (x_iload rfl (x_goto (hJ 6 _ _ rfl _ _ _ _ (x_iret (nrwI _) ?_))))) (fun q4 => have q4 := cn_eq q4; x_iload rfl (x_sipush (x_br2 (fun q5 => have q5 := cy_ne q5; hJ 5 _ _ rfl _ _ _ _ (x_aload rfl (x_iload rfl (x_cv rfl (Nat.le_of_ble_eq_true rfl) (isO_W W2 (by decide) shp_80) (c7_costOf W2 hK hV ?_ (xk_go (x_goto (hJ 6 _ _ rfl _ _ _ _ (x_iret (nrwI _) ?_))))))))) (fun q5 => have q5 := cn_ne q5; x_goto (hJ 4 _ _ rfl _ _ _ _ (x_iload rfl (x_goto (hJ 6 _ _ rfl _ _ _ _ (x_iret (nrwI _) ?_))))))))))))))))))) (fun q3 => absurd (show kI (0) ≤ 0 by decide) q3)))))))))))))))))
  · exact kk.go W1 kpM4 kfM4 (whatT1 (w01.trans q1)) wn4 (fun h => by cases h)
  · have hx := w01.trans q1
    have e := (key _ rfl hx).1 q4
    rw [e] at kk
    exact kk.go W2 kpM4 kfM4 (whatT0 hx) wn4 (fun _ => by rw [e]; rfl)
  · obtain ⟨a, e, ha⟩ := (key _ rfl (w01.trans q1)).2 q4
    rw [e]
    exact set_k hV ha
  · have hx := w01.trans q1
    obtain ⟨a, e, ha⟩ := (key _ rfl hx).2 q4
    have hx0 : x = kI 0 := (in01 hx).resolve_right q5
    rw [e] at kk
    refine kk.go W2 kpM4 kfM4 (whatT0 hx) wn4 (fun _ => ?_)
    rw [e]
    show _ = Value.int (if x = kI 0 then valV V false (kI (a : Int)) else kI (a : Int))
    rw [if_pos hx0]
    rfl
  · have hx := w01.trans q1
    obtain ⟨a, e, ha⟩ := (key _ rfl hx).2 q4
    have hx0 : ¬ x = kI 0 := by rw [q5]; decide
    rw [e] at kk
    refine kk.go W2 kpM4 kfM4 (whatT0 hx) wn4 (fun _ => ?_)
    rw [e]
    show _ = Value.int (if x = kI 0 then valV V false (kI (a : Int)) else kI (a : Int))
    rw [if_neg hx0]
    rfl
end M1
