/-! ===== the model: questions at rest ===== -/
theorem KQ.go {ad : Nat → Nat} {P : ac_P} {w w' : Wst} {h' : ac_H} {T t : Nat} {R v : Value} (kk : KQ ad P w T R) (W' : WW ad w' h') (k1 : kp SM w w') (k2 : kf FM w w') (hT : T = t) (h4 : wn w' 80 4 = kI (t : Int)) (hv : t = 0 → v = R) : P (.inl (some v)) h' := by
  subst hT
  exact kk h' w' v W' k1 k2 h4 hv
theorem setT0 {V : VT} {s : Int32} (h : isSetV V s = true) : setT V s = 0 := if_pos h
theorem setT1 {V : VT} {s : Int32} (h : isSetV V s = false) : setT V s = 1 := if_neg (by rw [h]; decide)
theorem whatT0 {s : Int32} (h : inV s 0 1 = true) : whatT s = 0 := if_pos h
theorem whatT1 {s : Int32} (h : inV s 0 1 = false) : whatT s = 1 := if_neg (by rw [h]; decide)
section M1
variable {ga : Nat → Nat} {L : Nat} {xs : Nat → Int32} {d : Nat} {h : ac_H} {P : ac_P} {ad : Nat → Nat} {w : Wst} {V : VT}
theorem m_gain {s x : Int32} (W : WW ad w h) (hK : wa w 81 = V) (hV : VOK V) (kk : KQ ad P w (gainT V s x) (.int (gainV V s x.toInt.toNat))) : WP ga L xs (d + 5) 193 [.ref (ad 80), .int s, .int x] h P := by
  have hn := hV.n.2
  have hm : isMemV V x = true → x = kI (x.toInt.toNat : Int) ∧ x.toInt.toNat < nm V := fun h => by
    have h := of_decide_eq_true h
    exact ⟨by rw [Int.toNat_of_nonneg h.1, kI_of], by omega⟩
  unfold gainT at kk
  refine WP.enter kX7_gain (Nat.le_of_ble_eq_true rfl) (fun J hJ => ?_)
  refine hJ 0 _ _ rfl _ _ _ _ (x_aload rfl (x_aload rfl (x_iload rfl (x_cv rfl (Nat.le_of_ble_eq_true rfl) (isO_W W (by decide) shp_80) (c7_isMember W hK hV (xk_go (x_br (fun q1 => have q1 := bI_ne0.mp q1; hJ 1 _ _ rfl _ _ _ _ (x_aload rfl (x_iload rfl (x_cv rfl (Nat.le_of_ble_eq_true rfl) (isO_W W (by decide) shp_80) (c7_isSet W hK hV (xk_go (x_br (fun q2 => have q2 := bI_eq0.mp q2; hJ 2 _ _ rfl _ _ _ _ (x_sipush (x_goto (hJ 3 _ _ rfl _ _ _ _ (w_puti W 7 4 (by decide) shp_80 rfl rfl (okI rfl) (fun h1 W1 => x_aload rfl (w_geti W1 7 4 (by decide) shp_80 rfl rfl (x_br (fun q3 => absurd (show kI (2) ≤ 0 from q3) (by decide)) (fun q3 => x_sipush (x_goto (hJ 5 _ _ rfl _ _ _ _ (x_iret (nrwI _) ?_)))))))))))) (fun q2 => have q2 := bI_ne0.mp q2; x_sipush (x_goto (hJ 3 _ _ rfl _ _ _ _ (w_puti W 7 4 (by decide) shp_80 rfl rfl (okI rfl) (fun h2 W2 => x_aload rfl (w_geti W2 7 4 (by decide) shp_80 rfl rfl (x_br (fun q4 => hJ 4 _ _ rfl _ _ _ _ (x_aload rfl (x_iload rfl (x_iload rfl (x_cv rfl (Nat.le_of_ble_eq_true rfl) (isO_W W2 (by decide) shp_80) (c7_gainOf W2 hK hV (isSet_sok hV q2) (hm q1).1 (hm q1).2 (xk_go (x_goto (hJ 5 _ _ rfl _ _ _ _ (x_iret (nrwI _) ?_)))))))))) (fun q4 => absurd (show kI (0) ≤ 0 by decide) q4))))))))))))))) (fun q1 => have q1 := bI_nn q1; x_sipush (x_goto (hJ 3 _ _ rfl _ _ _ _ (w_puti W 7 4 (by decide) shp_80 rfl rfl (okI rfl) (fun h3 W3 => x_aload rfl (w_geti W3 7 4 (by decide) shp_80 rfl rfl (x_br (fun q5 => absurd (show kI (1) ≤ 0 from q5) (by decide)) (fun q5 => x_sipush (x_goto (hJ 5 _ _ rfl _ _ _ _ (x_iret (nrwI _) ?_))))))))))))))))))
  · exact kk.go W1 kpM4 kfM4 (by rw [if_pos q1, if_neg (by rw [q2]; decide)]) wn4 (fun h => by cases h)
  · exact kk.go W2 kpM4 kfM4 (by rw [if_pos q1, if_pos q2]) wn4 (fun _ => rfl)
  · exact kk.go W3 kpM4 kfM4 (by rw [if_neg (by rw [q1]; decide)]) wn4 (fun h => by cases h)
theorem m_pay {s : Int32} (W : WW ad w h) (hK : wa w 81 = V) (hV : VOK V) (kk : KQ ad P w (setT V s) (.int (payAllV V s))) : WP ga L xs (d + 5) 207 [.ref (ad 80), .int s] h P := by
  refine WP.enter kX7_pay (Nat.le_of_ble_eq_true rfl) (fun J hJ => ?_)
  refine hJ 0 _ _ rfl _ _ _ _ (x_aload rfl (x_sipush (w_puti W 7 4 (by decide) shp_80 rfl rfl (okI rfl) (fun h1 W1 => x_aload rfl (x_iload rfl (x_cv rfl (Nat.le_of_ble_eq_true rfl) (isO_W W1 (by decide) shp_80) (c7_isSet W1 hK hV (xk_go (x_br (fun q1 => have q1 := bI_eq0.mp q1; hJ 1 _ _ rfl _ _ _ _ (x_aload rfl (x_sipush (x_cv rfl (Nat.le_of_ble_eq_true rfl) (isO_W W1 (by decide) shp_80) (c7_fails W1 (fun h2 W2 => xk_go (x_goto (hJ 2 _ _ rfl _ _ _ _ (x_iret (nrwI _) ?_))))))))) (fun q1 => have q1 := bI_ne0.mp q1; x_aload rfl (x_iload rfl (x_cv rfl (Nat.le_of_ble_eq_true rfl) (isO_W W1 (by decide) shp_80) (c7_payAll W1 hK hV (isSet_sok hV q1) (xk_go (x_goto (hJ 2 _ _ rfl _ _ _ _ (x_iret (nrwI _) ?_)))))))))))))))))
  · exact kk.go W2 (kpM4.trans kpM4) (kfM4.trans kfM4) (setT1 q1) wn4 (fun h => by cases h)
  · exact kk.go W1 kpM4 kfM4 (setT0 q1) wn4 (fun _ => rfl)
theorem m_bribe {s : Int32} (W : WW ad w h) (hK : wa w 81 = V) (hV : VOK V) (kk : KQ ad P w (setT V s) (.int (bribeV V s))) : WP ga L xs (d + 6) 211 [.ref (ad 80), .int s] h P := by
  refine WP.enter kX7_bribe (Nat.le_of_ble_eq_true rfl) (fun J hJ => ?_)
  refine hJ 0 _ _ rfl _ _ _ _ (x_aload rfl (x_sipush (w_puti W 7 4 (by decide) shp_80 rfl rfl (okI rfl) (fun h1 W1 => x_aload rfl (x_iload rfl (x_cv rfl (Nat.le_of_ble_eq_true rfl) (isO_W W1 (by decide) shp_80) (c7_isSet W1 hK hV (xk_go (x_br (fun q1 => have q1 := bI_eq0.mp q1; hJ 1 _ _ rfl _ _ _ _ (x_aload rfl (x_sipush (x_cv rfl (Nat.le_of_ble_eq_true rfl) (isO_W W1 (by decide) shp_80) (c7_fails W1 (fun h2 W2 => xk_go (x_goto (hJ 2 _ _ rfl _ _ _ _ (x_iret (nrwI _) ?_))))))))) (fun q1 => have q1 := bI_ne0.mp q1; x_aload rfl (x_iload rfl (x_cv rfl (Nat.le_of_ble_eq_true rfl) (isO_W W1 (by decide) shp_80) (c7_bribeOf W1 hK hV (isSet_sok hV q1) (xk_go (x_goto (hJ 2 _ _ rfl _ _ _ _ (x_iret (nrwI _) ?_)))))))))))))))))
  · exact kk.go W2 (kpM4.trans kpM4) (kfM4.trans kfM4) (setT1 q1) wn4 (fun h => by cases h)
  · exact kk.go W1 kpM4 kfM4 (setT0 q1) wn4 (fun _ => rfl)
theorem m_rests {s : Int32} (W : WW ad w h) (hK : wa w 81 = V) (hV : VOK V) (kk : KQ ad P w (setT V s) (.int (bI (restV V s)))) : WP ga L xs (d + 7) 194 [.ref (ad 80), .int s] h P := by
  refine WP.enter kX7_rests (Nat.le_of_ble_eq_true rfl) (fun J hJ => ?_)
  refine hJ 0 _ _ rfl _ _ _ _ (x_aload rfl (x_aload rfl (x_iload rfl (x_cv rfl (Nat.le_of_ble_eq_true rfl) (isO_W W (by decide) shp_80) (c7_isSet W hK hV (xk_go (x_br (fun q1 => have q1 := bI_eq0.mp q1; hJ 1 _ _ rfl _ _ _ _ (x_sipush (x_goto (hJ 2 _ _ rfl _ _ _ _ (w_puti W 7 4 (by decide) shp_80 rfl rfl (okI rfl) (fun h1 W1 => x_aload rfl (w_geti W1 7 4 (by decide) shp_80 rfl rfl (x_br (fun q2 => hJ 3 _ _ rfl _ _ _ _ (x_sipush (x_goto (hJ 4 _ _ rfl _ _ _ _ (x_iret (by first | exact nrwB _ | rfl | decide) ?_))))) (fun q2 => absurd (show ¬ kI (1) = 0 by decide) q2))))))))) (fun q1 => have q1 := bI_ne0.mp q1; x_sipush (x_goto (hJ 2 _ _ rfl _ _ _ _ (w_puti W 7 4 (by decide) shp_80 rfl rfl (okI rfl) (fun h2 W2 => x_aload rfl (w_geti W2 7 4 (by decide) shp_80 rfl rfl (x_br (fun q3 => absurd (show ¬ kI (0) = 0 from q3) (by decide)) (fun q3 => x_aload rfl (x_iload rfl (x_cv rfl (Nat.le_of_ble_eq_true rfl) (isO_W W2 (by decide) shp_80) (c7_ftg W2 hK hV (isSet_sok hV q1) (xk_go (x_sipush (x_br2 (fun q4 => have q4 := cy_ne q4; hJ 3 _ _ rfl _ _ _ _ (x_sipush (x_goto (hJ 4 _ _ rfl _ _ _ _ (x_iret (by first | exact nrwB _ | rfl | decide) ?_))))) (fun q4 => have q4 := cn_ne q4; x_sipush (x_goto (hJ 4 _ _ rfl _ _ _ _ (x_iret (by first | exact nrwB _ | rfl | decide) ?_)))))))))))))))))))))))))
  · exact kk.go W1 kpM4 kfM4 (setT1 q1) wn4 (fun h => by cases h)
  · exact kk.go W2 kpM4 kfM4 (setT0 q1) wn4 (fun _ => by rw [r_false hV q4]; rfl)
  · exact kk.go W2 kpM4 kfM4 (setT0 q1) wn4 (fun _ => by rw [r_true hV q4]; rfl)
theorem m_strong {s : Int32} (W : WW ad w h) (hK : wa w 81 = V) (hV : VOK V) (kk : KQ ad P w (setT V s) (.int (bI (strongV V s)))) : WP ga L xs (d + 7) 197 [.ref (ad 80), .int s] h P := by
  refine WP.enter kX7_strong (Nat.le_of_ble_eq_true rfl) (fun J hJ => ?_)
  refine hJ 0 _ _ rfl _ _ _ _ (x_aload rfl (x_aload rfl (x_iload rfl (x_cv rfl (Nat.le_of_ble_eq_true rfl) (isO_W W (by decide) shp_80) (c7_isSet W hK hV (xk_go (x_br (fun q1 => have q1 := bI_eq0.mp q1; hJ 1 _ _ rfl _ _ _ _ (x_sipush (x_goto (hJ 2 _ _ rfl _ _ _ _ (w_puti W 7 4 (by decide) shp_80 rfl rfl (okI rfl) (fun h1 W1 => x_aload rfl (w_geti W1 7 4 (by decide) shp_80 rfl rfl (x_br (fun q2 => hJ 3 _ _ rfl _ _ _ _ (x_sipush (x_goto (hJ 4 _ _ rfl _ _ _ _ (x_iret (by first | exact nrwB _ | rfl | decide) ?_))))) (fun q2 => absurd (show ¬ kI (1) = 0 by decide) q2))))))))) (fun q1 => have q1 := bI_ne0.mp q1; x_sipush (x_goto (hJ 2 _ _ rfl _ _ _ _ (w_puti W 7 4 (by decide) shp_80 rfl rfl (okI rfl) (fun h2 W2 => x_aload rfl (w_geti W2 7 4 (by decide) shp_80 rfl rfl (x_br (fun q3 => absurd (show ¬ kI (0) = 0 from q3) (by decide)) (fun q3 => x_aload rfl (x_iload rfl (x_cv rfl (Nat.le_of_ble_eq_true rfl) (isO_W W2 (by decide) shp_80) (c7_isStrong W2 hK hV (isSet_sok hV q1) (xk_go (x_br (fun q4 => have q4 := bI_eq0.mp q4; hJ 3 _ _ rfl _ _ _ _ (x_sipush (x_goto (hJ 4 _ _ rfl _ _ _ _ (x_iret (by first | exact nrwB _ | rfl | decide) ?_))))) (fun q4 => have q4 := bI_ne0.mp q4; x_sipush (x_goto (hJ 4 _ _ rfl _ _ _ _ (x_iret (by first | exact nrwB _ | rfl | decide) ?_))))))))))))))))))))))))
  · exact kk.go W1 kpM4 kfM4 (setT1 q1) wn4 (fun h => by cases h)
  · exact kk.go W2 kpM4 kfM4 (setT0 q1) wn4 (fun _ => by rw [q4]; rfl)
  · exact kk.go W2 kpM4 kfM4 (setT0 q1) wn4 (fun _ => by rw [q4]; rfl)
theorem m_rest {k : Int32} (W : WW ad w h) (hK : wa w 81 = V) (hV : VOK V) (kk : KQ ad P w 0 (.int (kthR (fun a => restV V (kI (a : Int))) (2 ^ nm V) k))) : WP ga L xs (d + 7) 195 [.ref (ad 80), .int k] h P := by
  have hn := hV.n.2
  have h12 := pow_le hV
  refine WP.enter kX7_rest (Nat.le_of_ble_eq_true rfl) (fun J hJ => ?_)
  refine hJ 0 _ _ rfl _ _ _ _ (x_aload rfl (x_sipush (w_puti W 7 4 (by decide) shp_80 rfl rfl (okI rfl) (fun h1 W1 => x_sipush (x_istore rfl (x_sipush (x_istore rfl (x_goto (?_)))))))))
  have loop : ∀ m, m ≤ 2 ^ nm V → ∀ c, fo (kthF (fun a => restV V (kI (a : Int))) k) (none, 0) m = (none, c) → J 1 [some (.ref (ad 80)), some (.int k), some (.int (kI (c : Int))), some (.int (kI (m : Int)))] [] h1 (0, 0) := up_ind (fun m hm ih c hf => ?_)
  · exact loop 0 (Nat.zero_le _) 0 rfl
  have hs : m < 2 ^ nm V → sok (nm V) (kI (m : Int)) := set_k hV
  have hc := kth_cnt hf
  refine hJ 1 _ _ rfl _ _ _ _ (x_iload rfl (x_aload rfl (x_cv rfl (Nat.le_of_ble_eq_true rfl) (isO_W W1 (by decide) shp_80) (c7_all W1 hK hV (xk_go (x_br2 (fun q1 => have q1 := ev_y hV hm q1; hJ 5 _ _ rfl _ _ _ _ (x_iload rfl (x_sipush (x_br2 (fun q2 => have q2 := cy_ne q2; hJ 6 _ _ rfl _ _ _ _ (x_sipush (x_goto (hJ 7 _ _ rfl _ _ _ _ (x_iret (nrwI _) ?_))))) (fun q2 => have q2 := cn_ne q2; x_iload rfl (x_goto (hJ 7 _ _ rfl _ _ _ _ (x_iret (nrwI _) ?_)))))))) (fun q1 => have q1 := ev_n hV hm q1; x_aload rfl (x_iload rfl (x_cv rfl (Nat.le_of_ble_eq_true rfl) (isO_W W1 (by decide) shp_80) (c7_ftg W1 hK hV (hs q1) (xk_go (x_sipush (x_br2 (fun q3 => have q3 := r_true hV q3; hJ 2 _ _ rfl _ _ _ _ (x_iload rfl (x_iload rfl (x_br2 (fun q4 => have q4 := cy_ne q4; hJ 3 _ _ rfl _ _ _ _ (x_iinc rfl rfl (x_goto (hJ 4 _ _ rfl _ _ _ _ (x_iinc rfl rfl (x_goto (?_))))))) (fun q4 => have q4 := cn_ne q4; x_iload rfl (x_iret (nrwI _) ?_)))))) (fun q3 => have q3 := r_false hV q3; x_goto (hJ 4 _ _ rfl _ _ _ _ (x_iinc rfl rfl (x_goto (?_))))))))))))))))))
  · subst q1
    rw [kth_end hf, if_neg q2] at kk
    exact kk.go W1 kpM4 kfM4 rfl wn4 (fun _ => rfl)
  · subst q1
    rw [kth_end hf, if_pos q2] at kk
    exact kk.go W1 kpM4 kfM4 rfl wn4 (fun _ => rfl)
  · refine J_c (ih q1 (c + 1) (kth_go hf q3 q4)) ?_
    simp only [sI, kN_succ]
  · rw [kth_stop hf q3 q4 q1] at kk
    exact kk.go W1 kpM4 kfM4 rfl wn4 (fun _ => rfl)
  · refine J_c (ih q1 c (kth_no hf q3)) ?_
    simp only [sI, kN_succ]
theorem m_strongs {k : Int32} (W : WW ad w h) (hK : wa w 81 = V) (hV : VOK V) (kk : KQ ad P w 0 (.int (kthR (fun a => strongV V (kI (a : Int))) (2 ^ nm V) k))) : WP ga L xs (d + 7) 198 [.ref (ad 80), .int k] h P := by
  have hn := hV.n.2
  have h12 := pow_le hV
  refine WP.enter kX7_strongs (Nat.le_of_ble_eq_true rfl) (fun J hJ => ?_)
  refine hJ 0 _ _ rfl _ _ _ _ (x_aload rfl (x_sipush (w_puti W 7 4 (by decide) shp_80 rfl rfl (okI rfl) (fun h1 W1 => x_sipush (x_istore rfl (x_sipush (x_istore rfl (x_goto (?_)))))))))
  have loop : ∀ m, m ≤ 2 ^ nm V → ∀ c, fo (kthF (fun a => strongV V (kI (a : Int))) k) (none, 0) m = (none, c) → J 1 [some (.ref (ad 80)), some (.int k), some (.int (kI (c : Int))), some (.int (kI (m : Int)))] [] h1 (0, 0) := up_ind (fun m hm ih c hf => ?_)
  · exact loop 0 (Nat.zero_le _) 0 rfl
  have hs : m < 2 ^ nm V → sok (nm V) (kI (m : Int)) := set_k hV
  have hc := kth_cnt hf
  refine hJ 1 _ _ rfl _ _ _ _ (x_iload rfl (x_aload rfl (x_cv rfl (Nat.le_of_ble_eq_true rfl) (isO_W W1 (by decide) shp_80) (c7_all W1 hK hV (xk_go (x_br2 (fun q1 => have q1 := ev_y hV hm q1; hJ 5 _ _ rfl _ _ _ _ (x_iload rfl (x_sipush (x_br2 (fun q2 => have q2 := cy_ne q2; hJ 6 _ _ rfl _ _ _ _ (x_sipush (x_goto (hJ 7 _ _ rfl _ _ _ _ (x_iret (nrwI _) ?_))))) (fun q2 => have q2 := cn_ne q2; x_iload rfl (x_goto (hJ 7 _ _ rfl _ _ _ _ (x_iret (nrwI _) ?_)))))))) (fun q1 => have q1 := ev_n hV hm q1; x_aload rfl (x_iload rfl (x_cv rfl (Nat.le_of_ble_eq_true rfl) (isO_W W1 (by decide) shp_80) (c7_isStrong W1 hK hV (hs q1) (xk_go (x_br (fun q3 => have q3 := bI_ne0.mp q3; hJ 2 _ _ rfl _ _ _ _ (x_iload rfl (x_iload rfl (x_br2 (fun q4 => have q4 := cy_ne q4; hJ 3 _ _ rfl _ _ _ _ (x_iinc rfl rfl (x_goto (hJ 4 _ _ rfl _ _ _ _ (x_iinc rfl rfl (x_goto (?_))))))) (fun q4 => have q4 := cn_ne q4; x_iload rfl (x_iret (nrwI _) ?_)))))) (fun q3 => have q3 := bI_nn q3; x_goto (hJ 4 _ _ rfl _ _ _ _ (x_iinc rfl rfl (x_goto (?_)))))))))))))))))
  · subst q1
    rw [kth_end hf, if_neg q2] at kk
    exact kk.go W1 kpM4 kfM4 rfl wn4 (fun _ => rfl)
  · subst q1
    rw [kth_end hf, if_pos q2] at kk
    exact kk.go W1 kpM4 kfM4 rfl wn4 (fun _ => rfl)
  · refine J_c (ih q1 (c + 1) (kth_go hf q3 q4)) ?_
    simp only [sI, kN_succ]
  · rw [kth_stop hf q3 q4 q1] at kk
    exact kk.go W1 kpM4 kfM4 rfl wn4 (fun _ => rfl)
  · refine J_c (ih q1 c (kth_no hf q3)) ?_
    simp only [sI, kN_succ]
theorem bst_succ {p : Nat → Bool} {bt : Nat → Nat → Bool} {N : Nat} : bst p bt (N + 1) = bstF p bt N (bst p bt N) := rfl
theorem m_bestRest (W : WW ad w h) (hK : wa w 81 = V) (hV : VOK V) (kk : KQ ad P w 0 (.int (bestRestV V))) : WP ga L xs (d + 6) 206 [.ref (ad 80)] h P := by
  have hn := hV.n.2
  have h12 := pow_le hV
  unfold bestRestV at kk
  refine WP.enter kX7_bestRest (Nat.le_of_ble_eq_true rfl) (fun J hJ => ?_)
  refine hJ 0 _ _ rfl _ _ _ _ (x_aload rfl (x_sipush (w_puti W 7 4 (by decide) shp_80 rfl rfl (okI rfl) (fun h1 W1 => x_sipush (x_istore rfl (x_sipush (x_istore rfl (x_goto (?_)))))))))
  have loop : ∀ m, m ≤ 2 ^ nm V → J 1 [some (.ref (ad 80)), some (.int (optI (bst (fun a => restV V (kI (a : Int))) (fun a b => decide (payAllV V (kI (b : Int)) < payAllV V (kI (a : Int)))) m))), some (.int (kI (m : Int)))] [] h1 (0, 0) := up_ind (fun m hm ih => ?_)
  · exact loop 0 (Nat.zero_le _)
  have hs : m < 2 ^ nm V → sok (nm V) (kI (m : Int)) := set_k hV
  have hl : ∀ a, bst (fun a => restV V (kI (a : Int))) (fun a b => decide (payAllV V (kI (b : Int)) < payAllV V (kI (a : Int)))) m = some a → a < 4096 := fun a h9 => by have := (bst_lt h9).1; omega
  have hl2 : ∀ a, bst (fun a => restV V (kI (a : Int))) (fun a b => decide (payAllV V (kI (b : Int)) < payAllV V (kI (a : Int)))) m = some a → sok (nm V) (kI (a : Int)) := fun a h9 => set_k hV (by have := (bst_lt h9).1; omega)
  have hsn := bst_succ (p := fun a => restV V (kI (a : Int))) (bt := fun a b => decide (payAllV V (kI (b : Int)) < payAllV V (kI (a : Int)))) (N := m)
  by_cases hlast : m = 2 ^ nm V
  · subst hlast
    refine hJ 1 _ _ rfl _ _ _ _ (x_iload rfl (x_aload rfl (x_cv rfl (Nat.le_of_ble_eq_true rfl) (isO_W W1 (by decide) shp_80) (c7_all W1 hK hV (xk_go (x_br2 (fun q1 => have q1 := ev_y hV hm q1; hJ 4 _ _ rfl _ _ _ _ (x_iload rfl (x_iret (nrwI _) ?_))) (fun q1 => have q1 := ev_n hV hm q1; x_aload rfl (x_iload rfl (x_cv rfl (Nat.le_of_ble_eq_true rfl) (isO_W W1 (by decide) shp_80) (c7_ftg W1 hK hV (hs q1) (xk_go (x_sipush (x_br2 (fun q2 => have q2 := r_false hV q2; ?_) (fun q2 => have q2 := r_true hV (cn_ne q2); x_iload rfl (x_sipush (x_br2 (fun q3 => have q3 := cy_eq q3; ?_) (fun q3 => have q3 := cn_eq q3; x_aload rfl (x_iload rfl (x_cv rfl (Nat.le_of_ble_eq_true rfl) (isO_W W1 (by decide) shp_80) (c7_payAll W1 hK hV ?_ (xk_go (x_aload rfl (x_iload rfl (x_cv rfl (Nat.le_of_ble_eq_true rfl) (isO_W W1 (by decide) shp_80) (c7_payAll W1 hK hV ?_ (xk_go (x_br2 (fun q4 => have q4 := cy_le q4; ?_) (fun q4 => have q4 := cn_le q4; x_goto (?_)))))))))))))))))))))))))))))
    · exact kk.go W1 kpM4 kfM4 rfl wn4 (fun _ => rfl)
    all_goals omega
  have ih := ih (by omega)
  rw [hsn] at ih
  generalize bst (fun a => restV V (kI (a : Int))) (fun a b => decide (payAllV V (kI (b : Int)) < payAllV V (kI (a : Int)))) m = o at *
  cases o with
  | none =>
    refine hJ 1 _ _ rfl _ _ _ _ (x_iload rfl (x_aload rfl (x_cv rfl (Nat.le_of_ble_eq_true rfl) (isO_W W1 (by decide) shp_80) (c7_all W1 hK hV (xk_go (x_br2 (fun q1 => have q1 := ev_y hV hm q1; hJ 4 _ _ rfl _ _ _ _ (x_iload rfl (x_iret (nrwI _) ?_))) (fun q1 => have q1 := ev_n hV hm q1; x_aload rfl (x_iload rfl (x_cv rfl (Nat.le_of_ble_eq_true rfl) (isO_W W1 (by decide) shp_80) (c7_ftg W1 hK hV (hs q1) (xk_go (x_sipush (x_br2 (fun q2 => have q2 := r_false hV q2; hJ 3 _ _ rfl _ _ _ _ (x_iinc rfl rfl (x_goto (?_)))) (fun q2 => have q2 := r_true hV (cn_ne q2); x_iload rfl (x_sipush (x_br2 (fun q3 => have q3 := cy_eq q3; hJ 2 _ _ rfl _ _ _ _ (x_iload rfl (x_istore rfl (x_goto (hJ 3 _ _ rfl _ _ _ _ (x_iinc rfl rfl (x_goto (?_)))))))) (fun q3 => have q3 := cn_eq q3; x_aload rfl (x_iload rfl (x_cv rfl (Nat.le_of_ble_eq_true rfl) (isO_W W1 (by decide) shp_80) (c7_payAll W1 hK hV ?_ (xk_go (x_aload rfl (x_iload rfl (x_cv rfl (Nat.le_of_ble_eq_true rfl) (isO_W W1 (by decide) shp_80) (c7_payAll W1 hK hV ?_ (xk_go (x_br2 (fun q4 => have q4 := cy_le q4; hJ 3 _ _ rfl _ _ _ _ (x_iinc rfl rfl (x_goto (?_)))) (fun q4 => have q4 := cn_le q4; x_goto (hJ 2 _ _ rfl _ _ _ _ (x_iload rfl (x_istore rfl (x_goto (hJ 3 _ _ rfl _ _ _ _ (x_iinc rfl rfl (x_goto (?_))))))))))))))))))))))))))))))))))))
    · exact absurd q1 hlast
    · have e : bstF (fun a => restV V (kI (a : Int))) (fun a b => decide (payAllV V (kI (b : Int)) < payAllV V (kI (a : Int)))) m none = none := by simp [bstF, q2]
      rw [e] at ih
      exact J_c ih (by simp only [sI, kN_succ])
    · have e : bstF (fun a => restV V (kI (a : Int))) (fun a b => decide (payAllV V (kI (b : Int)) < payAllV V (kI (a : Int)))) m none = some m := by simp [bstF, q2]
      rw [e] at ih
      exact J_c ih (by simp only [sI, kN_succ, optI])
    all_goals exact absurd rfl q3
  | some b =>
    refine hJ 1 _ _ rfl _ _ _ _ (x_iload rfl (x_aload rfl (x_cv rfl (Nat.le_of_ble_eq_true rfl) (isO_W W1 (by decide) shp_80) (c7_all W1 hK hV (xk_go (x_br2 (fun q1 => have q1 := ev_y hV hm q1; hJ 4 _ _ rfl _ _ _ _ (x_iload rfl (x_iret (nrwI _) ?_))) (fun q1 => have q1 := ev_n hV hm q1; x_aload rfl (x_iload rfl (x_cv rfl (Nat.le_of_ble_eq_true rfl) (isO_W W1 (by decide) shp_80) (c7_ftg W1 hK hV (hs q1) (xk_go (x_sipush (x_br2 (fun q2 => have q2 := r_false hV q2; hJ 3 _ _ rfl _ _ _ _ (x_iinc rfl rfl (x_goto (?_)))) (fun q2 => have q2 := r_true hV (cn_ne q2); x_iload rfl (x_sipush (x_br2 (fun q3 => have q3 := cy_eq q3; hJ 2 _ _ rfl _ _ _ _ (x_iload rfl (x_istore rfl (x_goto (hJ 3 _ _ rfl _ _ _ _ (x_iinc rfl rfl (x_goto (?_)))))))) (fun q3 => have q3 := cn_eq q3; x_aload rfl (x_iload rfl (x_cv rfl (Nat.le_of_ble_eq_true rfl) (isO_W W1 (by decide) shp_80) (c7_payAll W1 hK hV ?_ (xk_go (x_aload rfl (x_iload rfl (x_cv rfl (Nat.le_of_ble_eq_true rfl) (isO_W W1 (by decide) shp_80) (c7_payAll W1 hK hV ?_ (xk_go (x_br2 (fun q4 => have q4 := cy_le q4; hJ 3 _ _ rfl _ _ _ _ (x_iinc rfl rfl (x_goto (?_)))) (fun q4 => have q4 := cn_le q4; x_goto (hJ 2 _ _ rfl _ _ _ _ (x_iload rfl (x_istore rfl (x_goto (hJ 3 _ _ rfl _ _ _ _ (x_iinc rfl rfl (x_goto (?_))))))))))))))))))))))))))))))))))))
    · exact absurd q1 hlast
    · have e : bstF (fun a => restV V (kI (a : Int))) (fun a b => decide (payAllV V (kI (b : Int)) < payAllV V (kI (a : Int)))) m (some b) = some b := by simp [bstF, q2]
      rw [e] at ih
      exact J_c ih (by simp only [sI, kN_succ])
    · exact absurd ((optI_none hl).mp q3) (by simp)
    · exact hs q1
    · exact hl2 b rfl
    · have e : bstF (fun a => restV V (kI (a : Int))) (fun a b => decide (payAllV V (kI (b : Int)) < payAllV V (kI (a : Int)))) m (some b) = some b := by
        simp only [bstF, q2, true_and, decide_eq_true_eq]
        exact if_neg (Int32.not_lt.mpr q4)
      rw [e] at ih
      exact J_c ih (by simp only [sI, kN_succ])
    · have e : bstF (fun a => restV V (kI (a : Int))) (fun a b => decide (payAllV V (kI (b : Int)) < payAllV V (kI (a : Int)))) m (some b) = some m := by
        simp only [bstF, q2, true_and, decide_eq_true_eq]
        exact if_pos q4
      rw [e] at ih
      exact J_c ih (by simp only [sI, kN_succ, optI])
theorem m_pivots {s : Int32} (W : WW ad w h) (hK : wa w 81 = V) (hV : VOK V) (kk : KQ ad P w (setT V s) (.int (pivV V s))) : WP ga L xs (d + 5) 208 [.ref (ad 80), .int s] h P := by
  have hn := hV.n.2
  refine WP.enter kX7_pivots (Nat.le_of_ble_eq_true rfl) (fun J hJ => ?_)
  have loop : ∀ h1, WW ad (sn w 80 4 (kI 0)) h1 → isSetV V s = true → ∀ m, m ≤ nm V → J 2 [some (.ref (ad 80)), some (.int s), some (.int (mkS (fun m => decide (¬ meetsV V (s ^^^ b1 m) = meetsV V s)) m)), some (.int (kI (m : Int)))] [] h1 (0, 0) := fun h1 W1 hset => up_ind (fun m hm ih => ?_)
  · refine hJ 0 _ _ rfl _ _ _ _ (x_aload rfl (x_sipush (w_puti W 7 4 (by decide) shp_80 rfl rfl (okI rfl) (fun h1 W1 => x_aload rfl (x_iload rfl (x_cv rfl (Nat.le_of_ble_eq_true rfl) (isO_W W1 (by decide) shp_80) (c7_isSet W1 hK hV (xk_go (x_br (fun q1 => have q1 := bI_ne0.mp q1; hJ 1 _ _ rfl _ _ _ _ (x_sipush (x_istore rfl (x_sipush (x_istore rfl (x_goto (?_))))))) (fun q1 => have q1 := bI_nn q1; x_aload rfl (x_sipush (x_cv rfl (Nat.le_of_ble_eq_true rfl) (isO_W W1 (by decide) shp_80) (c7_fails W1 (fun h2 W2 => xk_go (x_iret (nrwI _) ?_)))))))))))))))
    · exact loop _ W1 q1 0 (Nat.zero_le _)
    · exact kk.go W2 (kpM4.trans kpM4) (kfM4.trans kfM4) (setT1 q1) wn4 (fun h => by cases h)
  have hs := isSet_sok hV hset
  have es : mkS (fun m => decide (¬ meetsV V (s ^^^ b1 m) = meetsV V s)) (m + 1) = mkS (fun m => decide (¬ meetsV V (s ^^^ b1 m) = meetsV V s)) m ||| (if decide (¬ meetsV V (s ^^^ b1 m) = meetsV V s) = true then b1 m else kI 0) := rfl
  have hbi : ∀ a b : Bool, bI a = bI b ↔ a = b := by decide
  refine hJ 2 _ _ rfl _ _ _ _ (x_iload rfl (x_aload rfl (x_cv rfl (Nat.le_of_ble_eq_true rfl) (isO_W W1 (by decide) shp_80) (c7_many W1 hK hV (xk_go (x_br2 (fun q1 => have q1 := ge_y rfl (by omega) q1; hJ 5 _ _ rfl _ _ _ _ (x_iload rfl (x_iret (nrwI _) ?_))) (fun q1 => have q1 := ge_n rfl (by omega) q1; x_iload rfl (x_aload rfl (x_iload rfl (x_sipush (x_iload rfl (x_shl1 (by omega) (x_ixor (x_cv rfl (Nat.le_of_ble_eq_true rfl) (isO_W W1 (by decide) shp_80) (c7_meets W1 hK (hs.tog q1) (xk_go (x_aload rfl (x_iload rfl (x_cv rfl (Nat.le_of_ble_eq_true rfl) (isO_W W1 (by decide) shp_80) (c7_meets W1 hK hs (xk_go (x_br2 (fun q2 => have q2 := cy_eq q2; hJ 3 _ _ rfl _ _ _ _ (x_sipush (x_goto (hJ 4 _ _ rfl _ _ _ _ (x_ior (x_istore rfl (x_iinc rfl rfl (x_goto (?_))))))))) (fun q2 => have q2 := cn_eq q2; x_sipush (x_iload rfl (x_shl1 (by omega) (x_goto (hJ 4 _ _ rfl _ _ _ _ (x_ior (x_istore rfl (x_iinc rfl rfl (x_goto (?_))))))))))))))))))))))))))))))))
  · have e : m = nm V := by omega
    subst e
    exact kk.go W1 kpM4 kfM4 (setT0 hset) wn4 (fun _ => rfl)
  · have q2 := (hbi _ _).mp q2
    rw [decide_eq_false (fun z => z q2)] at es
    refine J_c (ih q1) ?_
    simp only [sI, kN_succ, es]
    rfl
  · have q2 : ¬ meetsV V (s ^^^ b1 m) = meetsV V s := fun z => q2 (by rw [z])
    rw [decide_eq_true q2] at es
    refine J_c (ih q1) ?_
    simp only [sI, kN_succ, es]
    rfl
theorem m_replies {s x : Int32} (W : WW ad w h) (hK : wa w 81 = V) (hV : VOK V) (kk : KQ ad P w (replT V s x) (.int (replV V s x))) : WP ga L xs (d + 6) 209 [.ref (ad 80), .int s, .int x] h P := by
  have hn := hV.n.2
  refine WP.enter kX7_replies (Nat.le_of_ble_eq_true rfl) (fun J hJ => ?_)
  have sokR : ∀ k, isSetV V s = true → sok (nm V) (repl V s k) := by
    intro k hset
    induction k with
    | zero => exact isSet_sok hV hset
    | succ k ih =>
      show sok (nm V) (repl V s k ^^^ b1 (fstG (gainP V (repl V s k)) (nm V)))
      by_cases e : fstG (gainP V (repl V s k)) (nm V) < nm V
      · exact ih.tog e
      · refine ⟨hn, fun j hj => ?_⟩
        sorry
  all_goals sorry
end M1
