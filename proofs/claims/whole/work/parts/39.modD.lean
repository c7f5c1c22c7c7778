/-! ===== the model: what was ===== -/
section M1
variable {ga : Nat → Nat} {L : Nat} {xs : Nat → Int32} {d : Nat} {h : ac_H} {P : ac_P} {ad : Nat → Nat} {w : Wst} {V : VT}
theorem c7_isWeek {x : Int32} (W : WW ad w h) (hK : wa w 81 = V) (hV : VOK V) (hP : P (.inl (some (.int (bI (isWkV V x))))) h) : WP ga L xs (d + 2) 181 [.ref (ad 80), .int x] h P := by
  have hn := hV.n.2
  have hw := hV.w.2
  have e5 : wa w 81 5 = kI (wk V : Int) := by rw [hK]; exact hV.w.1
  have hS : ∀ j, wa w 81 (54 + j) = vS V j := fun j => by rw [hK]; rfl
  have e : isWkV V x = decide ((Int64.ofNat 0).toInt ≤ x.toInt64.toInt ∧ x.toInt64.toInt ≤ ((wa w 81 5 - kI 1).toInt64).toInt) := by
    rw [toInt64_toInt, toInt64_toInt, i64_nat (by omega), e5, kI_sub, kI_toInt (by omega) (by omega)]
    unfold isWkV
    rw [decide_eq_decide]
    omega
  rw [e] at hP
  refine WP.enter kX7_isWeek (Nat.le_of_ble_eq_true rfl) (fun J hJ => ?_)
  exact hJ 0 _ _ rfl _ _ _ _ (x_iload rfl (x_i2l (x_ldc2 (x_aload rfl (w_getr W 7 0 (t := 81) (by decide) shp_80 rfl rfl rfl (x_sipush (w_iald W 5 (by decide) shp_81 rfl (by decide) (by decide) (x_sipush (x_isub (x_i2l (x_cs rfl (Nat.le_of_ble_eq_true rfl) (c7_within (xk_go (x_iret (by first | exact nrwB _ | rfl | decide) hP))))))))))))))
theorem m_came {x : Int32} (W : WW ad w h) (hK : wa w 81 = V) (hV : VOK V) (kk : KQ ad P w (cameT V x) (.int (vS V (tN x)))) : WP ga L xs (d + 3) 182 [.ref (ad 80), .int x] h P := by
  have hn := hV.n.2
  have hw := hV.w.2
  have e5 : wa w 81 5 = kI (wk V : Int) := by rw [hK]; exact hV.w.1
  have hS : ∀ j, wa w 81 (54 + j) = vS V j := fun j => by rw [hK]; rfl
  refine WP.enter kX7_came (Nat.le_of_ble_eq_true rfl) (fun J hJ => ?_)
  refine hJ 0 _ _ rfl _ _ _ _ (x_aload rfl (x_sipush (w_puti W 7 4 (by decide) shp_80 rfl rfl (okI rfl) (fun h1 W1 => x_aload rfl (x_iload rfl (x_cv rfl (Nat.le_of_ble_eq_true rfl) (isO_W W1 (by decide) shp_80) (c7_isWeek W1 hK hV (xk_go (x_br (fun q1 => have q1 := bI_eq0.mp q1; hJ 1 _ _ rfl _ _ _ _ (x_aload rfl (x_sipush (x_cv rfl (Nat.le_of_ble_eq_true rfl) (isO_W W1 (by decide) shp_80) (c7_fails W1 (fun h2 W2 => xk_go (x_goto (hJ 2 _ _ rfl _ _ _ _ (x_iret (nrwI _) ?_))))))))) (fun q1 => have q1 := bI_ne0.mp q1; x_aload rfl (w_getr W1 7 0 (t := 81) (by decide) shp_80 rfl rfl rfl (x_sipush (x_iload rfl (x_iadd (w_iald W1 (54 + tN x) (by decide) shp_81 (by rw [(isWk_m q1).1, came_ix]; rw [← (isWk_m q1).1]) (by have := (isWk_m q1).2; omega) (by decide) (x_goto (hJ 2 _ _ rfl _ _ _ _ (x_iret (nrwI _) ?_))))))))))))))))))
  · exact kk.go W2 (kpM4.trans kpM4) (kfM4.trans kfM4) (if_neg (by rw [q1]; decide)) wn4 (fun h => by cases h)
  · exact kk.go W1 kpM4 kfM4 (if_pos q1) wn4 (fun _ => by rw [← hS]; rfl)
theorem m_met {x : Int32} (W : WW ad w h) (hK : wa w 81 = V) (hV : VOK V) (kk : KQ ad P w (cameT V x) (.int (bI (meetsV V (vS V (tN x)))))) : WP ga L xs (d + 3) 183 [.ref (ad 80), .int x] h P := by
  have hn := hV.n.2
  have hw := hV.w.2
  have e5 : wa w 81 5 = kI (wk V : Int) := by rw [hK]; exact hV.w.1
  have hS : ∀ j, wa w 81 (54 + j) = vS V j := fun j => by rw [hK]; rfl
  have hs : isWkV V x = true → sok (nm V) (wa w 81 (54 + tN x)) := fun h9 => by rw [hS]; exact hV.2.2 _ (isWk_m h9).2
  refine WP.enter kX7_met (Nat.le_of_ble_eq_true rfl) (fun J hJ => ?_)
  refine hJ 0 _ _ rfl _ _ _ _ (x_aload rfl (x_aload rfl (x_iload rfl (x_cv rfl (Nat.le_of_ble_eq_true rfl) (isO_W W (by decide) shp_80) (c7_isWeek W hK hV (xk_go (x_br (fun q1 => have q1 := bI_eq0.mp q1; hJ 1 _ _ rfl _ _ _ _ (x_sipush (x_goto (hJ 2 _ _ rfl _ _ _ _ (w_puti W 7 4 (by decide) shp_80 rfl rfl (okI rfl) (fun h1 W1 => x_aload rfl (w_geti W1 7 4 (by decide) shp_80 rfl rfl (x_br (fun q2 => hJ 3 _ _ rfl _ _ _ _ (x_sipush (x_goto (hJ 4 _ _ rfl _ _ _ _ (x_iret (by first | exact nrwB _ | rfl | decide) ?_))))) (fun q2 => absurd (show ¬ kI (1) = 0 by decide) q2))))))))) (fun q1 => have q1 := bI_ne0.mp q1; x_sipush (x_goto (hJ 2 _ _ rfl _ _ _ _ (w_puti W 7 4 (by decide) shp_80 rfl rfl (okI rfl) (fun h2 W2 => x_aload rfl (w_geti W2 7 4 (by decide) shp_80 rfl rfl (x_br (fun q3 => absurd (show ¬ kI (0) = 0 from q3) (by decide)) (fun q3 => x_aload rfl (x_aload rfl (w_getr W2 7 0 (t := 81) (by decide) shp_80 rfl rfl rfl (x_sipush (x_iload rfl (x_iadd (w_iald W2 (54 + tN x) (by decide) shp_81 (by rw [(isWk_m q1).1, came_ix]; rw [← (isWk_m q1).1]) (by have := (isWk_m q1).2; omega) (by decide) (x_cv rfl (Nat.le_of_ble_eq_true rfl) (isO_W W2 (by decide) shp_80) (c7_meets W2 hK (hs q1) (xk_go (x_br (fun q4 => have q4 := bI_eq0.mp q4; hJ 3 _ _ rfl _ _ _ _ (x_sipush (x_goto (hJ 4 _ _ rfl _ _ _ _ (x_iret (by first | exact nrwB _ | rfl | decide) ?_))))) (fun q4 => have q4 := bI_ne0.mp q4; x_sipush (x_goto (hJ 4 _ _ rfl _ _ _ _ (x_iret (by first | exact nrwB _ | rfl | decide) ?_)))))))))))))))))))))))))))))
  · exact kk.go W1 kpM4 kfM4 (if_neg (by rw [q1]; decide)) wn4 (fun h => by cases h)
  · exact kk.go W2 kpM4 kfM4 (if_pos q1) wn4 (fun _ => by rw [← hS]; have q4 : meetsV V (wa w 81 (54 + tN x)) = false := q4; rw [q4]; rfl)
  · exact kk.go W2 kpM4 kfM4 (if_pos q1) wn4 (fun _ => by rw [← hS]; have q4 : meetsV V (wa w 81 (54 + tN x)) = true := q4; rw [q4]; rfl)
theorem kp_lm {l : List Nat} {w w' : Wst} (h : kp l w w') (hl : ∀ a ∈ l, a ∈ SM) : kp SM w w' := h.mono hl
theorem l1786 : ∀ a ∈ [80, 86], a ∈ SM := by decide
theorem f17 : ∀ a ∈ [17], a ∈ FM := by decide
theorem m_next (W : WW ad w h) (hK : wa w 81 = V) (hV : VOK V) (kk : KQ ad P w 0 (.int (nextP V (startP V)))) : WP ga L xs (d + 8) 184 [.ref (ad 80)] h P := by
  have hn := hV.n.2
  have hw := hV.w.2
  have e5 : wa w 81 5 = kI (wk V : Int) := by rw [hK]; exact hV.w.1
  have hS : ∀ j, wa w 81 (54 + j) = vS V j := fun j => by rw [hK]; rfl
  refine WP.enter kX7_next (Nat.le_of_ble_eq_true rfl) (fun J hJ => ?_)
  refine hJ 0 _ _ rfl _ _ _ _ (x_aload rfl (x_sipush (w_puti W 7 4 (by decide) shp_80 rfl rfl (okI rfl) (fun h1 W1 => x_aload rfl (x_cv rfl (Nat.le_of_ble_eq_true rfl) (isO_W W1 (by decide) shp_80) (c7_lays W1 hK hV (fun h2 w2 W2 e2 f2 r2 => xk_v (x_aload rfl (x_cv rfl (Nat.le_of_ble_eq_true rfl) (isO_W W2 (by decide) shp_80) (c7_goesOn W2 (by rw [(e2 81 (by simp)).2.2.1]; exact hK) hV r2 (POK.start hV) (by show wk V < 470; omega) (fun h3 w3 W3 e3 f3 r3 => xk_go (x_iret (nrwI _) ?_))))))))))))
  exact kk.go W3 ((kpM4.trans (e2.mono l1786)).trans (e3.mono l1786)) ((kfM4.trans (f2.mono f17)).trans (f3.mono f17)) rfl (by rw [f3 4 (by simp), f2 4 (by simp), wn4]; rfl) (fun _ => rfl)
theorem m_hats {x : Int32} (W : WW ad w h) (hK : wa w 81 = V) (hV : VOK V) (kk : KQ ad P w (memT1 V x) (.int (kI (pc (hatsV V (nextP V (startP V)) (tN x)) : Int)))) : WP ga L xs (d + 8) 185 [.ref (ad 80), .int x] h P := by
  have hn := hV.n.2
  have hw := hV.w.2
  have e5 : wa w 81 5 = kI (wk V : Int) := by rw [hK]; exact hV.w.1
  have hS : ∀ j, wa w 81 (54 + j) = vS V j := fun j => by rw [hK]; rfl
  refine WP.enter kX7_hats (Nat.le_of_ble_eq_true rfl) (fun J hJ => ?_)
  refine hJ 0 _ _ rfl _ _ _ _ (x_aload rfl (x_sipush (w_puti W 7 4 (by decide) shp_80 rfl rfl (okI rfl) (fun h1 W1 => x_aload rfl (x_cv rfl (Nat.le_of_ble_eq_true rfl) (isO_W W1 (by decide) shp_80) (c7_lays W1 hK hV (fun h2 w2 W2 e2 f2 r2 => xk_v (x_aload rfl (x_iload rfl (x_cv rfl (Nat.le_of_ble_eq_true rfl) (isO_W W2 (by decide) shp_80) (c7_isMember W2 (by rw [(e2 81 (by simp)).2.2.1]; exact hK) hV (xk_go (x_br (fun q1 => have q1 := bI_eq0.mp q1; hJ 1 _ _ rfl _ _ _ _ (x_aload rfl (x_sipush (x_cv rfl (Nat.le_of_ble_eq_true rfl) (isO_W W2 (by decide) shp_80) (c7_fails W2 (fun h3 W3 => xk_go (x_goto (hJ 2 _ _ rfl _ _ _ _ (x_iret (nrwI _) ?_))))))))) (fun q1 => have q1 := bI_ne0.mp q1; x_aload rfl (x_iload rfl (x_aload rfl (x_cv rfl (Nat.le_of_ble_eq_true rfl) (isO_W W2 (by decide) shp_80) (c7_goesOn W2 (by rw [(e2 81 (by simp)).2.2.1]; exact hK) hV r2 (POK.start hV) (by show wk V < 470; omega) (fun h4 w4 W4 e4 f4 r4 => xk_go (x_sipush (x_cv rfl (Nat.le_of_ble_eq_true rfl) (isO_W W4 (by decide) shp_80) (c7_seen (fog := false) W4 (by rw [(e4 81 (by simp)).2.2.1, (e2 81 (by simp)).2.2.1]; exact hK) hV (isMem_m q1).1 (Nat.le_of_lt (isMem_m q1).2) (fun h5 W5 => xk_go (x_goto (hJ 2 _ _ rfl _ _ _ _ (x_iret (nrwI _) ?_))))))))))))))))))))))))))
  · exact kk.go W3 ((kpM4.trans (e2.mono l1786)).trans kpM4) ((kfM4.trans (f2.mono f17)).trans kfM4) (if_neg (by rw [q1]; decide)) wn4 (fun h => by cases h)
  · refine kk.go W5 (((kpM4.trans (e2.mono l1786)).trans (e4.mono l1786)).trans (kp_sn (by simp [SM]))) (((kfM4.trans (f2.mono f17)).trans (f4.mono f17)).trans (kf_sn (by simp [FM]))) (if_pos q1) (by rw [wn_sn, if_neg (by omega), f4 4 (by simp), f2 4 (by simp), wn4]; rfl) (fun _ => ?_)
    rw [seen0_eq, ← pc_hats (by have := (isMem_m q1).2; omega)]
theorem m_thought {x y : Int32} (W : WW ad w h) (hK : wa w 81 = V) (hV : VOK V) (kk : KQ ad P w (thoughtT V x y) (.int (bI (hb (thoughtsV V (lastV V) (tN y)) (tN x))))) : WP ga L xs (d + 4) 186 [.ref (ad 80), .int x, .int y] h P := by
  have hn := hV.n.2
  have hw := hV.w.2
  have e5 : wa w 81 5 = kI (wk V : Int) := by rw [hK]; exact hV.w.1
  have hS : ∀ j, wa w 81 (54 + j) = vS V j := fun j => by rw [hK]; rfl
  have hl : sok (nm V) (lastV V) := (POK.start hV).last hn
  have ew : inV y 0 6 = decide ((Int64.ofNat 0).toInt ≤ y.toInt64.toInt ∧ y.toInt64.toInt ≤ (Int64.ofNat 6).toInt) := (inV_l (a := 0) (b := 6) (by omega) (by omega)).symm
  unfold thoughtT at kk
  refine WP.enter kX7_thought (Nat.le_of_ble_eq_true rfl) (fun J hJ => ?_)
  refine hJ 0 _ _ rfl _ _ _ _ (x_aload rfl (x_aload rfl (x_iload rfl (x_cv rfl (Nat.le_of_ble_eq_true rfl) (isO_W W (by decide) shp_80) (c7_isMember W hK hV (xk_go (x_br (fun q1 => have q1 := bI_ne0.mp q1; hJ 1 _ _ rfl _ _ _ _ (x_iload rfl (x_i2l (x_ldc2 (x_ldc2 (x_cs rfl (Nat.le_of_ble_eq_true rfl) (c7_within (xk_go (x_br (fun q2 => have q2 := bI_eq0.mp q2; hJ 2 _ _ rfl _ _ _ _ (x_sipush (x_goto (hJ 3 _ _ rfl _ _ _ _ (w_puti W 7 4 (by decide) shp_80 rfl rfl (okI rfl) (fun h1 W1 => x_aload rfl (w_geti W1 7 4 (by decide) shp_80 rfl rfl (x_br (fun q3 => hJ 4 _ _ rfl _ _ _ _ (x_sipush (x_goto (hJ 5 _ _ rfl _ _ _ _ (x_iret (by first | exact nrwB _ | rfl | decide) ?_))))) (fun q3 => absurd (show ¬ kI (2) = 0 by decide) q3))))))))) (fun q2 => have q2 := bI_ne0.mp q2; x_sipush (x_goto (hJ 3 _ _ rfl _ _ _ _ (w_puti W 7 4 (by decide) shp_80 rfl rfl (okI rfl) (fun h2 W2 => x_aload rfl (w_geti W2 7 4 (by decide) shp_80 rfl rfl (x_br (fun q4 => absurd (show ¬ kI (0) = 0 from q4) (by decide)) (fun q4 => x_aload rfl (x_aload rfl (x_cv rfl (Nat.le_of_ble_eq_true rfl) (isO_W W2 (by decide) shp_80) (c7_last W2 hK hV (xk_go (x_iload rfl (x_cv rfl (Nat.le_of_ble_eq_true rfl) (isO_W W2 (by decide) shp_80) (c7_thoughts W2 hK hV hl (in_m (b := 6) (ew.trans q2)).1 (by have := (in_m (b := 6) (ew.trans q2)).2; omega) (xk_go (x_iload rfl (x_cs rfl (Nat.le_of_ble_eq_true rfl) (c7_has (isMem_m q1).1 (by have := (isMem_m q1).2; omega) (xk_go (x_br (fun q5 => have q5 := bI_eq0.mp q5; hJ 4 _ _ rfl _ _ _ _ (x_sipush (x_goto (hJ 5 _ _ rfl _ _ _ _ (x_iret (by first | exact nrwB _ | rfl | decide) ?_))))) (fun q5 => have q5 := bI_ne0.mp q5; x_sipush (x_goto (hJ 5 _ _ rfl _ _ _ _ (x_iret (by first | exact nrwB _ | rfl | decide) ?_)))))))))))))))))))))))))))))))))) (fun q1 => have q1 := bI_nn q1; x_sipush (x_goto (hJ 3 _ _ rfl _ _ _ _ (w_puti W 7 4 (by decide) shp_80 rfl rfl (okI rfl) (fun h3 W3 => x_aload rfl (w_geti W3 7 4 (by decide) shp_80 rfl rfl (x_br (fun q6 => hJ 4 _ _ rfl _ _ _ _ (x_sipush (x_goto (hJ 5 _ _ rfl _ _ _ _ (x_iret (by first | exact nrwB _ | rfl | decide) ?_))))) (fun q6 => absurd (show ¬ kI (1) = 0 by decide) q6)))))))))))))))
  · exact kk.go W1 kpM4 kfM4 (by rw [if_pos q1, if_neg (by rw [ew, q2]; decide)]) wn4 (fun h => by cases h)
  · exact kk.go W2 kpM4 kfM4 (by rw [if_pos q1, if_pos (ew.trans q2)]) wn4 (fun _ => by rw [q5]; rfl)
  · exact kk.go W2 kpM4 kfM4 (by rw [if_pos q1, if_pos (ew.trans q2)]) wn4 (fun _ => by rw [q5]; rfl)
  · exact kk.go W3 kpM4 kfM4 (by rw [if_neg (by rw [q1]; decide)]) wn4 (fun h => by cases h)
theorem m_tally {x : Int32} (W : WW ad w h) (hK : wa w 81 = V) (hV : VOK V) (kk : KQ ad P w 0 (.int (justV V x (wk V)))) : WP ga L xs (d + 2) 233 [.ref (ad 80), .int x] h P := by
  have hn := hV.n.2
  have hw := hV.w.2
  have e5 : wa w 81 5 = kI (wk V : Int) := by rw [hK]; exact hV.w.1
  have hS : ∀ j, wa w 81 (54 + j) = vS V j := fun j => by rw [hK]; rfl
  refine WP.enter kX7_tally (Nat.le_of_ble_eq_true rfl) (fun J hJ => ?_)
  refine hJ 0 _ _ rfl _ _ _ _ (x_aload rfl (x_sipush (w_puti W 7 4 (by decide) shp_80 rfl rfl (okI rfl) (fun h1 W1 => x_sipush (x_istore rfl (x_sipush (x_istore rfl (x_goto (?_)))))))))
  have loop : ∀ m, m ≤ wk V → J 1 [some (.ref (ad 80)), some (.int x), some (.int (justV V x m)), some (.int (kI (m : Int)))] [] h1 (0, 0) := up_ind (fun m hm ih => ?_)
  · exact loop 0 (Nat.zero_le _)
  have hs : m < wk V → sok (nm V) (wa (sn w 80 4 (kI 0)) 81 (54 + m)) := fun hm => by rw [wa_sn, hS]; exact hV.2.2 m hm
  have ej : justV V x (m + 1) = justV V x m + bI (decide (kI (pc (vS V m) : Int) = x)) := rfl
  refine hJ 1 _ _ rfl _ _ _ _ (x_iload rfl (x_aload rfl (w_getr W1 7 0 (t := 81) (by decide) shp_80 rfl rfl rfl (x_sipush (w_iald W1 5 (by decide) shp_81 rfl (by decide) (by decide) (x_br2 (fun q1 => have q1 := ge_y e5 (by omega) q1; hJ 4 _ _ rfl _ _ _ _ (x_iload rfl (x_iret (nrwI _) ?_))) (fun q1 => have q1 := ge_n e5 (by omega) q1; x_iload rfl (x_aload rfl (w_getr W1 7 0 (t := 81) (by decide) shp_80 rfl rfl rfl (x_sipush (x_iload rfl (x_iadd (w_iald W1 (54 + m) (by decide) shp_81 (came_ix _) (by omega) (by decide) (x_cs rfl (Nat.le_of_ble_eq_true rfl) (c7_size (hs q1) (xk_go (x_iload rfl (x_br2 (fun q2 => have q2 := cy_ne q2; hJ 2 _ _ rfl _ _ _ _ (x_sipush (x_goto (hJ 3 _ _ rfl _ _ _ _ (x_iadd (x_istore rfl (x_iinc rfl rfl (x_goto (?_))))))))) (fun q2 => have q2 := cn_ne q2; x_sipush (x_goto (hJ 3 _ _ rfl _ _ _ _ (x_iadd (x_istore rfl (x_iinc rfl rfl (x_goto (?_))))))))))))))))))))))))))
  · have e : m = wk V := by omega
    subst e
    exact kk.go W1 kpM4 kfM4 rfl wn4 (fun _ => rfl)
  · rw [wa_sn, hS] at q2
    refine J_c (ih q1) ?_
    simp only [sI, kN_succ, ej, decide_eq_false q2]
    rfl
  · rw [wa_sn, hS] at q2
    refine J_c (ih q1) ?_
    simp only [sI, kN_succ, ej, decide_eq_true q2]
    rfl
theorem c7_bothCame {x y : Int32} {m1 m2 : Nat} (W : WW ad w h) (hK : wa w 81 = V) (hV : VOK V) (hx : x = kI (m1 : Int)) (hy : y = kI (m2 : Int)) (h1 : m1 < 32) (h2 : m2 < 32) (hP : P (.inl (some (.int (bothV V m1 m2)))) h) : WP ga L xs (d + 2) 234 [.ref (ad 80), .int x, .int y] h P := by
  subst hx hy
  have hn := hV.n.2
  have hw := hV.w.2
  have e5 : wa w 81 5 = kI (wk V : Int) := by rw [hK]; exact hV.w.1
  have hS : ∀ j, wa w 81 (54 + j) = vS V j := fun j => by rw [hK]; rfl
  refine WP.enter kX7_bothCame (Nat.le_of_ble_eq_true rfl) (fun J hJ => ?_)
  have loop : ∀ m, m ≤ wk V → J 1 [some (.ref (ad 80)), some (.int (kI (m1 : Int))), some (.int (kI (m2 : Int))), some (.int (sm (fun j => bI (hb (vS V j) m1 && hb (vS V j) m2)) m)), some (.int (kI (m : Int)))] [] h (0, 0) := up_ind (fun m hm ih => ?_)
  · exact hJ 0 _ _ rfl _ _ _ _ (x_sipush (x_istore rfl (x_sipush (x_istore rfl (x_goto (loop 0 (Nat.zero_le _)))))))
  refine hJ 1 _ _ rfl _ _ _ _ (x_iload rfl (x_aload rfl (w_getr W 7 0 (t := 81) (by decide) shp_80 rfl rfl rfl (x_sipush (w_iald W 5 (by decide) shp_81 rfl (by decide) (by decide) (x_br2 (fun q1 => have q1 := ge_y e5 (by omega) q1; hJ 4 _ _ rfl _ _ _ _ (x_iload rfl (x_iret (nrwI _) ?_))) (fun q1 => have q1 := ge_n e5 (by omega) q1; x_iload rfl (x_aload rfl (w_getr W 7 0 (t := 81) (by decide) shp_80 rfl rfl rfl (x_sipush (x_iload rfl (x_iadd (w_iald W (54 + m) (by decide) shp_81 (came_ix _) (by omega) (by decide) (x_iload rfl (x_cs rfl (Nat.le_of_ble_eq_true rfl) (c7_has rfl (by omega) (xk_go (x_br (fun q2 => have q2 := bI_eq0.mp q2; hJ 2 _ _ rfl _ _ _ _ (x_sipush (x_goto (hJ 3 _ _ rfl _ _ _ _ (x_iadd (x_istore rfl (x_iinc rfl rfl (x_goto (?_))))))))) (fun q2 => have q2 := bI_ne0.mp q2; x_aload rfl (w_getr W 7 0 (t := 81) (by decide) shp_80 rfl rfl rfl (x_sipush (x_iload rfl (x_iadd (w_iald W (54 + m) (by decide) shp_81 (came_ix _) (by omega) (by decide) (x_iload rfl (x_cs rfl (Nat.le_of_ble_eq_true rfl) (c7_has rfl (by omega) (xk_go (x_br (fun q3 => have q3 := bI_eq0.mp q3; hJ 2 _ _ rfl _ _ _ _ (x_sipush (x_goto (hJ 3 _ _ rfl _ _ _ _ (x_iadd (x_istore rfl (x_iinc rfl rfl (x_goto (?_))))))))) (fun q3 => have q3 := bI_ne0.mp q3; x_sipush (x_goto (hJ 3 _ _ rfl _ _ _ _ (x_iadd (x_istore rfl (x_iinc rfl rfl (x_goto (?_)))))))))))))))))))))))))))))))))))))
  · have e : m = wk V := by omega
    subst e
    exact hP
  · rw [hS] at q2
    refine J_c (ih q1) ?_
    simp only [sI, sm, kN_succ, q2]
    rfl
  · rw [hS] at q2 q3
    refine J_c (ih q1) ?_
    simp only [sI, sm, kN_succ, q2, q3]
    rfl
  · rw [hS] at q2 q3
    refine J_c (ih q1) ?_
    simp only [sI, sm, kN_succ, q2, q3]
    rfl
theorem m_together {x y : Int32} (W : WW ad w h) (hK : wa w 81 = V) (hV : VOK V) (kk : KQ ad P w (togT V x y) (.int (bothV V (tN x) (tN y)))) : WP ga L xs (d + 3) 235 [.ref (ad 80), .int x, .int y] h P := by
  have hn := hV.n.2
  have hw := hV.w.2
  have e5 : wa w 81 5 = kI (wk V : Int) := by rw [hK]; exact hV.w.1
  have hS : ∀ j, wa w 81 (54 + j) = vS V j := fun j => by rw [hK]; rfl
  refine WP.enter kX7_together (Nat.le_of_ble_eq_true rfl) (fun J hJ => ?_)
  refine hJ 0 _ _ rfl _ _ _ _ (x_aload rfl (x_sipush (w_puti W 7 4 (by decide) shp_80 rfl rfl (okI rfl) (fun h1 W1 => x_aload rfl (x_iload rfl (x_cv rfl (Nat.le_of_ble_eq_true rfl) (isO_W W1 (by decide) shp_80) (c7_isMember W1 hK hV (xk_go (x_br (fun q1 => have q1 := bI_eq0.mp q1; hJ 1 _ _ rfl _ _ _ _ (x_aload rfl (x_sipush (x_cv rfl (Nat.le_of_ble_eq_true rfl) (isO_W W1 (by decide) shp_80) (c7_fails W1 (fun h2 W2 => xk_go (x_goto (hJ 2 _ _ rfl _ _ _ _ (x_iret (nrwI _) ?_))))))))) (fun q1 => have q1 := bI_ne0.mp q1; x_aload rfl (x_iload rfl (x_cv rfl (Nat.le_of_ble_eq_true rfl) (isO_W W1 (by decide) shp_80) (c7_isMember W1 hK hV (xk_go (x_br (fun q2 => have q2 := bI_eq0.mp q2; hJ 1 _ _ rfl _ _ _ _ (x_aload rfl (x_sipush (x_cv rfl (Nat.le_of_ble_eq_true rfl) (isO_W W1 (by decide) shp_80) (c7_fails W1 (fun h3 W3 => xk_go (x_goto (hJ 2 _ _ rfl _ _ _ _ (x_iret (nrwI _) ?_))))))))) (fun q2 => have q2 := bI_ne0.mp q2; x_aload rfl (x_iload rfl (x_iload rfl (x_cv rfl (Nat.le_of_ble_eq_true rfl) (isO_W W1 (by decide) shp_80) (c7_bothCame W1 hK hV (isMem_m q1).1 (isMem_m q2).1 (by have := (isMem_m q1).2; omega) (by have := (isMem_m q2).2; omega) (xk_go (x_goto (hJ 2 _ _ rfl _ _ _ _ (x_iret (nrwI _) ?_))))))))))))))))))))))))
  · exact kk.go W2 (kpM4.trans kpM4) (kfM4.trans kfM4) (if_neg (fun z => by rw [z.1] at q1; cases q1)) wn4 (fun h => by cases h)
  · exact kk.go W3 (kpM4.trans kpM4) (kfM4.trans kfM4) (if_neg (fun z => by rw [z.2] at q2; cases q2)) wn4 (fun h => by cases h)
  · exact kk.go W1 kpM4 kfM4 (if_pos ⟨q1, q2⟩) wn4 (fun _ => rfl)
theorem m_friends (W : WW ad w h) (hK : wa w 81 = V) (hV : VOK V) (kk : KQ ad P w 0 (.int (friendsV V))) : WP ga L xs (d + 3) 236 [.ref (ad 80)] h P := by
  have hn := hV.n.2
  have hw := hV.w.2
  have e5 : wa w 81 5 = kI (wk V : Int) := by rw [hK]; exact hV.w.1
  have hS : ∀ j, wa w 81 (54 + j) = vS V j := fun j => by rw [hK]; rfl
  refine WP.enter kX7_friends (Nat.le_of_ble_eq_true rfl) (fun J hJ => ?_)
  refine hJ 0 _ _ rfl _ _ _ _ (x_aload rfl (x_sipush (w_puti W 7 4 (by decide) shp_80 rfl rfl (okI rfl) (fun h1 W1 => x_sipush (x_istore rfl (x_sipush (x_istore rfl (x_sipush (x_istore rfl (x_goto (?_)))))))))))
  have inner : ∀ a, a < nm V → (∀ z, J 1 [some (.ref (ad 80)), some (.int (fo (frO V) (kI (-1), kI 0) (a + 1)).1), some (.int (fo (frO V) (kI (-1), kI 0) (a + 1)).2), some (.int (kI ((a + 1 : Nat) : Int))), z] [] h1 (0, 0)) → ∀ b, b ≤ nm V → a < b → J 2 [some (.ref (ad 80)), some (.int (fo (frS V a) (fo (frO V) (kI (-1), kI 0) a) b).1), some (.int (fo (frS V a) (fo (frO V) (kI (-1), kI 0) a) b).2), some (.int (kI (a : Int))), some (.int (kI (b : Int)))] [] h1 (0, 0) := fun a ha hJ2 => up_ind (fun b hb9 ih hab => ?_)
  · have loop : ∀ a, a ≤ nm V → ∀ z, J 1 [some (.ref (ad 80)), some (.int (fo (frO V) (kI (-1), kI 0) a).1), some (.int (fo (frO V) (kI (-1), kI 0) a).2), some (.int (kI (a : Int))), z] [] h1 (0, 0) := up_ind (fun a ha ih z => ?_)
    · exact loop 0 (Nat.zero_le _) _
    refine hJ 1 _ _ rfl _ _ _ _ (x_iload rfl (x_aload rfl (x_cv rfl (Nat.le_of_ble_eq_true rfl) (isO_W W1 (by decide) shp_80) (c7_many W1 hK hV (xk_go (x_br2 (fun q1 => have q1 := ge_y rfl (by omega) q1; hJ 6 _ _ rfl _ _ _ _ (x_iload rfl (x_iret (nrwI _) ?_))) (fun q1 => have q1 := ge_n rfl (by omega) q1; x_iload rfl (x_sipush (x_iadd (x_istore rfl (x_goto (?_))))))))))))
    · have e : a = nm V := by omega
      subst e
      exact kk.go W1 kpM4 kfM4 rfl wn4 (fun _ => rfl)
    · have h9 := inner a q1 (fun z => ih q1 z) (a + 1) q1 (by omega)
      rw [fr_skip _ (Nat.le_refl _)] at h9
      exact J_c h9 (by simp only [sI, kN_succ])
  have es : fo (frS V a) (fo (frO V) (kI (-1), kI 0) a) (b + 1) = frS V a b (fo (frS V a) (fo (frO V) (kI (-1), kI 0) a) b) := rfl
  refine hJ 2 _ _ rfl _ _ _ _ (x_iload rfl (x_aload rfl (x_cv rfl (Nat.le_of_ble_eq_true rfl) (isO_W W1 (by decide) shp_80) (c7_many W1 hK hV (xk_go (x_br2 (fun q1 => have q1 := ge_y rfl (by omega) q1; hJ 5 _ _ rfl _ _ _ _ (x_iinc rfl rfl (x_goto (?_)))) (fun q1 => have q1 := ge_n rfl (by omega) q1; x_aload rfl (x_iload rfl (x_iload rfl (x_cv rfl (Nat.le_of_ble_eq_true rfl) (isO_W W1 (by decide) shp_80) (c7_bothCame W1 hK hV rfl rfl (by omega) (by omega) (xk_go (x_iload rfl (x_br2 (fun q2 => have q2 := cy_gt q2; hJ 3 _ _ rfl _ _ _ _ (x_sipush (x_iload rfl (x_imul (x_iload rfl (x_iadd (x_istore rfl (x_aload rfl (x_iload rfl (x_iload rfl (x_cv rfl (Nat.le_of_ble_eq_true rfl) (isO_W W1 (by decide) shp_80) (c7_bothCame W1 hK hV rfl rfl (by omega) (by omega) (xk_go (x_istore rfl (x_goto (hJ 4 _ _ rfl _ _ _ _ (x_iinc rfl rfl (x_goto (?_))))))))))))))))))) (fun q2 => have q2 := cn_gt q2; x_goto (hJ 4 _ _ rfl _ _ _ _ (x_iinc rfl rfl (x_goto (?_)))))))))))))))))))
  · have e : b = nm V := by omega
    subst e
    exact J_c (hJ2 (some (.int (kI (nm V : Int))))) (by simp only [sI, kN_succ]; rfl)
  · have e : frS V a b (fo (frS V a) (fo (frO V) (kI (-1), kI 0) a) b) = (kI 100 * kI (a : Int) + kI (b : Int), bothV V a b) := if_pos ⟨hab, q2⟩
    refine J_c (ih q1 (by omega)) ?_
    rw [es, e]
    simp only [sI, kN_succ]
  · have e : frS V a b (fo (frS V a) (fo (frO V) (kI (-1), kI 0) a) b) = fo (frS V a) (fo (frO V) (kI (-1), kI 0) a) b := if_neg (fun z => absurd z.2 (Int32.not_lt.mpr q2))
    refine J_c (ih q1 (by omega)) ?_
    rw [es, e]
    simp only [sI, kN_succ]
theorem m_streak {x : Int32} (W : WW ad w h) (hK : wa w 81 = V) (hV : VOK V) (kk : KQ ad P w (whatT x) (.int (streakV V x))) : WP ga L xs (d + 3) 232 [.ref (ad 80), .int x] h P := by
  have hn := hV.n.2
  have hw := hV.w.2
  have e5 : wa w 81 5 = kI (wk V : Int) := by rw [hK]; exact hV.w.1
  have hS : ∀ j, wa w 81 (54 + j) = vS V j := fun j => by rw [hK]; rfl
  have w01 : inV x 0 1 = decide ((Int64.ofNat 0).toInt ≤ x.toInt64.toInt ∧ x.toInt64.toInt ≤ (Int64.ofNat 1).toInt) := (inV_l (a := 0) (b := 1) (by omega) (by omega)).symm
  refine WP.enter kX7_streak (Nat.le_of_ble_eq_true rfl) (fun J hJ => ?_)
  have loop : ∀ h1, WW ad (sn w 80 4 (kI 0)) h1 → inV x 0 1 = true → ∀ m, m ≤ wk V → J 4 [some (.ref (ad 80)), some (.int x), some (.int (stk V m).1), some (.int (stk V m).2.1), some (.int (stk V m).2.2), some (.int (kI (m : Int)))] [] h1 (0, 0) := fun h1 W1 hx => up_ind (fun m hm ih => ?_)
  · refine hJ 0 _ _ rfl _ _ _ _ (x_aload rfl (x_iload rfl (x_i2l (x_ldc2 (x_ldc2 (x_cs rfl (Nat.le_of_ble_eq_true rfl) (c7_within (xk_go (x_br (fun q1 => have q1 := bI_eq0.mp q1; hJ 1 _ _ rfl _ _ _ _ (x_sipush (x_goto (hJ 2 _ _ rfl _ _ _ _ (w_puti W 7 4 (by decide) shp_80 rfl rfl (okI rfl) (fun h1 W1 => x_aload rfl (w_geti W1 7 4 (by decide) shp_80 rfl rfl (x_br (fun q2 => absurd (show kI (1) ≤ 0 from q2) (by decide)) (fun q2 => x_sipush (x_iret (nrwI _) ?_)))))))))) (fun q1 => have q1 := bI_ne0.mp q1; x_sipush (x_goto (hJ 2 _ _ rfl _ _ _ _ (w_puti W 7 4 (by decide) shp_80 rfl rfl (okI rfl) (fun h2 W2 => x_aload rfl (w_geti W2 7 4 (by decide) shp_80 rfl rfl (x_br (fun q3 => hJ 3 _ _ rfl _ _ _ _ (x_sipush (x_istore rfl (x_sipush (x_istore rfl (x_sipush (x_istore rfl (x_sipush (x_istore rfl (x_goto (?_))))))))))) (fun q3 => absurd (show kI (0) ≤ 0 by decide) q3)))))))))))))))))
    · exact kk.go W1 kpM4 kfM4 (whatT1 (w01.trans q1)) wn4 (fun h => by cases h)
    · exact loop _ W2 (w01.trans q1) 0 (Nat.zero_le _)
  have hs : m < wk V → sok (nm V) (wa (sn w 80 4 (kI 0)) 81 (54 + m)) := fun hm => by rw [wa_sn, hS]; exact hV.2.2 m hm
  have es : stk V (m + 1) = stkF V m (stk V m) := rfl
  refine hJ 4 _ _ rfl _ _ _ _ (x_iload rfl (x_aload rfl (w_getr W1 7 0 (t := 81) (by decide) shp_80 rfl rfl rfl (x_sipush (w_iald W1 5 (by decide) shp_81 rfl (by decide) (by decide) (x_br2 (fun q1 => have q1 := ge_y e5 (by omega) q1; hJ 9 _ _ rfl _ _ _ _ (x_iload rfl (x_br (fun q2 => have q2 := cy_ne q2; hJ 10 _ _ rfl _ _ _ _ (x_iload rfl (x_goto (hJ 11 _ _ rfl _ _ _ _ (x_iret (nrwI _) ?_))))) (fun q2 => have q2 := cn_ne q2; x_iload rfl (x_goto (hJ 11 _ _ rfl _ _ _ _ (x_iret (nrwI _) ?_))))))) (fun q1 => have q1 := ge_n e5 (by omega) q1; x_aload rfl (x_aload rfl (w_getr W1 7 0 (t := 81) (by decide) shp_80 rfl rfl rfl (x_sipush (x_iload rfl (x_iadd (w_iald W1 (54 + m) (by decide) shp_81 (came_ix _) (by omega) (by decide) (x_cv rfl (Nat.le_of_ble_eq_true rfl) (isO_W W1 (by decide) shp_80) (c7_meets W1 hK (hs q1) (xk_go (x_br (fun q3 => have q3 := bI_eq0.mp q3; hJ 5 _ _ rfl _ _ _ _ (x_sipush (x_goto (hJ 6 _ _ rfl _ _ _ _ (x_istore rfl (x_iload rfl (x_iload rfl (x_br2 (fun q4 => have q4 := cy_gt q4; hJ 7 _ _ rfl _ _ _ _ (x_iload rfl (x_istore rfl (x_iload rfl (x_iload rfl (x_isub (x_sipush (x_iadd (x_istore rfl (x_goto (hJ 8 _ _ rfl _ _ _ _ (x_iinc rfl rfl (x_goto (?_)))))))))))))) (fun q4 => have q4 := cn_gt q4; x_goto (hJ 8 _ _ rfl _ _ _ _ (x_iinc rfl rfl (x_goto (?_))))))))))))) (fun q3 => have q3 := bI_ne0.mp q3; x_iload rfl (x_sipush (x_iadd (x_goto (hJ 6 _ _ rfl _ _ _ _ (x_istore rfl (x_iload rfl (x_iload rfl (x_br2 (fun q5 => have q5 := cy_gt q5; hJ 7 _ _ rfl _ _ _ _ (x_iload rfl (x_istore rfl (x_iload rfl (x_iload rfl (x_isub (x_sipush (x_iadd (x_istore rfl (x_goto (hJ 8 _ _ rfl _ _ _ _ (x_iinc rfl rfl (x_goto (?_)))))))))))))) (fun q5 => have q5 := cn_gt q5; x_goto (hJ 8 _ _ rfl _ _ _ _ (x_iinc rfl rfl (x_goto (?_)))))))))))))))))))))))))))))))
  · have e : m = wk V := by omega
    subst e
    exact kk.go W1 kpM4 kfM4 (whatT0 hx) wn4 (fun _ => by unfold streakV; rw [if_neg (show ¬ x = kI 0 from q2)])
  · have e : m = wk V := by omega
    subst e
    exact kk.go W1 kpM4 kfM4 (whatT0 hx) wn4 (fun _ => by unfold streakV; rw [if_pos (show x = kI 0 from q2)])
  · rw [wa_sn, hS] at q3
    have e : stkF V m (stk V m) = (kI 0, kI (m : Int) - (kI 0) + kI 1, kI 0) := by
      unfold stkF
      rw [if_neg (show ¬ meetsV V (vS V m) = true by rw [q3]; decide), if_pos (show (stk V m).1 < kI 0 from q4)]
    refine J_c (ih q1) ?_
    rw [es, e]
    simp only [sI, kN_succ]
  · rw [wa_sn, hS] at q3
    have e : stkF V m (stk V m) = ((stk V m).1, (stk V m).2.1, kI 0) := by
      unfold stkF
      rw [if_neg (show ¬ meetsV V (vS V m) = true by rw [q3]; decide), if_neg (show ¬ (stk V m).1 < kI 0 from Int32.not_lt.mpr q4)]
    refine J_c (ih q1) ?_
    rw [es, e]
    simp only [sI, kN_succ]
  · rw [wa_sn, hS] at q3
    have e : stkF V m (stk V m) = ((stk V m).2.2 + kI 1, kI (m : Int) - ((stk V m).2.2 + kI 1) + kI 1, (stk V m).2.2 + kI 1) := by
      unfold stkF
      rw [if_pos q3, if_pos (show (stk V m).1 < (stk V m).2.2 + kI 1 from q5)]
    refine J_c (ih q1) ?_
    rw [es, e]
    simp only [sI, kN_succ]
  · rw [wa_sn, hS] at q3
    have e : stkF V m (stk V m) = ((stk V m).1, (stk V m).2.1, (stk V m).2.2 + kI 1) := by
      unfold stkF
      rw [if_pos q3, if_neg (show ¬ (stk V m).1 < (stk V m).2.2 + kI 1 from Int32.not_lt.mpr q5)]
    refine J_c (ih q1) ?_
    rw [es, e]
    simp only [sI, kN_succ]
end M1
