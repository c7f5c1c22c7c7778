/-! ===== the model: who comes ===== -/
theorem ne0_n {n : Nat} {y : Int32} (e : y = kI (n : Int)) (hn : n ≤ 100000) (b : ¬ y = 0) : 1 ≤ n := by
  rw [e, kN_eq0 (by omega)] at b
  omega
theorem eq0_n {n : Nat} {y : Int32} (e : y = kI (n : Int)) (hn : n ≤ 100000) (b : y = 0) : n = 0 := by
  rw [e, kN_eq0 (by omega)] at b
  exact b
section M1
variable {p : PT} {fog : Bool}
variable {ga : Nat → Nat} {L : Nat} {xs : Nat → Int32} {d : Nat} {h : ac_H} {P : ac_P} {ad : Nat → Nat} {w : Wst} {V : VT}
theorem c7_last (W : WW ad w h) (hK : wa w 81 = V) (hV : VOK V) (hP : P (.inl (some (.int (lastV V)))) h) : WP ga L xs (d + 1) 171 [.ref (ad 80)] h P := by
  have hw := hV.w.2
  have e5 : wa w 81 5 = kI (wk V : Int) := by rw [hK]; exact hV.w.1
  unfold lastV at hP
  refine WP.enter kX7_last (Nat.le_of_ble_eq_true rfl) (fun J hJ => ?_)
  refine hJ 0 _ _ rfl _ _ _ _ (x_aload rfl (w_getr W 7 0 (t := 81) (by decide) shp_80 rfl rfl rfl (x_sipush (w_iald W 5 (by decide) shp_81 rfl (by decide) (by decide) (x_br (fun b1 => have b1 := ne0_n e5 (by omega) b1; hJ 1 _ _ rfl _ _ _ _ (x_aload rfl (w_getr W 7 0 (t := 81) (by decide) shp_80 rfl rfl rfl (x_sipush (x_aload rfl (w_getr W 7 0 (t := 81) (by decide) shp_80 rfl rfl rfl (x_sipush (w_iald W 5 (by decide) shp_81 rfl (by decide) (by decide) (x_iadd (x_sipush (x_isub (w_iald W ((54 + (wk V - 1))) (by decide) shp_81 (by rw [e5, came_ix, kI_sub]; congr 1; omega) (by omega) (by decide) (x_goto (hJ 2 _ _ rfl _ _ _ _ (x_iret (nrwI _) ?_))))))))))))))) (fun b1 => have b1 := eq0_n e5 (by omega) (cn_ne b1); x_sipush (x_goto (hJ 2 _ _ rfl _ _ _ _ (x_iret (nrwI _) ?_)))))))))
  · rw [if_pos (by omega)] at hP
    rw [hK]
    exact hP
  · rw [if_neg (by omega)] at hP
    exact hP
theorem c7_thoughts {s x : Int32} {t : Nat} (W : WW ad w h) (hK : wa w 81 = V) (hV : VOK V) (hs : sok (nm V) s) (hx : x = kI (t : Int)) (ht : t ≤ 1000) (hP : P (.inl (some (.int (thoughtsV V s t)))) h) : WP ga L xs (d + 2) 172 [.ref (ad 80), .int s, .int x] h P := by
  subst hx
  have hn := hV.n.2
  refine WP.enter kX7_thoughts (Nat.le_of_ble_eq_true rfl) (fun J hJ => ?_)
  have e8 : ∀ m, V (6 + 4 * m + 2) = vC V m := fun m => by unfold vC; congr 1; omega
  have inner : ∀ m, m ≤ t → m < t → (∀ z z2, J 1 [some (.ref (ad 80)), some (.int s), some (.int (kI (t : Int))), some (.int (thoughtsV V s (m + 1))), some (.int (kI ((m + 1 : Nat) : Int))), z, z2] [] h (0, 0)) → ∀ k, k ≤ nm V → J 2 [some (.ref (ad 80)), some (.int s), some (.int (kI (t : Int))), some (.int (thoughtsV V s m)), some (.int (kI (m : Int))), some (.int (mkS (thinkP V (thoughtsV V s m)) k)), some (.int (kI (k : Int)))] [] h (0, 0) := fun m hm hmt hJ1 => up_ind (fun k hk ih => ?_)
  · have loop : ∀ m, m ≤ t → ∀ z z2 : Option Value, J 1 [some (.ref (ad 80)), some (.int s), some (.int (kI (t : Int))), some (.int (thoughtsV V s m)), some (.int (kI (m : Int))), z, z2] [] h (0, 0) := up_ind (fun m hm ih z z2 => ?_)
    · exact hJ 0 _ _ rfl _ _ _ _ (x_iload rfl (x_istore rfl (x_sipush (x_istore rfl (x_goto (loop 0 (Nat.zero_le _) _ _))))))
    · refine hJ 1 _ _ rfl _ _ _ _ (x_iload rfl (x_iload rfl (x_br2 (fun b1 => have b1 := ge_y rfl (by omega) b1; hJ 6 _ _ rfl _ _ _ _ (x_iload rfl (x_iret (nrwI _) ?_))) (fun b1 => have b1 := ge_n rfl (by omega) b1; x_sipush (x_istore rfl (x_sipush (x_istore rfl (x_goto (?_)))))))))
      · have e : m = t := by omega
        subst e
        exact hP
      · exact inner m hm b1 (fun z z2 => ih b1 _ _) 0 (Nat.zero_le _)
  have hs9 := (hs.thoughts hV m)
  have hs8 : k < nm V → sok (nm V) (thoughtsV V s m &&& (b1 k ^^^ kI (-1))) := fun _ => hs9.andl
  have ek : thinkP V (thoughtsV V s m) k = (decide (kI (pc (thoughtsV V s m &&& (b1 k ^^^ kI (-1))) : Int) + kI 1 = V 1) && decide (vC V k < V 2)) := rfl
  have es : mkS (thinkP V (thoughtsV V s m)) (k + 1) = mkS (thinkP V (thoughtsV V s m)) k ||| (if thinkP V (thoughtsV V s m) k = true then b1 k else kI 0) := rfl
  refine hJ 2 _ _ rfl _ _ _ _ (x_iload rfl (x_aload rfl (x_cv rfl (Nat.le_of_ble_eq_true rfl) (isO_W W (by decide) shp_80) (c7_many W hK hV (xk_go (x_br2 (fun q1 => have q1 := ge_y rfl (by omega) q1; hJ 5 _ _ rfl _ _ _ _ (x_iload rfl (x_istore rfl (x_iinc rfl rfl (x_goto (?_)))))) (fun q1 => have q1 := ge_n rfl (by omega) q1; x_iload rfl (x_iload rfl (x_sipush (x_iload rfl (x_shl1 (by omega) (x_sipush (x_ixor (x_iand (x_cs rfl (Nat.le_of_ble_eq_true rfl) (c7_size (hs8 q1) (xk_go (x_sipush (x_iadd (x_aload rfl (w_getr W 7 0 (t := 81) (by decide) shp_80 rfl rfl rfl (x_sipush (w_iald W 1 (by decide) shp_81 rfl (by decide) (by decide) (x_br2 (fun q2 => have q2 := cy_ne q2; hJ 3 _ _ rfl _ _ _ _ (x_sipush (x_goto (hJ 4 _ _ rfl _ _ _ _ (x_ior (x_istore rfl (x_iinc rfl rfl (x_goto (?_))))))))) (fun q2 => have q2 := cn_ne q2; x_aload rfl (w_getr W 7 0 (t := 81) (by decide) shp_80 rfl rfl rfl (x_sipush (w_iald W 2 (by decide) shp_81 rfl (by decide) (by decide) (x_aload rfl (x_iload rfl (x_sipush (x_cv rfl (Nat.le_of_ble_eq_true rfl) (isO_W W (by decide) shp_80) (c7_of W hK rfl rfl (by omega) (by decide) (xk_go (x_br2 (fun q3 => have q3 := cy_le q3; hJ 3 _ _ rfl _ _ _ _ (x_sipush (x_goto (hJ 4 _ _ rfl _ _ _ _ (x_ior (x_istore rfl (x_iinc rfl rfl (x_goto (?_))))))))) (fun q3 => have q3 := cn_le q3; x_sipush (x_iload rfl (x_shl1 (by omega) (x_goto (hJ 4 _ _ rfl _ _ _ _ (x_ior (x_istore rfl (x_iinc rfl rfl (x_goto (?_)))))))))))))))))))))))))))))))))))))))))))))
  · refine J_c (hJ1 (some (.int (mkS (thinkP V (thoughtsV V s m)) k))) (some (.int (kI (k : Int))))) ?_
    have e : k = nm V := by omega
    subst e
    simp only [sI, kN_succ]
    rfl
  · rw [hK] at q2
    rw [decide_eq_false q2] at ek
    refine J_c (ih q1) ?_
    simp only [sI, kN_succ, es, ek]
    rfl
  · rw [hK] at q2 q3
    rw [e8] at q3
    rw [decide_eq_false (Int32.not_lt.mpr q3), Bool.and_false] at ek
    refine J_c (ih q1) ?_
    simp only [sI, kN_succ, es, ek]
    rfl
  · rw [hK] at q2 q3
    rw [e8] at q3
    rw [decide_eq_true q2, decide_eq_true q3] at ek
    refine J_c (ih q1) ?_
    simp only [sI, kN_succ, es, ek]
    rfl
theorem c7_draw (W : WW ad w h) (kk : ∀ h', WW ad (sn w 80 18 (dnx (wn w 80 18))) h' → P (.inl (some (.int (dvl (dnx (wn w 80 18)))))) h') : WP ga L xs (d + 1) 173 [.ref (ad 80), .int (kI 100)] h P := by
  refine WP.enter kX7_draw (Nat.le_of_ble_eq_true rfl) (fun J hJ => ?_)
  refine hJ 0 _ _ rfl _ _ _ _ (x_aload rfl (x_sipush (x_aload rfl (w_geti W 7 18 (by decide) shp_80 rfl rfl (x_imul (x_sipush (x_iadd (w_puti W 7 18 (by decide) shp_80 rfl rfl (okI rfl) (fun h1 W1 => x_aload rfl (w_geti W1 7 18 (by decide) shp_80 rfl rfl (x_sipush (x_iushr (x_iload rfl (x_irem (by decide) (x_iret (nrwI _) ?_)))))))))))))))
  have e : wn (sn w 80 18 (kI 1103515245 * wn w 80 18 + kI 12345)) 80 18 = kI 1103515245 * wn w 80 18 + kI 12345 := by rw [wn_sn, if_pos ⟨rfl, rfl⟩]
  rw [e]
  exact kk _ W1
theorem c7_seen {m : Nat} {x come : Int32} (W : WW ad w h) (hK : wa w 81 = V) (hV : VOK V) (hx : x = kI (m : Int)) (hm : m ≤ nm V) (kk : ∀ h', WW ad (sn w 80 18 (seenG V fog come (wn w 80 18) m).2) h' → P (.inl (some (.int (kI ((seenG V fog come (wn w 80 18) m).1 : Int))))) h') : WP ga L xs (d + 2) 174 [.ref (ad 80), .int x, .int come, .int (bI fog)] h P := by
  subst hx
  have hn := hV.n.2
  refine WP.enter kX7_seen (Nat.le_of_ble_eq_true rfl) (fun J hJ => ?_)
  have e9 : ∀ k, V (6 + 4 * k + 3) = vU V k := fun k => by unfold vU; congr 1; omega
  have eu : ∀ (x : Int32), wn (sn w 80 18 x) 80 18 = x := fun x => by rw [wn_sn, if_pos ⟨rfl, rfl⟩]
  have loop : ∀ k, k ≤ m → ∀ h' z, WW ad (sn w 80 18 (seenG V fog come (wn w 80 18) k).2) h' → J 1 [some (.ref (ad 80)), some (.int (kI (m : Int))), some (.int come), some (.int (bI fog)), some (.int (kI ((seenG V fog come (wn w 80 18) k).1 : Int))), some (.int (kI (k : Int))), z] [] h' (0, 0) := up_ind (fun k hk ih h0 z W0 => ?_)
  · refine hJ 0 _ _ rfl _ _ _ _ (x_sipush (x_istore rfl (x_sipush (x_istore rfl (x_goto (?_))))))
    exact loop 0 (Nat.zero_le _) h _ (by show WW ad (sn w 80 18 (wn w 80 18)) h; rw [sn_self]; exact W)
  have ek : seenG V fog come (wn w 80 18) (k + 1) = if (hb come k || decide (vU V k = 1)) = true then (if fog = true then ((if dvl (dnx (seenG V fog come (wn w 80 18) k).2) < V 3 then (seenG V fog come (wn w 80 18) k).1 else (seenG V fog come (wn w 80 18) k).1 + 1), dnx (seenG V fog come (wn w 80 18) k).2) else ((seenG V fog come (wn w 80 18) k).1 + 1, (seenG V fog come (wn w 80 18) k).2)) else seenG V fog come (wn w 80 18) k := rfl
  have hl := seenG_le (V := V) (fog := fog) (come := come) (x := wn w 80 18) k
  have hK0 : wa (sn w 80 18 (seenG V fog come (wn w 80 18) k).2) 81 = V := hK
  refine hJ 1 _ _ rfl _ _ _ _ (x_iload rfl (x_iload rfl (x_br2 (fun q1 => have q1 := ge_y rfl (by omega) q1; hJ 7 _ _ rfl _ _ _ _ (x_iload rfl (x_iret (nrwI _) ?_))) (fun q1 => have q1 := ge_n rfl (by omega) q1; x_iload rfl (x_iload rfl (x_cs rfl (Nat.le_of_ble_eq_true rfl) (c7_has rfl (by omega) (xk_go (x_br (fun q2 => have q2 := bI_ne0.mp q2; hJ 2 _ _ rfl _ _ _ _ (x_sipush (x_goto (hJ 4 _ _ rfl _ _ _ _ (x_istore rfl (x_iload rfl (x_br (fun q3 => absurd (cy_eq q3) (by decide)) (fun q3 => x_iload rfl (x_br (fun q4 => have q4 := bI_eq0.mp q4; hJ 5 _ _ rfl _ _ _ _ (x_iinc rfl rfl (x_goto (hJ 6 _ _ rfl _ _ _ _ (x_iinc rfl rfl (x_goto (?_))))))) (fun q4 => have q4 := bI_ne0.mp q4; x_aload rfl (x_sipush (x_cv rfl (Nat.le_of_ble_eq_true rfl) (isO_W W0 (by decide) shp_80) (c7_draw W0 (fun h1 W1 => xk_go (x_aload rfl (w_getr W1 7 0 (t := 81) (by decide) shp_80 rfl rfl rfl (x_sipush (w_iald W1 3 (by decide) shp_81 rfl (by decide) (by decide) (x_br2 (fun q5 => have q5 := cy_lt q5; hJ 6 _ _ rfl _ _ _ _ (x_iinc rfl rfl (x_goto (?_)))) (fun q5 => have q5 := cn_lt q5; x_goto (hJ 5 _ _ rfl _ _ _ _ (x_iinc rfl rfl (x_goto (hJ 6 _ _ rfl _ _ _ _ (x_iinc rfl rfl (x_goto (?_))))))))))))))))))))))))))) (fun q2 => have q2 := bI_nn q2; x_aload rfl (x_iload rfl (x_sipush (x_cv rfl (Nat.le_of_ble_eq_true rfl) (isO_W W0 (by decide) shp_80) (c7_of W0 hK0 rfl rfl (by omega) (by decide) (xk_go (x_sipush (x_br2 (fun q6 => have q6 := cy_ne q6; hJ 3 _ _ rfl _ _ _ _ (x_sipush (x_goto (hJ 4 _ _ rfl _ _ _ _ (x_istore rfl (x_iload rfl (x_br (fun q7 => hJ 6 _ _ rfl _ _ _ _ (x_iinc rfl rfl (x_goto (?_)))) (fun q7 => absurd rfl q7)))))))) (fun q6 => have q6 := cn_ne q6; x_goto (hJ 2 _ _ rfl _ _ _ _ (x_sipush (x_goto (hJ 4 _ _ rfl _ _ _ _ (x_istore rfl (x_iload rfl (x_br (fun q8 => absurd (cy_eq q8) (by decide)) (fun q8 => x_iload rfl (x_br (fun q9 => have q9 := bI_eq0.mp q9; hJ 5 _ _ rfl _ _ _ _ (x_iinc rfl rfl (x_goto (hJ 6 _ _ rfl _ _ _ _ (x_iinc rfl rfl (x_goto (?_))))))) (fun q9 => have q9 := bI_ne0.mp q9; x_aload rfl (x_sipush (x_cv rfl (Nat.le_of_ble_eq_true rfl) (isO_W W0 (by decide) shp_80) (c7_draw W0 (fun h2 W2 => xk_go (x_aload rfl (w_getr W2 7 0 (t := 81) (by decide) shp_80 rfl rfl rfl (x_sipush (w_iald W2 3 (by decide) shp_81 rfl (by decide) (by decide) (x_br2 (fun q10 => have q10 := cy_lt q10; hJ 6 _ _ rfl _ _ _ _ (x_iinc rfl rfl (x_goto (?_)))) (fun q10 => have q10 := cn_lt q10; x_goto (hJ 5 _ _ rfl _ _ _ _ (x_iinc rfl rfl (x_goto (hJ 6 _ _ rfl _ _ _ _ (x_iinc rfl rfl (x_goto (?_)))))))))))))))))))))))))))))))))))))))))))))
  · have e : k = m := by omega
    subst e
    exact kk h0 W0
  · have hc : (hb come k || decide (vU V k = 1)) = true := by rw [q2]; rfl
    rw [if_pos hc, if_neg (by rw [q4]; decide)] at ek
    refine J_c (ih q1 h0 (some (.int (kI 1))) (by rw [ek]; exact W0)) ?_
    rw [ek]
    simp only [sI, kN_succ]
  · have hc : (hb come k || decide (vU V k = 1)) = true := by rw [q2]; rfl
    rw [eu] at q5 W1
    rw [sn_sn] at W1
    have q5 : dvl (dnx (seenG V fog come (wn w 80 18) k).2) < wa w 81 3 := q5
    rw [hK] at q5
    rw [if_pos hc, if_pos q4, if_pos q5] at ek
    refine J_c (ih q1 h1 (some (.int (kI 1))) (by rw [ek]; exact W1)) ?_
    rw [ek]
    simp only [sI, kN_succ]
  · have hc : (hb come k || decide (vU V k = 1)) = true := by rw [q2]; rfl
    rw [eu] at q5 W1
    rw [sn_sn] at W1
    have q5 : wa w 81 3 ≤ dvl (dnx (seenG V fog come (wn w 80 18) k).2) := q5
    rw [hK] at q5
    rw [if_pos hc, if_pos q4, if_neg (Int32.not_lt.mpr q5)] at ek
    refine J_c (ih q1 h1 (some (.int (kI 1))) (by rw [ek]; exact W1)) ?_
    rw [ek]
    simp only [sI, kN_succ]
  · rw [e9, kI_one] at q6
    have hc : ¬ (hb come k || decide (vU V k = 1)) = true := by rw [q2, decide_eq_false q6]; decide
    rw [if_neg hc] at ek
    refine J_c (ih q1 h0 (some (.int (kI 0))) (by rw [ek]; exact W0)) ?_
    rw [ek]
    simp only [sI, kN_succ]
  · rw [e9, kI_one] at q6
    have hc : (hb come k || decide (vU V k = 1)) = true := by rw [q2, decide_eq_true q6]; rfl
    rw [if_pos hc, if_neg (by rw [q9]; decide)] at ek
    refine J_c (ih q1 h0 (some (.int (kI 1))) (by rw [ek]; exact W0)) ?_
    rw [ek]
    simp only [sI, kN_succ]
  · rw [e9, kI_one] at q6
    have hc : (hb come k || decide (vU V k = 1)) = true := by rw [q2, decide_eq_true q6]; rfl
    rw [eu] at q10 W2
    rw [sn_sn] at W2
    have q10 : dvl (dnx (seenG V fog come (wn w 80 18) k).2) < wa w 81 3 := q10
    rw [hK] at q10
    rw [if_pos hc, if_pos q9, if_pos q10] at ek
    refine J_c (ih q1 h2 (some (.int (kI 1))) (by rw [ek]; exact W2)) ?_
    rw [ek]
    simp only [sI, kN_succ]
  · rw [e9, kI_one] at q6
    have hc : (hb come k || decide (vU V k = 1)) = true := by rw [q2, decide_eq_true q6]; rfl
    rw [eu] at q10 W2
    rw [sn_sn] at W2
    have q10 : wa w 81 3 ≤ dvl (dnx (seenG V fog come (wn w 80 18) k).2) := q10
    rw [hK] at q10
    rw [if_pos hc, if_pos q9, if_neg (Int32.not_lt.mpr q10)] at ek
    refine J_c (ih q1 h2 (some (.int (kI 1))) (by rw [ek]; exact W2)) ?_
    rw [ek]
    simp only [sI, kN_succ]
end M1
