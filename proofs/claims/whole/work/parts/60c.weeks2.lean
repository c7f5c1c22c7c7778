/-! ===== quota, back, fault; the model's weeks ===== -/
def bkV (V : VT) (n : Nat) : VT := fun k => if k = 5 then kI ((wk V - n : Nat) : Int) else if 54 + (wk V - n) ≤ k ∧ k < 54 + wk V then kI 0 else V k
def backT (V : VT) (x : Int32) : Nat := if inV x 0 (wk V) = true then 0 else 1
theorem bkV_low {V : VT} {n k : Nat} (h : k < 54) (h5 : k ≠ 5) : bkV V n k = V k := by
  unfold bkV
  rw [if_neg h5, if_neg (by omega)]
theorem bkV_wk {V : VT} {n : Nat} (hw : wk V ≤ 60) : wk (bkV V n) = wk V - n := by
  show (bkV V n 5).toInt.toNat = _
  unfold bkV
  rw [if_pos rfl, kN_toInt (by omega)]
  rfl
theorem bkV_S {V : VT} {n j : Nat} (h : j < wk V - n) : vS (bkV V n) j = vS V j := by
  unfold vS bkV
  rw [if_neg (by omega), if_neg (by omega)]
theorem VOK.bk {V : VT} {n : Nat} (h : VOK V) : VOK (bkV V n) := by
  have hw := h.w.2
  refine h.wks (fun k h1 h2 => bkV_low h1 h2) ?_ (fun j hj => ?_)
  · unfold bkV
    rw [if_pos rfl]
    unfold btw
    rw [kN_toInt (by omega)]
    omega
  · rw [bkV_wk hw] at hj
    rw [bkV_S hj]
    exact h.2.2 j (by omega)
theorem bkV_0 {V : VT} (hV : VOK V) : bkV V 0 = V := by
  funext k
  unfold bkV
  by_cases h : k = 5
  · subst h
    rw [if_pos rfl]
    exact hV.w.1.symm
  · rw [if_neg h, if_neg (by omega)]
theorem bkV_step {V : VT} {n : Nat} (hw : wk V ≤ 60) (hn : n < wk V) : upd (upd (bkV V n) 5 (kI ((wk V - (n + 1) : Nat) : Int))) (54 + (wk V - (n + 1))) (kI 0) = bkV V (n + 1) := by
  funext k
  by_cases h5 : k = 5
  · subst h5
    rw [upd_ne (by omega), upd_self]
    unfold bkV
    rw [if_pos rfl]
  · by_cases hk : k = 54 + (wk V - (n + 1))
    · rw [hk, upd_self]
      unfold bkV
      rw [if_neg (by omega), if_pos (by omega)]
    · rw [upd_ne hk, upd_ne h5]
      unfold bkV
      rw [if_neg h5, if_neg h5]
      by_cases hc : 54 + (wk V - n) ≤ k ∧ k < 54 + wk V
      · rw [if_pos hc, if_pos (by omega)]
      · rw [if_neg hc, if_neg (by omega)]
section W1
variable {S : StT}
variable {ga : Nat → Nat} {L : Nat} {xs : Nat → Int32} {d : Nat} {h : ac_H} {P : ac_P} {ad : Nat → Nat} {w : Wst} {i : Nat} {V : VT}
theorem same_i {w : Wst} {i j a : Nat} {x : Int32} (ha : ¬ (i ≤ a ∧ a < i + 5)) : same w (sn w i j x) a := same_sn (by omega)
theorem x_quota {x : Int32} (W : WW ad w h) (hS : RCl w S) (hO : SOK S) (kk : KCm ad P w [0] (quotT x) (some (.int (S.1 1))) S (setQ S.1 (tN x), S.2)) : WP ga L xs (d + 4) 75 [.ref (ad 0), .int x] h P := by
  obtain ⟨i, hb, hR⟩ := hS.1
  have hC := hb.isC
  have hc := hb.2.1
  have hV := hO.1
  have hbi := hb.1
  have hw := hV.w.2
  unfold quotT at kk
  refine WP.enter kX6_quota (Nat.le_of_ble_eq_true rfl) (fun J hJ => ?_)
  refine hJ 0 _ _ rfl _ _ _ _ (x_iload rfl (x_sipush (x_sipush (x_csb rfl (Nat.le_of_ble_eq_true rfl) ⟨by decide, by decide⟩ (c_reqWithin rfl rfl (by omega) (fun t1 => ?_) (fun t1 => xk_v (x_aload rfl (w_getr W 6 0 (t := i) (by decide) shp_0 rfl rfl hc (w_geti W 0 1 hC.lt hC.sh rfl rfl (x_istore rfl (x_aload rfl (w_getr W 6 0 (t := i) (by decide) shp_0 rfl rfl hc (x_iload rfl (w_puti W 0 1 hC.lt hC.sh rfl rfl (okI rfl) (fun h1 W1 => x_iload rfl (x_iret (nrwI _) ?_))))))))))))))))
  · exact kk.no 0 (if_neg (by rw [t1]; decide)) W kcl_refl hS
  · rw [hR.1.2.1]
    have xn := xnV (a := 1) (b := 12) t1
    have e : sn w i 1 x = sn w i 1 (kI (tN x : Int)) := congrArg (sn w i 1) xn.1
    rw [e] at W1
    exact kk.yes (if_pos t1) W1 (kcl_cl hb (fun a ha => same_i ha)) (hS.club hb (fun a ha => same_i ha) (CR.setQ hC (by rw [upd_id]; exact hR)))
theorem x_back {x : Int32} (W : WW ad w h) (hS : RCl w S) (hO : SOK S) (kk : KCm ad P w [0] (backT S.1 x) (some (.int (kI ((wk S.1 - tN x : Nat) : Int)))) S (bkV S.1 (tN x), S.2)) : WP ga L xs (d + 4) 78 [.ref (ad 0), .int x] h P := by
  obtain ⟨i, hb, hR⟩ := hS.1
  have hC := hb.isC
  have hc := hb.2.1
  have hV := hO.1
  have hbi := hb.1
  have hw := hV.w.2
  unfold backT at kk
  refine WP.enter kX6_back (Nat.le_of_ble_eq_true rfl) (fun J hJ => ?_)
  refine hJ 0 _ _ rfl _ _ _ _ (x_iload rfl (x_sipush (x_aload rfl (w_getr W 6 0 (t := i) (by decide) shp_0 rfl rfl hc (w_geti W 0 6 hC.lt hC.sh rfl rfl (x_csb rfl (Nat.le_of_ble_eq_true rfl) ⟨by decide, by decide⟩ (c_reqWithin (a := 0) (b := (wk S.1 : Int)) rfl (hR.w hV) (by omega) (fun t1 => ?_) (fun t1 => xk_v (x_aload rfl (w_getr W 6 0 (t := i) (by decide) shp_0 rfl rfl hc (x_dupr (w_geti W 0 6 hC.lt hC.sh rfl rfl (x_iload rfl (x_isub (w_puti W 0 6 hC.lt hC.sh rfl rfl (okI rfl) (fun h1 W1 => x_aload rfl (w_getr W1 6 0 (t := i) (by decide) shp_0 rfl rfl hc (w_geti W1 0 6 hC.lt hC.sh rfl rfl (x_iret (nrwI _) ?_)))))))))))))))))))
  · exact kk.no 0 (if_neg (by rw [t1]; decide)) W kcl_refl hS
  · obtain ⟨x1, x2⟩ := in_m t1
    have e : wn w i 6 - x = kI ((wk S.1 - tN x : Nat) : Int) := by
      have h9 : kI (wk S.1 : Int) - kI (tN x : Int) = kI ((wk S.1 - tN x : Nat) : Int) := by
        rw [kI_sub]
        exact congrArg kI (by omega)
      rw [← x1] at h9
      rw [hR.w hV]
      exact h9
    rw [e] at W1 ⊢
    rw [wn_sn, if_pos ⟨rfl, rfl⟩]
    refine kk.yes (if_pos t1) W1 (kcl_cl hb (fun a ha => same_i ha)) (hS.club hb (fun a ha => same_i ha) (hR.wks (fun k h1 h2 => bkV_low h1 h2) (fun j hj => ?_) ?_ rfl rfl rfl hV.n.2 (fun j hj => ?_)))
    · rw [wn_sn, if_neg (fun z => hj z.2)]
    · rw [wn_sn, if_pos ⟨rfl, rfl⟩]
      unfold bkV
      rw [if_pos rfl]
    · rw [bkV_wk hw] at hj
      rw [bkV_S hj]
      exact hR.2.2.1 j (by omega)
theorem x_fault {x : Int32} (W : WW ad w h) (hS : RCl w S) (hO : SOK S) (kk : KCm ad P w [] 0 (some (.int (faultV S.2.2.2.2 x))) S S) : WP ga L xs (d + 1) 73 [.ref (ad 0), .int x] h P := by
  obtain ⟨i, hb, hR⟩ := hS.1
  have hC := hb.isC
  have hc := hb.2.1
  have hV := hO.1
  have hbi := hb.1
  have hw := hV.w.2
  obtain ⟨f0, f1⟩ := hS.2.2.2.2
  have z0 : (kI 0).toInt = 0 := rfl
  have z1 : (kI 1).toInt = 1 := rfl
  unfold faultV at kk
  refine WP.enter kX6_fault (Nat.le_of_ble_eq_true rfl) (fun J hJ => ?_)
  by_cases h0 : x = kI 0
  · have hsw : Op.lookupswitch.offset (#[(0, 1), (1, 2)] : Array (Int × Int)).toList 3 x.toInt = 1 := by rw [h0]; rfl
    refine hJ 0 _ _ rfl _ _ _ _ (x_iload rfl (x_lsw (b := 1) hsw (hJ 1 _ _ rfl _ _ _ _ (x_aload rfl (w_getr W 6 3 (t := 42) (by decide) shp_0 rfl rfl rfl (w_geti W 2 2 (by decide) shp_42 rfl rfl (x_iret (nrwI _) ?_)))))))
    rw [if_pos h0] at kk
    rw [f0]
    exact kk.yes rfl W kcl_refl hS
  by_cases h1 : x = kI 1
  · have hsw : Op.lookupswitch.offset (#[(0, 1), (1, 2)] : Array (Int × Int)).toList 3 x.toInt = 2 := by rw [h1]; rfl
    refine hJ 0 _ _ rfl _ _ _ _ (x_iload rfl (x_lsw (b := 2) hsw (hJ 2 _ _ rfl _ _ _ _ (x_aload rfl (w_getr W 6 3 (t := 42) (by decide) shp_0 rfl rfl rfl (w_geti W 2 3 (by decide) shp_42 rfl rfl (x_iret (nrwI _) ?_)))))))
    rw [if_neg h0, if_pos h1] at kk
    rw [f1]
    exact kk.yes rfl W kcl_refl hS
  · have g0 : ¬ 0 = x.toInt := fun z => h0 (Int32.toInt_inj.mp (z.symm.trans z0.symm))
    have g1 : ¬ 1 = x.toInt := fun z => h1 (Int32.toInt_inj.mp (z.symm.trans z1.symm))
    have hsw : Op.lookupswitch.offset (#[(0, 1), (1, 2)] : Array (Int × Int)).toList 3 x.toInt = 3 := by
      simp [Op.lookupswitch.offset, g0, g1]
    refine hJ 0 _ _ rfl _ _ _ _ (x_iload rfl (x_lsw (b := 3) hsw (hJ 3 _ _ rfl _ _ _ _ (x_sipush (x_iret (nrwI _) ?_)))))
    rw [if_neg h0, if_neg h1] at kk
    exact kk.yes rfl W kcl_refl hS
theorem m_fault {x : Int32} (W : WW ad w h) (hS : RMo w S) (hO : SOK S) (kk : KQm ad P w 0 (some (.int (faultV S.2.2.2.2 x))) S S) : WP ga L xs (d + 2) 158 [.ref (ad 80), .int x] h P := by
  obtain ⟨f0, f1⟩ := hS.2.2.2.2
  unfold faultV at kk
  refine WP.enter kX7_fault (Nat.le_of_ble_eq_true rfl) (fun J hJ => ?_)
  refine hJ 0 _ _ rfl _ _ _ _ (x_aload rfl (x_sipush (w_puti W 7 4 (by decide) shp_80 rfl rfl (okI rfl) (fun h1 W1 => x_iload rfl (x_br (fun q1 => have q1 := cy_ne q1; hJ 1 _ _ rfl _ _ _ _ (x_iload rfl (x_sipush (x_br2 (fun q2 => have q2 := cy_ne q2; hJ 2 _ _ rfl _ _ _ _ (x_sipush (x_goto (hJ 3 _ _ rfl _ _ _ _ (x_iret (nrwI _) ?_))))) (fun q2 => have q2 := cn_ne q2; x_aload rfl (w_geti W1 7 15 (by decide) shp_80 rfl rfl (x_goto (hJ 3 _ _ rfl _ _ _ _ (x_iret (nrwI _) ?_))))))))) (fun q1 => have q1 := cn_ne q1; x_aload rfl (w_geti W1 7 14 (by decide) shp_80 rfl rfl (x_goto (hJ 3 _ _ rfl _ _ _ _ (x_iret (nrwI _) ?_))))))))))
  · rw [if_neg (show ¬ x = kI 0 from q1), if_neg q2] at kk
    exact kk.yes rfl W1 kml4 hS.th wn4 rfl
  · rw [if_neg (show ¬ x = kI 0 from q1), if_pos q2] at kk
    exact kk.yes rfl W1 kml4 hS.th wn4 (congrArg (fun z => some (Value.int z)) f1)
  · rw [if_pos (show x = kI 0 from q1)] at kk
    exact kk.yes rfl W1 kml4 hS.th wn4 (congrArg (fun z => some (Value.int z)) f0)
theorem RMo.setV {w : Wst} {S : StT} {x : Int32} {f : Nat → Int32} (h : RMo w S) : RMo (sa (sn w 80 4 x) 81 f) (f, S.2) := h.club (fun j h4 _ _ => by
  show wn (sn w 80 4 x) 80 j = _
  rw [wn_sn, if_neg (fun z => h4 z.2)]) (fun a h1 h2 _ _ => (same_sn h1).trans (same_sa h2)) (wa_self _ _ _)
theorem kml481 {w : Wst} {x : Int32} {f : Nat → Int32} : kml w (sa (sn w 80 4 x) 81 f) := kml_of (l := [80, 81]) ((kp_sn (by simp)).trans (kp_sa (by simp))) (by simp)
theorem m_quota {x : Int32} (W : WW ad w h) (hS : RMo w S) (hO : SOK S) (kk : KQm ad P w (quotT x) (some (.int (S.1 1))) S (setQ S.1 (tN x), S.2)) : WP ga L xs (d + 3) 167 [.ref (ad 80), .int x] h P := by
  have hK := hS.1
  have hV := hO.1
  have hn := hV.n.2
  have hw := hV.w.2
  have e5 : wa w 81 5 = kI (wk S.1 : Int) := by rw [hK]; exact hV.w.1
  have wx : inV x 1 12 = decide ((Int64.ofNat 1).toInt ≤ x.toInt64.toInt ∧ x.toInt64.toInt ≤ (Int64.ofNat 12).toInt) := (inV_l (a := 1) (b := 12) (by omega) (by omega)).symm
  unfold quotT at kk
  refine WP.enter kX7_quota (Nat.le_of_ble_eq_true rfl) (fun J hJ => ?_)
  refine hJ 0 _ _ rfl _ _ _ _ (x_aload rfl (x_sipush (w_puti W 7 4 (by decide) shp_80 rfl rfl (okI rfl) (fun h1 W1 => x_iload rfl (x_i2l (x_ldc2 (x_ldc2 (x_cs rfl (Nat.le_of_ble_eq_true rfl) (c7_within (xk_go (x_br (fun q1 => have q1 := bI_ne0.mp q1; hJ 1 _ _ rfl _ _ _ _ (x_aload rfl (w_getr W1 7 0 (t := 81) (by decide) shp_80 rfl rfl rfl (x_sipush (w_iald W1 1 (by decide) shp_81 rfl (by decide) (by decide) (x_istore rfl (x_aload rfl (w_getr W1 7 0 (t := 81) (by decide) shp_80 rfl rfl rfl (x_sipush (x_iload rfl (w_iast W1 1 (by decide) shp_81 rfl (by decide) (by decide) (fun h2 W2 => x_iload rfl (x_iret (nrwI _) ?_))))))))))))) (fun q1 => have q1 := bI_nn q1; x_aload rfl (x_sipush (x_cv rfl (Nat.le_of_ble_eq_true rfl) (isO_W W1 (by decide) shp_80) (c7_fails W1 (fun h3 W3 => xk_go (x_iret (nrwI _) ?_)))))))))))))))))
  · have xn := xnV (a := 1) (b := 12) (wx.trans q1)
    have e : sa (sn w 80 4 (kI 0)) 81 (upd (wa (sn w 80 4 (kI 0)) 81) 1 x) = sa (sn w 80 4 (kI 0)) 81 (setQ S.1 (tN x)) := by
      show sa (sn w 80 4 (kI 0)) 81 (upd (wa w 81) 1 x) = _
      rw [hK]
      unfold setQ
      rw [← xn.1]
    rw [e] at W2
    exact kk.yes (if_pos (wx.trans q1)) W2 kml481 hS.setV (wn4 (w := w)) (by show some (Value.int (wa w 81 1)) = _; rw [hK])
  · exact kk.no (t := 0) (if_neg (by rw [wx, q1]; decide)) W3 (kml4.trans kml4) (hS.th).th wn4
theorem m_told {x : Int32} (W : WW ad w h) (hS : RMo w S) (hO : SOK S) (kk : KQm ad P w (toldT S.1 x) (some (.int (bI (meetsV S.1 x)))) S (wkV S.1 x, S.2)) : WP ga L xs (d + 4) 179 [.ref (ad 80), .int x] h P := by
  have hK := hS.1
  have hV := hO.1
  have hn := hV.n.2
  have hw := hV.w.2
  have e5 : wa w 81 5 = kI (wk S.1 : Int) := by rw [hK]; exact hV.w.1
  have hw60 : ¬ wa w 81 5 = kI 60 → wk S.1 < 60 := fun q => by
    rw [e5] at q
    have : ¬ wk S.1 = 60 := fun z => q (by rw [z]; rfl)
    omega
  unfold toldT at kk
  refine WP.enter kX7_told (Nat.le_of_ble_eq_true rfl) (fun J hJ => ?_)
  refine hJ 0 _ _ rfl _ _ _ _ (x_aload rfl (x_aload rfl (w_getr W 7 0 (t := 81) (by decide) shp_80 rfl rfl rfl (x_sipush (w_iald W 5 (by decide) shp_81 rfl (by decide) (by decide) (x_sipush (x_br2 (fun q1 => have q1 := cy_ne q1; hJ 1 _ _ rfl _ _ _ _ (x_aload rfl (x_iload rfl (x_cv rfl (Nat.le_of_ble_eq_true rfl) (isO_W W (by decide) shp_80) (c7_isSet W hK hV (xk_go (x_br (fun q2 => have q2 := bI_eq0.mp q2; hJ 2 _ _ rfl _ _ _ _ (x_sipush (x_goto (hJ 3 _ _ rfl _ _ _ _ (w_puti W 7 4 (by decide) shp_80 rfl rfl (okI rfl) (fun h1 W1 => x_aload rfl (w_geti W1 7 4 (by decide) shp_80 rfl rfl (x_br (fun q3 => absurd (show kI (2) ≤ 0 from q3) (by decide)) (fun q3 => x_sipush (x_iret (by first | exact nrwB _ | rfl | decide) ?_)))))))))) (fun q2 => have q2 := bI_ne0.mp q2; x_sipush (x_goto (hJ 3 _ _ rfl _ _ _ _ (w_puti W 7 4 (by decide) shp_80 rfl rfl (okI rfl) (fun h2 W2 => x_aload rfl (w_geti W2 7 4 (by decide) shp_80 rfl rfl (x_br (fun q4 => hJ 4 _ _ rfl _ _ _ _ (x_aload rfl (x_iload rfl (x_cv rfl (Nat.le_of_ble_eq_true rfl) (isO_W W2 (by decide) shp_80) (c7_goesBy W2 hK hV (hw60 q1) (fun h3 w3 W3 e0 => xk_v (x_aload rfl (x_iload rfl (x_cv rfl (Nat.le_of_ble_eq_true rfl) (isO_W W3 (by decide) shp_80) (c7_meets W3 (show wa _ 81 = wkV S.1 x from by rw [e0, wa_self]; rfl) (isSet_sok hV q2) (xk_go (x_iret (by first | exact nrwB _ | rfl | decide) ?_)))))))))))) (fun q4 => absurd (show kI (0) ≤ 0 by decide) q4))))))))))))))) (fun q1 => have q1 := cn_ne q1; x_sipush (x_goto (hJ 3 _ _ rfl _ _ _ _ (w_puti W 7 4 (by decide) shp_80 rfl rfl (okI rfl) (fun h4 W4 => x_aload rfl (w_geti W4 7 4 (by decide) shp_80 rfl rfl (x_br (fun q5 => absurd (show kI (1) ≤ 0 from q5) (by decide)) (fun q5 => x_sipush (x_iret (by first | exact nrwB _ | rfl | decide) ?_))))))))))))))))
  · exact kk.no (t := 1) (by rw [if_pos (hw60 q1), if_neg (by rw [q2]; decide)]) W1 kml4 hS.th wn4
  · subst e0
    rw [meets_wkV]
    exact kk.yes (by rw [if_pos (hw60 q1), if_pos q2]) W3 kml481 hS.setV (wn4 (w := w)) rfl
  · refine kk.no (t := 0) (if_neg ?_) W4 kml4 hS.th wn4
    rw [e5] at q1
    have := (kN_inj (a := wk S.1) (b := 60) (by omega) (by omega)).mp q1
    omega
theorem m_week {x : Int32} (W : WW ad w h) (hS : RMo w S) (hO : SOK S) (kk : KQm ad P w (roomT S.1) (some (.int (goesG S.1 (startP S.1) true x).1)) S (wkV S.1 (goesG S.1 (startP S.1) true x).1, S.2)) : WP ga L xs (d + 7) 178 [.ref (ad 80), .int x] h P := by
  have hK := hS.1
  have hV := hO.1
  have hn := hV.n.2
  have hw := hV.w.2
  have e5 : wa w 81 5 = kI (wk S.1 : Int) := by rw [hK]; exact hV.w.1
  have hw60 : wa w 81 5 < kI 60 → wk S.1 < 60 := fun q => by
    rw [e5] at q
    exact (kN_lt (b := 60) (by omega) (by omega)).mp q
  unfold roomT at kk
  refine WP.enter kX7_week (Nat.le_of_ble_eq_true rfl) (fun J hJ => ?_)
  refine hJ 0 _ _ rfl _ _ _ _ (x_aload rfl (x_aload rfl (w_getr W 7 0 (t := 81) (by decide) shp_80 rfl rfl rfl (x_sipush (w_iald W 5 (by decide) shp_81 rfl (by decide) (by decide) (x_sipush (x_br2 (fun q1 => have q1 := cy_ge q1; hJ 1 _ _ rfl _ _ _ _ (x_sipush (x_goto (hJ 2 _ _ rfl _ _ _ _ (w_puti W 7 4 (by decide) shp_80 rfl rfl (okI rfl) (fun h1 W1 => x_aload rfl (w_geti W1 7 4 (by decide) shp_80 rfl rfl (x_br (fun q2 => absurd (show kI (1) ≤ 0 from q2) (by decide)) (fun q2 => x_sipush (x_iret (nrwI _) ?_)))))))))) (fun q1 => have q1 := cn_ge q1; x_sipush (x_goto (hJ 2 _ _ rfl _ _ _ _ (w_puti W 7 4 (by decide) shp_80 rfl rfl (okI rfl) (fun h2 W2 => x_aload rfl (w_geti W2 7 4 (by decide) shp_80 rfl rfl (x_br (fun q3 => hJ 3 _ _ rfl _ _ _ _ (x_aload rfl (x_iload rfl (w_puti W2 7 18 (by decide) shp_80 rfl rfl (okI rfl) (fun h3 W3 => x_aload rfl (x_cv rfl (Nat.le_of_ble_eq_true rfl) (isO_W W3 (by decide) shp_80) (c7_lays W3 hK hV (fun h4 w4 W4 e1 f1 c1 => xk_v (x_aload rfl (x_aload rfl (x_cv rfl (Nat.le_of_ble_eq_true rfl) (isO_W W4 (by decide) shp_80) (c7_last W4 ((e1 81 (by simp)).2.2.1.trans hK) hV (xk_go (x_aload rfl (w_getr W4 7 0 (t := 81) (by decide) shp_80 rfl rfl rfl (x_sipush (w_iald W4 5 (by decide) shp_81 rfl (by decide) (by decide) (x_sipush (x_cv rfl (Nat.le_of_ble_eq_true rfl) (isO_W W4 (by decide) shp_80) (c7_goes (p := startP S.1) (fog := true) W4 ((e1 81 (by simp)).2.2.1.trans hK) hV c1 (POK.start hV) rfl (by rw [(e1 81 (by simp)).2.2.1]; exact e5) (fun h5 W5 => xk_go (x_istore rfl (x_aload rfl (x_iload rfl (x_cv rfl (Nat.le_of_ble_eq_true rfl) (isO_W W5 (by decide) shp_80) (c7_goesBy W5 ((e1 81 (by simp)).2.2.1.trans hK) hV (hw60 q1) (fun h6 w6 W6 e0 => xk_v (x_iload rfl (x_iret (nrwI _) ?_))))))))))))))))))))))))))))) (fun q3 => absurd (show kI (0) ≤ 0 by decide) q3)))))))))))))))
  · refine kk.no (t := 0) (if_neg ?_) W1 kml4 hS.th wn4
    rw [e5] at q1
    have := (kN_le (a := 60) (by omega) (by omega)).mp q1
    omega
  · have h18 : wn w4 80 18 = x := (f1 18 (by simp)).trans (by rw [wn_sn, if_pos ⟨rfl, rfl⟩])
    rw [h18] at e0 ⊢
    subst e0
    have hnj : ∀ j, j ≠ 4 → j ≠ 17 → j ≠ 18 → wn w4 80 j = wn w 80 j := fun j h4 h17 h9 => by
      rw [f1 j (by simpa using h17), wn_sn, if_neg (fun z => h9 z.2), wn_sn, if_neg (fun z => h4 z.2)]
    have hsa : ∀ a, a ≠ 80 → a ≠ 86 → same w w4 a := fun a h80 h86 => ((same_sn h80).trans (same_sn h80)).trans (e1 a (by simp; omega))
    refine kk.yes (if_pos (hw60 q1)) W6 (fun a ha => ((hsa a (by omega) (by omega)).trans (same_sn (by omega))).trans (same_sa (by omega))) (hS.club (fun j h4 h17 h9 => ?_) (fun a h80 h81 h82 h86 => ((hsa a h80 h86).trans (same_sn h80)).trans (same_sa h81)) (wa_self _ _ _)) ?_ rfl
    · rw [wn_sa, wn_sn, if_neg (fun z => h9 z.2)]
      exact hnj j h4 h17 h9
    · rw [wn_sa, wn_sn, if_neg (fun z => by cases z.2), f1 4 (by simp), wn_sn, if_neg (fun z => by cases z.2)]
      exact wn4
theorem m_back {x : Int32} (W : WW ad w h) (hS : RMo w S) (hO : SOK S) (kk : KQm ad P w (backT S.1 x) (some (.int (kI ((wk S.1 - tN x : Nat) : Int)))) S (bkV S.1 (tN x), S.2)) : WP ga L xs (d + 3) 180 [.ref (ad 80), .int x] h P := by
  have hK := hS.1
  have hV := hO.1
  have hn := hV.n.2
  have hw := hV.w.2
  have e5 : wa w 81 5 = kI (wk S.1 : Int) := by rw [hK]; exact hV.w.1
  have wx : inV x 0 (wk S.1) = decide ((Int64.ofNat 0).toInt ≤ x.toInt64.toInt ∧ x.toInt64.toInt ≤ (wa w 81 5).toInt64.toInt) := by
    rw [e5, inV_l' (a := 0) (by omega), kN_toInt (by omega)]
    rfl
  unfold backT at kk
  refine WP.enter kX7_back (Nat.le_of_ble_eq_true rfl) (fun J hJ => ?_)
  have loop : inV x 0 (wk S.1) = true → ∀ m, m ≤ tN x → ∀ h' w', WW ad w' h' → (∀ a, a ≠ 80 → a ≠ 81 → same w w' a) → (∀ j, j ≠ 4 → wn w' 80 j = wn w 80 j) → wn w' 80 4 = kI 0 → wa w' 81 = bkV S.1 m → J 2 [some (.ref (ad 80)), some (.int x), some (.int (kI (m : Int)))] [] h' (0, 0) := fun hx => up_ind (fun m hm ih h0 w0 W0 hs hn9 n0 hK0 => ?_)
  · refine hJ 0 _ _ rfl _ _ _ _ (x_aload rfl (x_sipush (w_puti W 7 4 (by decide) shp_80 rfl rfl (okI rfl) (fun h1 W1 => x_iload rfl (x_i2l (x_ldc2 (x_aload rfl (w_getr W1 7 0 (t := 81) (by decide) shp_80 rfl rfl rfl (x_sipush (w_iald W1 5 (by decide) shp_81 rfl (by decide) (by decide) (x_i2l (x_cs rfl (Nat.le_of_ble_eq_true rfl) (c7_within (xk_go (x_br (fun q1 => have q1 := bI_ne0.mp q1; hJ 1 _ _ rfl _ _ _ _ (x_sipush (x_istore rfl (x_goto (?_))))) (fun q1 => have q1 := bI_nn q1; x_aload rfl (x_sipush (x_cv rfl (Nat.le_of_ble_eq_true rfl) (isO_W W1 (by decide) shp_80) (c7_fails W1 (fun h2 W2 => xk_go (x_iret (nrwI _) ?_)))))))))))))))))))))
    · exact loop (wx.trans q1) 0 (Nat.zero_le _) _ _ W1 (fun a h80 _ => same_sn h80) (fun j h4 => by rw [wn_sn, if_neg (fun z => h4 z.2)]) wn4 (hK.trans (bkV_0 hV).symm)
    · exact kk.no (t := 0) (if_neg (fun z => by have := (wx.symm.trans z).symm.trans q1; cases this)) W2 (kml4.trans kml4) (hS.th).th wn4
  obtain ⟨x1, x2⟩ := in_m hx
  have v5 : wa w0 81 5 = kI ((wk S.1 - m : Nat) : Int) := by
    rw [hK0]
    unfold bkV
    rw [if_pos rfl]
  have v5m : m < tN x → wa w0 81 5 - kI 1 = kI ((wk S.1 - (m + 1) : Nat) : Int) := fun q => by
    rw [v5, kI_sub]
    exact congrArg kI (by omega)
  have hix : m < tN x → kI 54 + wa (sa w0 81 (upd (wa w0 81) 5 (wa w0 81 5 - kI 1))) 81 5 = kI ((54 + (wk S.1 - (m + 1)) : Nat) : Int) := fun q => by
    rw [wa_self, upd_self, v5m q, came_ix]
  refine hJ 2 _ _ rfl _ _ _ _ (x_iload rfl (x_iload rfl (x_br2 (fun q1 => have q1 := ge_y x1 (by omega) q1; hJ 3 _ _ rfl _ _ _ _ (x_aload rfl (w_getr W0 7 0 (t := 81) (by decide) shp_80 rfl rfl rfl (x_sipush (w_iald W0 5 (by decide) shp_81 rfl (by decide) (by decide) (x_iret (nrwI _) ?_)))))) (fun q1 => have q1 := ge_n x1 (by omega) q1; x_aload rfl (w_getr W0 7 0 (t := 81) (by decide) shp_80 rfl rfl rfl (x_sipush (x_dup2 (w_iald W0 5 (by decide) shp_81 rfl (by decide) (by decide) (x_sipush (x_isub (w_iast W0 5 (by decide) shp_81 rfl (by decide) (by decide) (fun h1 W1 => x_aload rfl (w_getr W1 7 0 (t := 81) (by decide) shp_80 rfl rfl rfl (x_sipush (x_aload rfl (w_getr W1 7 0 (t := 81) (by decide) shp_80 rfl rfl rfl (x_sipush (w_iald W1 5 (by decide) shp_81 rfl (by decide) (by decide) (x_iadd (x_sipush (w_iast W1 ((54 + (wk S.1 - (m + 1)))) (by decide) shp_81 (hix q1) (by omega) (by decide) (fun h2 W2 => x_iinc rfl rfl (x_goto (?_))))))))))))))))))))))))
  · have e : m = tN x := by omega
    subst e
    refine kk.yes (if_pos hx) W0 (fun a ha => hs a (by omega) (by omega)) (hS.club (fun j h4 _ _ => hn9 j h4) (fun a h80 h81 _ _ => hs a h80 h81) hK0) n0 (by rw [v5])
  · have hnew : sa (sa w0 81 (upd (wa w0 81) 5 (wa w0 81 5 - kI 1))) 81 (upd (wa (sa w0 81 (upd (wa w0 81) 5 (wa w0 81 5 - kI 1))) 81) (54 + (wk S.1 - (m + 1))) (kI 0)) = sa w0 81 (bkV S.1 (m + 1)) := by
      rw [wa_self, sa_sa, v5m q1, hK0, bkV_step hw (by omega)]
    rw [hnew] at W2
    exact J_c (ih q1 h2 _ W2 (fun a h80 h81 => (hs a h80 h81).trans (same_sa h81)) hn9 n0 (wa_self _ _ _)) (by simp only [sI, kN_succ])
end W1
