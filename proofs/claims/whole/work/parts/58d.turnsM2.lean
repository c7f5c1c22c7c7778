/-! ===== turns by a tray: the model ===== -/
section W1
variable {T : TT}
variable {ga : Nat → Nat} {L : Nat} {xs : Nat → Int32} {d : Nat} {h : ac_H} {P : ac_P} {ad : Nat → Nat} {w : Wst} {V : VT}
theorem m_turnsBy {x y : Int32} (W : WW ad w h) (hK : wa w 81 = V) (hV : VOK V) (hT : TmR w T) (hTO : TOK T) (kk : KQ ad P w (tuT T V x y) (.int (tuV T V x y))) : WP ga L xs (d + 9) 202 [.ref (ad 80), .int x, .int y] h P := by
  have hn := hV.n.2
  have hn4 := hV.n.1
  have lle := laid_le T x
  have wy : inV y 0 1 = decide ((Int64.ofNat 0).toInt ≤ y.toInt64.toInt ∧ y.toInt64.toInt ≤ (Int64.ofNat 1).toInt) := (inV_l (a := 0) (b := 1) (by omega) (by omega)).symm
  have z64 : (Int64.ofNat 0).toInt = 0 := rfl
  have em1 : (kI (nm V : Int) - kI 1).toInt64.toInt = (nm V : Int) - 1 := by
    rw [kI_sub, toInt64_toInt, kI_toInt (by omega) (by omega)]
  refine WP.enter kX7_turnsBy (Nat.le_of_ble_eq_true rfl) (fun J hJ => ?_)
  have fin8 : laidT T x = 0 → inV y 0 1 = true → ordOK T V (tN x) → ∀ h0 w0 s z, WW ad w0 h0 → kp SM w w0 → kf FM w w0 → wn w0 80 4 = kI 0 → (∀ j, j < nm V → wa w0 87 j = kI (oT T (tN x) j : Int)) → J 8 [some (.ref (ad 80)), some (.int x), some (.int y), some (.int (bI true)), some (.int s), z, none] [] h0 (0, 0) := by
    intro hl hy hord h0 w0 s z W0 k0 f0 n0 hE
    have hK0 : wa w0 81 = V := (k0 81 (by decide)).2.2.1.trans hK
    have hoo : ∀ p, p < nm V → wa w0 87 p = kI (oT T (tN x) p : Int) ∧ oT T (tN x) p < nm V := fun p hp => ⟨hE p hp, (ordB_is hn (hord.2 p hp)).2.2⟩
    have hdd : ∀ p, p < nm V → ∀ p', p' < p → ¬ oT T (tN x) p' = oT T (tN x) p := fun p hp p' hp' e => by
      have h1 := hord.2 p hp
      unfold ordB at h1
      rw [Bool.and_eq_true] at h1
      have h2 := tkn_has (o := oT T (tN x)) (N := nm V) (fun p hp => by have := (hoo p hp).2; omega) p (by omega) p' hp'
      rw [e] at h2
      rw [h2] at h1
      cases h1.2
    have hT9 : tuT T V x y = 0 := by
      unfold tuT
      rw [if_pos hl, if_pos ⟨hy, decide_eq_true hord⟩]
    unfold tuV at kk
    refine hJ 8 _ _ rfl _ _ _ _ (x_aload rfl (x_cv rfl (Nat.le_of_ble_eq_true rfl) (isO_W W0 (by decide) shp_80) (c7_byTurns (o := oT T (tN x)) W0 hK0 hV hoo hdd (fun h1 w1 W1 e1 => xk_go (x_istore rfl (x_iload rfl (x_br (fun q1 => have q1 := cy_ne q1; hJ 9 _ _ rfl _ _ _ _ (x_sipush (x_istore rfl (x_goto (?_))))) (fun q1 => have q1 := cn_ne q1; x_iload rfl (x_iret (nrwI _) ?_)))))))))
    · have hK1 : wa w1 81 = V := (e1 81 (by decide)).2.2.1.trans hK0
      have hoo1 : ∀ p, p < nm V → wa w1 87 p = kI (oT T (tN x) p : Int) ∧ oT T (tN x) p < nm V := fun p hp => by
        rw [(e1 87 (by decide)).2.2.1]
        exact hoo p hp
      have k01 := k0.trans (e1.mono l88)
      have f01 := f0.trans (kf_of (l := FM) e1 (by decide))
      have n01 : wn w1 80 4 = kI 0 := by rw [(e1 80 (by decide)).1]; exact n0
      rw [if_neg (show ¬ y = kI 0 from q1)] at kk
      unfold fstV at kk
      have loop10 : ∀ m, m ≤ nm V → (∀ j, j < m → hb (turV V (oT T (tN x))) (oT T (tN x) j) = false) → J 10 [some (.ref (ad 80)), some (.int x), some (.int y), some (.int (bI true)), some (.int s), some (.int (turV V (oT T (tN x)))), some (.int (kI (m : Int)))] [] h1 (0, 0) := up_ind (fun m hm ih hno => ?_)
      · exact J_c (loop10 0 (Nat.zero_le _) (fun j hj => by omega)) rfl
      refine hJ 10 _ _ rfl _ _ _ _ (x_iload rfl (x_aload rfl (x_cv rfl (Nat.le_of_ble_eq_true rfl) (isO_W W1 (by decide) shp_80) (c7_many W1 hK1 hV (xk_go (x_br2 (fun r1 => have r1 := ge_y rfl (by omega) r1; hJ 12 _ _ rfl _ _ _ _ (x_sipush (x_iret (nrwI _) ?_))) (fun r1 => have r1 := ge_n rfl (by omega) r1; x_iload rfl (x_aload rfl (w_getr W1 7 19 (t := 87) (by decide) shp_80 rfl rfl rfl (x_iload rfl (w_iald W1 m (by decide) shp_87 rfl (by omega) (by decide) (x_cs rfl (Nat.le_of_ble_eq_true rfl) (c7_has (hoo1 m r1).1 (by have := (hoo1 m r1).2; omega) (xk_go (x_br (fun r2 => have r2 := bI_eq0.mp r2; hJ 11 _ _ rfl _ _ _ _ (x_iinc rfl rfl (x_goto (?_)))) (fun r2 => have r2 := bI_ne0.mp r2; x_aload rfl (w_getr W1 7 19 (t := 87) (by decide) shp_80 rfl rfl rfl (x_iload rfl (w_iald W1 m (by decide) shp_87 rfl (by omega) (by decide) (x_iret (nrwI _) ?_))))))))))))))))))))
      · have e : fstG (fun p => hb (turV V (oT T (tN x))) (oT T (tN x) p)) (nm V) = nm V := fst_all (fun j hj => hno j (by omega))
        rw [e, if_neg (by omega)] at kk
        exact kk.go W1 k01 f01 hT9 n01 (fun _ => rfl)
      · refine J_c (ih r1 (fun j hj => ?_)) (by simp only [sI, kN_succ])
        by_cases ej : j = m
        · rw [ej]; exact r2
        · exact hno j (by omega)
      · have e : fstG (fun p => hb (turV V (oT T (tN x))) (oT T (tN x) p)) (nm V) = m := fst_is (p := fun p => hb (turV V (oT T (tN x))) (oT T (tN x) p)) r2 hno r1
        rw [e, if_pos r1] at kk
        exact kk.go W1 k01 f01 hT9 n01 (fun _ => by rw [(hoo1 m r1).1])
    · rw [if_pos (show y = kI 0 from q1)] at kk
      exact kk.go W1 (k0.trans (e1.mono l88)) (f0.trans (kf_of e1 (by decide))) hT9 (by rw [(e1 80 (by decide)).1]; exact n0) (fun _ => rfl)
  have loop4 : laidT T x = 0 → ∀ m, m ≤ nm V → ∀ h' w' g s, WW ad w' h' → kp SM w w' → kf FM w w' → wn w' 80 4 = kI 0 → (g = true → s = tkn (oT T (tN x)) m ∧ inV y 0 1 = true ∧ T.2.1 (tN x) = V 4 ∧ (∀ j, j < m → ordB T V (tN x) j = true) ∧ (∀ j, j < m → wa w' 87 j = kI (oT T (tN x) j : Int))) → (g = false → tuT T V x y = 3) → J 4 [some (.ref (ad 80)), some (.int x), some (.int y), some (.int (bI g)), some (.int s), some (.int (kI (m : Int))), none] [] h' (0, 0) := by
    intro hl
    have hx := l0 hl
    have hx4 := tr_4 hx
    refine up_ind (fun m hm ih h0 w0 g s W0 k0 f0 n0 hg hno => ?_)
    have hT0 := hT.kp k0 (by decide)
    have hK0 : wa w0 81 = V := (k0 81 (by decide)).2.2.1.trans hK
    have hval : m < nm V → wl w0 95 (60 * tN x + m) = T.2.2 (60 * tN x + m) := fun h9 => hT0.2 _ (by omega)
    have hin : m < nm V → (decide ((Int64.ofNat 0).toInt ≤ (wl w0 95 (60 * tN x + m)).toInt ∧ (wl w0 95 (60 * tN x + m)).toInt ≤ (kI (nm V : Int) - kI 1).toInt64.toInt) = true ↔ 0 ≤ (T.2.2 (60 * tN x + m)).toInt ∧ (T.2.2 (60 * tN x + m)).toInt < nm V) := fun h9 => by
      rw [hval h9, em1, z64, decide_eq_true_eq]
      omega
    have hv : m < nm V → decide ((Int64.ofNat 0).toInt ≤ (wl w0 95 (60 * tN x + m)).toInt ∧ (wl w0 95 (60 * tN x + m)).toInt ≤ (kI (nm V : Int) - kI 1).toInt64.toInt) = true → (wl w0 95 (60 * tN x + m)).toInt32 = kI (oT T (tN x) m : Int) ∧ oT T (tN x) m < nm V := fun h9 q => by
      have q2 := (hin h9).mp q
      rw [hval h9]
      exact (ord_is hn q2.1 q2.2).2
    have hbad : m < nm V → ordB T V (tN x) m = false → tuT T V x y = 3 := fun h9 q => by
      unfold tuT
      rw [if_pos hl]
      refine if_neg (fun z => ?_)
      have z2 : ordOK T V (tN x) := of_decide_eq_true z.2
      have := z2.2 m h9
      rw [q] at this
      cases this
    refine hJ 4 _ _ rfl _ _ _ _ (x_iload rfl (x_aload rfl (x_cv rfl (Nat.le_of_ble_eq_true rfl) (isO_W W0 (by decide) shp_80) (c7_many W0 hK0 hV (xk_go (x_br2 (fun q1 => have q1 := ge_y rfl (by omega) q1; hJ 7 _ _ rfl _ _ _ _ (x_iload rfl (x_br (fun q2 => have q2 := bI_ne0.mp q2; ?_) (fun q2 => have q2 := bI_nn q2; x_aload rfl (x_sipush (x_cv rfl (Nat.le_of_ble_eq_true rfl) (isO_W W0 (by decide) shp_80) (c7_fails W0 (fun h1 W1 => xk_go (x_iret (nrwI _) ?_))))))))) (fun q1 => have q1 := ge_n rfl (by omega) q1; x_iload rfl (x_br (fun q3 => have q3 := bI_eq0.mp q3; hJ 7 _ _ rfl _ _ _ _ (x_iload rfl (x_br (fun q4 => have q4 := bI_ne0.mp q4; ?_) (fun q4 => have q4 := bI_nn q4; x_aload rfl (x_sipush (x_cv rfl (Nat.le_of_ble_eq_true rfl) (isO_W W0 (by decide) shp_80) (c7_fails W0 (fun h2 W2 => xk_go (x_iret (nrwI _) ?_))))))))) (fun q3 => have q3 := bI_ne0.mp q3; x_aload rfl (w_getr W0 7 27 (t := 95) (by decide) shp_80 rfl rfl rfl (x_sipush (x_iload rfl (x_imul (x_iload rfl (x_iadd (w_lald W0 (60 * tN x + m) (by decide) shp_95 (tr_ix hx m) (by omega) (by decide) (x_ldc2 (x_aload rfl (x_cv rfl (Nat.le_of_ble_eq_true rfl) (isO_W W0 (by decide) shp_80) (c7_many W0 hK0 hV (xk_go (x_sipush (x_isub (x_i2l (x_cs rfl (Nat.le_of_ble_eq_true rfl) (c7_within (xk_go (x_br (fun q5 => have q5 := bI_eq0.mp q5; hJ 5 _ _ rfl _ _ _ _ (x_sipush (x_goto (hJ 6 _ _ rfl _ _ _ _ (x_istore rfl (x_aload rfl (w_getr W0 7 19 (t := 87) (by decide) shp_80 rfl rfl rfl (x_iload rfl (x_aload rfl (w_getr W0 7 27 (t := 95) (by decide) shp_80 rfl rfl rfl (x_sipush (x_iload rfl (x_imul (x_iload rfl (x_iadd (w_lald W0 (60 * tN x + m) (by decide) shp_95 (tr_ix hx m) (by omega) (by decide) (x_l2i (w_iast W0 m (by decide) shp_87 rfl (by omega) (by decide) (fun h3 W3 => x_iload rfl (x_sipush (x_aload rfl (w_getr W3 7 19 (t := 87) (by decide) shp_80 rfl rfl rfl (x_iload rfl (w_iald W3 m (by decide) shp_87 rfl (by omega) (by decide) (x_ishl (x_ior (x_istore rfl (x_iinc rfl rfl (x_goto (?_)))))))))))))))))))))))))))))) (fun q5 => have q5 := bI_ne0.mp q5; x_iload rfl (x_aload rfl (w_getr W0 7 27 (t := 95) (by decide) shp_80 rfl rfl rfl (x_sipush (x_iload rfl (x_imul (x_iload rfl (x_iadd (w_lald W0 (60 * tN x + m) (by decide) shp_95 (tr_ix hx m) (by omega) (by decide) (x_l2i (x_cs rfl (Nat.le_of_ble_eq_true rfl) (c7_has (hv q1 q5).1 (by have := (hv q1 q5).2; omega) (xk_go (x_br (fun q6 => have q6 := bI_ne0.mp q6; hJ 5 _ _ rfl _ _ _ _ (x_sipush (x_goto (hJ 6 _ _ rfl _ _ _ _ (x_istore rfl (x_aload rfl (w_getr W0 7 19 (t := 87) (by decide) shp_80 rfl rfl rfl (x_iload rfl (x_aload rfl (w_getr W0 7 27 (t := 95) (by decide) shp_80 rfl rfl rfl (x_sipush (x_iload rfl (x_imul (x_iload rfl (x_iadd (w_lald W0 (60 * tN x + m) (by decide) shp_95 (tr_ix hx m) (by omega) (by decide) (x_l2i (w_iast W0 m (by decide) shp_87 rfl (by omega) (by decide) (fun h4 W4 => x_iload rfl (x_sipush (x_aload rfl (w_getr W4 7 19 (t := 87) (by decide) shp_80 rfl rfl rfl (x_iload rfl (w_iald W4 m (by decide) shp_87 rfl (by omega) (by decide) (x_ishl (x_ior (x_istore rfl (x_iinc rfl rfl (x_goto (?_)))))))))))))))))))))))))))))) (fun q6 => have q6 := bI_nn q6; x_sipush (x_goto (hJ 6 _ _ rfl _ _ _ _ (x_istore rfl (x_aload rfl (w_getr W0 7 19 (t := 87) (by decide) shp_80 rfl rfl rfl (x_iload rfl (x_aload rfl (w_getr W0 7 27 (t := 95) (by decide) shp_80 rfl rfl rfl (x_sipush (x_iload rfl (x_imul (x_iload rfl (x_iadd (w_lald W0 (60 * tN x + m) (by decide) shp_95 (tr_ix hx m) (by omega) (by decide) (x_l2i (w_iast W0 m (by decide) shp_87 rfl (by omega) (by decide) (fun h5 W5 => x_iload rfl (x_sipush (x_aload rfl (w_getr W5 7 19 (t := 87) (by decide) shp_80 rfl rfl rfl (x_iload rfl (w_iald W5 m (by decide) shp_87 rfl (by omega) (by decide) (x_ishl (x_ior (x_istore rfl (x_iinc rfl rfl (x_goto (?_)))))))))))))))))))))))))))))))))))))))))))))))))))))))))))))))))))))))
    · have hh := hg q2
      have e : m = nm V := by omega
      subst e
      rw [q2]
      exact fin8 hl hh.2.1 ⟨hh.2.2.1, hh.2.2.2.1⟩ _ _ _ _ W0 k0 f0 n0 hh.2.2.2.2
    · exact kk.go W1 (k0.trans kpM4) (f0.trans kfM4) (hno q2) wn4 (fun h => by cases h)
    · exact absurd (q3.symm.trans q4) (by decide)
    · exact kk.go W2 (k0.trans kpM4) (f0.trans kfM4) (hno q4) wn4 (fun h => by cases h)
    · have hb : ordB T V (tN x) m = false := by
        unfold ordB
        rw [decide_eq_false (fun z => by have := (hin q1).mpr z; rw [q5] at this; cases this), Bool.false_and]
      exact J_c (ih q1 h3 _ false (s ||| kI 1 <<< (wa (sa w0 87 (upd (wa w0 87) m (wl w0 95 (60 * tN x + m)).toInt32)) 87 m &&& 31)) W3 (k0.trans (kp_sa (by decide))) (f0.trans kf_sa) n0 (fun z => by cases z) (fun _ => hbad q1 hb)) (by simp only [sI, kN_succ] <;> rfl)
    · have hb : ordB T V (tN x) m = false := by
        unfold ordB
        rw [(hg q3).1] at q6
        rw [q6, Bool.not_true, Bool.and_false]
      exact J_c (ih q1 h4 _ false (s ||| kI 1 <<< (wa (sa w0 87 (upd (wa w0 87) m (wl w0 95 (60 * tN x + m)).toInt32)) 87 m &&& 31)) W4 (k0.trans (kp_sa (by decide))) (f0.trans kf_sa) n0 (fun z => by cases z) (fun _ => hbad q1 hb)) (by simp only [sI, kN_succ] <;> rfl)
    · have hh := hg q3
      have hv2 := hv q1 q5
      have hb : ordB T V (tN x) m = true := by
        unfold ordB
        rw [hh.1] at q6
        rw [q6, decide_eq_true ((hin q1).mp q5)]
        rfl
      have esd : (s ||| kI 1 <<< (wa (sa w0 87 (upd (wa w0 87) m (wl w0 95 (60 * tN x + m)).toInt32)) 87 m &&& 31)) = tkn (oT T (tN x)) (m + 1) := by
        rw [wa_self, upd_self, hv2.1, shl1 _ (by omega), hh.1]
        rfl
      refine J_c (ih q1 h5 _ true (s ||| kI 1 <<< (wa (sa w0 87 (upd (wa w0 87) m (wl w0 95 (60 * tN x + m)).toInt32)) 87 m &&& 31)) W5 (k0.trans (kp_sa (by decide))) (f0.trans kf_sa) n0 (fun _ => ⟨esd, hh.2.1, hh.2.2.1, fun j hj => ?_, fun j hj => ?_⟩) (fun z => by cases z)) (by simp only [sI, kN_succ] <;> rfl)
      · by_cases ej : j = m
        · rw [ej]; exact hb
        · exact hh.2.2.2.1 j (by omega)
      · rw [wa_self]
        by_cases ej : j = m
        · rw [ej, upd_self]
          exact hv2.1
        · rw [upd_ne ej]
          exact hh.2.2.2.2 j (by omega)
  refine hJ 0 _ _ rfl _ _ _ _ (x_aload rfl (x_aload rfl (x_iload rfl (x_cv rfl (Nat.le_of_ble_eq_true rfl) (isO_W W (by decide) shp_80) (c7_trayFault W hT (xk_go (w_puti W 7 4 (by decide) shp_80 rfl rfl (okI rfl) (fun h1 W1 => x_aload rfl (w_geti W1 7 4 (by decide) shp_80 rfl rfl (x_br (fun q1 => have q1 := k_le0 rfl (by have := laid_le T x; omega) (show kI (laidT T x : Int) ≤ 0 from cy_le q1); hJ 1 _ _ rfl _ _ _ _ (x_aload rfl (w_getr W1 7 26 (t := 94) (by decide) shp_80 rfl rfl rfl (x_iload rfl (w_iald W1 (tN x) (by decide) shp_94 (in_m (b := 3) (l0 q1)).1 (tr_4 (l0 q1)) (by decide) (x_aload rfl (x_cv rfl (Nat.le_of_ble_eq_true rfl) (isO_W W1 (by decide) shp_80) (c7_many W1 hK hV (xk_go (x_br2 (fun q2 => have q2 := cy_ne q2; hJ 2 _ _ rfl _ _ _ _ (x_sipush (x_goto (hJ 3 _ _ rfl _ _ _ _ (x_istore rfl (x_sipush (x_istore rfl (x_sipush (x_istore rfl (x_goto (?_))))))))))) (fun q2 => have q2 := cn_ne q2; x_iload rfl (x_i2l (x_ldc2 (x_ldc2 (x_cs rfl (Nat.le_of_ble_eq_true rfl) (c7_within (xk_go (x_br (fun q3 => have q3 := bI_eq0.mp q3; hJ 2 _ _ rfl _ _ _ _ (x_sipush (x_goto (hJ 3 _ _ rfl _ _ _ _ (x_istore rfl (x_sipush (x_istore rfl (x_sipush (x_istore rfl (x_goto (?_))))))))))) (fun q3 => have q3 := bI_ne0.mp q3; x_sipush (x_goto (hJ 3 _ _ rfl _ _ _ _ (x_istore rfl (x_sipush (x_istore rfl (x_sipush (x_istore rfl (x_goto (?_)))))))))))))))))))))))))))) (fun q1 => have q1 := k_gt0 rfl (by have := laid_le T x; omega) (show ¬ kI (laidT T x : Int) ≤ 0 from Int32.not_le.mpr (cn_le q1)); x_sipush (x_iret (nrwI _) ?_))))))))))))
  · refine J_c (loop4 q1 0 (Nat.zero_le _) _ _ false (kI 0) W1 kpM4 kfM4 (wn4.trans (by rw [q1]; rfl)) (fun z => by cases z) (fun _ => ?_)) rfl
    unfold tuT
    rw [if_pos q1]
    refine if_neg (fun z => q2 ?_)
    have z2 : ordOK T V (tN x) := of_decide_eq_true z.2
    exact ((hT.1 _ (tr_4 (l0 q1))).2.trans z2.1).trans hn4
  · refine J_c (loop4 q1 0 (Nat.zero_le _) _ _ false (kI 0) W1 kpM4 kfM4 (wn4.trans (by rw [q1]; rfl)) (fun z => by cases z) (fun _ => ?_)) rfl
    unfold tuT
    rw [if_pos q1]
    exact if_neg (fun z => by rw [wy, q3] at z; cases z.1)
  · exact J_c (loop4 q1 0 (Nat.zero_le _) _ _ true (kI 0) W1 kpM4 kfM4 (wn4.trans (by rw [q1]; rfl)) (fun _ => ⟨rfl, wy.trans q3, ((hT.1 _ (tr_4 (l0 q1))).2.symm.trans q2).trans hn4.symm, fun j hj => by omega, fun j hj => by omega⟩) (fun z => by cases z)) rfl
  · have hc : tuT T V x y = laidT T x := if_neg (by omega)
    exact kk.go W1 kpM4 kfM4 hc wn4 (fun h => by omega)
end W1
