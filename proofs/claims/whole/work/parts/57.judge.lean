/-! ===== judging weeks told ===== -/
def judgeT (T : TT) (x y : Int32) : Nat := if laidT T x = 0 then (if inV y 0 1 = true then 0 else 3) else laidT T x
def jP (T : TT) (V : VT) (t k : Nat) : Bool := decide (¬ T.2.2 (60 * t + k) = (nextP V (runP V (startP V) k)).toInt64)
def judgeV (T : TT) (V : VT) (x y : Int32) : Int32 := if fstG (jP T V (tN x)) (trM T (tN x)) < trM T (tN x) then (if y = kI 0 then kI (fstG (jP T V (tN x)) (trM T (tN x)) : Int) else nextP V (runP V (startP V) (fstG (jP T V (tN x)) (trM T (tN x))))) else kI (-1)
section W1
variable {T : TT}
variable {ga : Nat → Nat} {L : Nat} {xs : Nat → Int32} {d : Nat} {h : ac_H} {P : ac_P} {ad : Nat → Nat} {w : Wst} {i : Nat} {V : VT}
theorem m_judge {x y : Int32} (W : WW ad w h) (hK : wa w 81 = V) (hV : VOK V) (hT : TmR w T) (hTO : TOK T) (kk : KQ ad P w (judgeT T x y) (.int (judgeV T V x y))) : WP ga L xs (d + 9) 189 [.ref (ad 80), .int x, .int y] h P := by
  have hn := hV.n.2
  have hw := hV.w.2
  have hp0 := POK.start hV
  have lle := laid_le T x
  have wy : inV y 0 1 = decide ((Int64.ofNat 0).toInt ≤ y.toInt64.toInt ∧ y.toInt64.toInt ≤ (Int64.ofNat 1).toInt) := (inV_l (a := 0) (b := 1) (by omega) (by omega)).symm
  unfold judgeT at kk
  refine WP.enter kX7_judge (Nat.le_of_ble_eq_true rfl) (fun J hJ => ?_)
  have loop : laidT T x = 0 → inV y 0 1 = true → ∀ m, m ≤ trM T (tN x) → ∀ h' w' z, WW ad w' h' → kp SM w w' → kf FM w w' → wn w' 80 4 = kI 0 → PR w' (runP V (startP V) m) → (∀ j, j < m → jP T V (tN x) j = false) → J 3 [some (.ref (ad 80)), some (.int x), some (.int y), some (.int (kI (m : Int))), z] [] h' (0, 0) := by
    intro hl hy
    have hx := l0 hl
    have hx4 := tr_4 hx
    have x1 := (in_m (b := 3) hx).1
    obtain ⟨hm1, hm2⟩ := hTO.m hx4
    have hT9 : (if laidT T x = 0 then (if inV y 0 1 = true then 0 else 3) else laidT T x) = 0 := by rw [if_pos hl, if_pos hy]
    refine up_ind (fun m hm ih h0 w0 z W0 k0 f0 n0 hr0 hno => ?_)
    have hT0 := hT.kp k0 (by decide)
    have hK0 : wa w0 81 = V := (k0 81 (by decide)).2.2.1.trans hK
    have em : wa w0 94 (tN x) = kI (trM T (tN x) : Int) := (hT0.1 _ hx4).2.trans hm1
    have hpm := hp0.run hn m (by have : (startP V).2 = wk V := rfl; omega)
    have hlen : (runP V (startP V) m).2 = wk V + m := runP_len (V := V) (p := startP V) m
    have hval : m < trM T (tN x) → ∀ w1, kp [80, 86] w0 w1 → wl w1 95 (60 * tN x + m) = T.2.2 (60 * tN x + m) := fun h9 w1 e1 => by
      rw [(e1 95 (by simp)).2.2.2]
      exact hT0.2 _ (by omega)
    refine hJ 3 _ _ rfl _ _ _ _ (x_iload rfl (x_aload rfl (w_getr W0 7 26 (t := 94) (by decide) shp_80 rfl rfl rfl (x_iload rfl (w_iald W0 (tN x) (by decide) shp_94 x1 (by omega) (by decide) (x_br2 (fun q1 => have q1 := ge_y em (by omega) q1; hJ 7 _ _ rfl _ _ _ _ (x_sipush (x_iret (nrwI _) ?_))) (fun q1 => have q1 := ge_n em (by omega) q1; x_aload rfl (x_cv rfl (Nat.le_of_ble_eq_true rfl) (isO_W W0 (by decide) shp_80) (c7_goesOn W0 hK0 hV hr0 hpm (by omega) (fun h1 w1 W1 e1 f1 c1 => xk_go (x_istore rfl (x_aload rfl (w_getr W1 7 27 (t := 95) (by decide) shp_80 rfl rfl rfl (x_sipush (x_iload rfl (x_imul (x_iload rfl (x_iadd (w_lald W1 (60 * tN x + m) (by decide) shp_95 (tr_ix hx m) (by omega) (by decide) (x_iload rfl (x_i2l (x_lcmp (x_br (fun q2 => have q2 := cy_eq q2; hJ 6 _ _ rfl _ _ _ _ (x_iinc rfl rfl (x_goto (?_)))) (fun q2 => have q2 := cn_eq q2; x_iload rfl (x_br (fun q3 => have q3 := cy_ne q3; hJ 4 _ _ rfl _ _ _ _ (x_iload rfl (x_goto (hJ 5 _ _ rfl _ _ _ _ (x_iret (nrwI _) ?_))))) (fun q3 => have q3 := cn_ne q3; x_iload rfl (x_goto (hJ 5 _ _ rfl _ _ _ _ (x_iret (nrwI _) ?_)))))))))))))))))))))))))))))
    · have hl2 : fstG (jP T V (tN x)) (trM T (tN x)) = trM T (tN x) := fst_all (fun j hj => hno j (by omega))
      refine kk.go W0 k0 f0 hT9 n0 (fun _ => ?_)
      unfold judgeV
      rw [hl2, if_neg (by omega)]
    · rw [hval q1 w1 e1] at q2
      have q2 := lg_eq.mp q2
      refine J_c (ih q1 h1 _ (some (.int (nextP V (runP V (startP V) m)))) W1 (k0.trans (e1.mono l1786)) (f0.trans (f1.mono f17)) ((f1 4 (by simp)).trans n0) c1 ?_) (by simp only [sI, kN_succ])
      intro j hj
      by_cases ej : j = m
      · rw [ej]
        exact decide_eq_false (fun z => z q2)
      · exact hno j (by omega)
    · rw [hval q1 w1 e1] at q2
      have q2 : ¬ T.2.2 (60 * tN x + m) = (nextP V (runP V (startP V) m)).toInt64 := fun z => q2 (lg_eq.mpr z)
      have hl2 : fstG (jP T V (tN x)) (trM T (tN x)) = m := fst_is (decide_eq_true q2) hno q1
      have hv : judgeV T V x y = if y = kI 0 then kI (m : Int) else nextP V (runP V (startP V) m) := by
        unfold judgeV
        rw [hl2, if_pos q1]
      refine kk.go W1 (k0.trans (e1.mono l1786)) (f0.trans (f1.mono f17)) hT9 ((f1 4 (by simp)).trans n0) (fun _ => ?_)
      rw [hv, if_neg (show ¬ y = kI 0 from q3)]
    · rw [hval q1 w1 e1] at q2
      have q2 : ¬ T.2.2 (60 * tN x + m) = (nextP V (runP V (startP V) m)).toInt64 := fun z => q2 (lg_eq.mpr z)
      have hl2 : fstG (jP T V (tN x)) (trM T (tN x)) = m := fst_is (decide_eq_true q2) hno q1
      have hv : judgeV T V x y = if y = kI 0 then kI (m : Int) else nextP V (runP V (startP V) m) := by
        unfold judgeV
        rw [hl2, if_pos q1]
      refine kk.go W1 (k0.trans (e1.mono l1786)) (f0.trans (f1.mono f17)) hT9 ((f1 4 (by simp)).trans n0) (fun _ => ?_)
      rw [hv, if_pos (show y = kI 0 from q3)]
  have hb0 : kI (laidT T x : Int) = 0 → laidT T x = 0 := fun z => (kN_eq0 (by omega)).mp z
  refine hJ 0 _ _ rfl _ _ _ _ (x_aload rfl (x_aload rfl (x_iload rfl (x_cv rfl (Nat.le_of_ble_eq_true rfl) (isO_W W (by decide) shp_80) (c7_trayFault W hT (xk_go (w_puti W 7 4 (by decide) shp_80 rfl rfl (okI rfl) (fun h1 W1 => x_aload rfl (w_geti W1 7 4 (by decide) shp_80 rfl rfl (x_br (fun q1 => have q1 := cy_ne q1; hJ 1 _ _ rfl _ _ _ _ (x_aload rfl (w_geti W1 7 4 (by decide) shp_80 rfl rfl (x_br (fun q2 => have q2 := cy_le q2; hJ 2 _ _ rfl _ _ _ _ (x_aload rfl (x_cv rfl (Nat.le_of_ble_eq_true rfl) (isO_W W1 (by decide) shp_80) (c7_lays W1 hK hV (fun h2 w2 W2 e0 f0 c0 => xk_v (x_sipush (x_istore rfl (x_goto (?_))))))))) (fun q2 => have q2 := cn_le q2; x_sipush (x_iret (nrwI _) ?_)))))) (fun q1 => have q1 := cn_ne q1; x_iload rfl (x_i2l (x_ldc2 (x_ldc2 (x_cs rfl (Nat.le_of_ble_eq_true rfl) (c7_within (xk_go (x_br (fun q3 => have q3 := bI_ne0.mp q3; hJ 1 _ _ rfl _ _ _ _ (x_aload rfl (w_geti W1 7 4 (by decide) shp_80 rfl rfl (x_br (fun q4 => have q4 := cy_le q4; hJ 2 _ _ rfl _ _ _ _ (x_aload rfl (x_cv rfl (Nat.le_of_ble_eq_true rfl) (isO_W W1 (by decide) shp_80) (c7_lays W1 hK hV (fun h3 w3 W3 e0 f0 c0 => xk_v (x_sipush (x_istore rfl (x_goto (?_))))))))) (fun q4 => have q4 := cn_le q4; x_sipush (x_iret (nrwI _) ?_)))))) (fun q3 => have q3 := bI_nn q3; x_aload rfl (x_sipush (w_puti W1 7 4 (by decide) shp_80 rfl rfl (okI rfl) (fun h4 W4 => x_goto (hJ 1 _ _ rfl _ _ _ _ (x_aload rfl (w_geti W4 7 4 (by decide) shp_80 rfl rfl (x_br (fun q5 => absurd (show kI (3) ≤ 0 from q5) (by decide)) (fun q5 => x_sipush (x_iret (nrwI _) ?_))))))))))))))))))))))))))))
  · rw [wn4] at q1 q2
    exact absurd (by rw [k_le0 (n := laidT T x) rfl (by omega) q2]; rfl) q1
  · rw [wn4] at q1
    exact kk.go W1 kpM4 kfM4 (if_neg (fun z => q1 (by rw [z]; rfl))) wn4 (fun h => absurd (by rw [h]; rfl) q1)
  · rw [wn4] at q1
    have hl := hb0 q1
    exact J_c (loop hl (wy.trans q3) 0 (Nat.zero_le _) _ _ none W3 (kpM4.trans (e0.mono l1786)) (kfM4.trans (f0.mono f17)) ((f0 4 (by simp)).trans (wn4.trans (by rw [hl]; rfl))) c0 (fun j hj => by omega)) rfl
  · rw [wn4] at q1 q4
    rw [q1] at q4
    exact absurd q4 (by decide)
  · rw [wn4] at q1
    exact kk.go W4 (kpM4.trans kpM4) (kfM4.trans kfM4) (by rw [if_pos (hb0 q1), if_neg (by rw [wy, q3]; decide)]) wn4 (fun h => by cases h)
theorem x_judge {x y : Int32} (W : WW ad w h) (hC : isC i) (hR : CR w i V) (hV : VOK V) (hc : wr w 0 0 = i) (h20 : i ≠ 20) (hT : TcR w T) (hTO : TOK T) (kk : KC ad P w [1, 2, 0] (judgeT T x y) (.int (judgeV T V x y))) : WP ga L xs (d + 7) 85 [.ref (ad 0), .int x, .int y] h P := by
  have hn := hV.n.2
  have hw := hV.w.2
  have hp0 := POK.start hV
  unfold judgeT at kk
  have hno0 : inV x 0 3 = true → ¬ T.1 (tN x) = kI (-1) → laidT T x = 0 := fun h1 h2 => by
    unfold laidT
    rw [if_pos h1, if_neg h2]
  refine WP.enter kX6_judge (Nat.le_of_ble_eq_true rfl) (fun J hJ => ?_)
  have loop : inV x 0 3 = true → ¬ T.1 (tN x) = kI (-1) → inV y 0 1 = true → ∀ bg m, m ≤ trM T (tN x) → ∀ h' w' z, WW ad w' h' → kp [40, 41] w w' → CoR w' i V (runP V (startP V) m) false → (∀ j, j < m → jP T V (tN x) j = false) → J 1 [some (.ref (ad 0)), some (.int x), some (.int y), some (.ref (ad (63 + 2 * tN x))), some (.int (kI (m : Int))), z] [] h' bg := by
    intro t1 t2 hy bg
    have hx4 := tr_4 t1
    obtain ⟨hm1, hm2⟩ := hTO.m hx4
    have hT9 : (if laidT T x = 0 then (if inV y 0 1 = true then 0 else 3) else laidT T x) = 0 := by rw [if_pos (hno0 t1 t2), if_pos hy]
    refine up_ind (fun m hm ih h0 w0 z W0 hk hco hno => ?_)
    have hT0 := (hT.kp hk (by simp)) (tN x) hx4
    have em : wn w0 (63 + 2 * tN x) 2 = kI (trM T (tN x) : Int) := hT0.2.2.1.trans hm1
    have hpm := hp0.run hn m (by have : (startP V).2 = wk V := rfl; omega)
    have hlen : (runP V (startP V) m).2 = wk V + m := runP_len (V := V) (p := startP V) m
    have hval : m < trM T (tN x) → ∀ w1, kp [40, 41] w0 w1 → wl w1 (63 + 2 * tN x + 1) m = T.2.2 (60 * tN x + m) := fun h9 w1 e1 => by
      rw [(e1 (63 + 2 * tN x + 1) (by simp; omega)).2.2.2]
      exact hT0.2.2.2 m (by omega)
    refine hJ 1 _ _ rfl _ _ _ _ (x_iload rfl (x_aload rfl (w_geti W0 3 2 (isT_of t1).lt (isT_of t1).sh rfl rfl (x_br2 (fun q1 => have q1 := ge_y em (by omega) q1; hJ 5 _ _ rfl _ _ _ _ (x_sipush (x_iret (nrwI _) ?_))) (fun q1 => have q1 := ge_n em (by omega) q1; x_aload rfl (w_getr W0 6 4 (t := 40) (by decide) shp_0 rfl rfl rfl (x_cv rfl (Nat.le_of_ble_eq_true rfl) (isO_W W0 (by decide) shp_40) (c_go W0 hC (hR.far hk hC (by simp)) hV hco hpm (by omega) (fun h1 w1 W1 e1 c1 => xk_go (x_istore rfl (x_aload rfl (w_getr W1 3 3 (t := (63 + 2 * tN x) + 1) (isT_of t1).lt (isT_of t1).sh rfl rfl ((isT_of t1).rf _) (x_iload rfl (w_lald W1 m (isT_of t1).lt1 (isT_of t1).sh1 rfl (by omega) (by decide) (x_iload rfl (x_i2l (x_lcmp (x_br (fun q2 => have q2 := cy_eq q2; hJ 4 _ _ rfl _ _ _ _ (x_iinc rfl rfl (x_goto (?_)))) (fun q2 => have q2 := cn_eq q2; x_iload rfl (x_br (fun q3 => have q3 := cy_ne q3; hJ 2 _ _ rfl _ _ _ _ (x_iload rfl (x_goto (hJ 3 _ _ rfl _ _ _ _ (x_iret (nrwI _) ?_))))) (fun q3 => have q3 := cn_ne q3; x_iload rfl (x_goto (hJ 3 _ _ rfl _ _ _ _ (x_iret (nrwI _) ?_))))))))))))))))))))))))
    · have hl2 : fstG (jP T V (tN x)) (trM T (tN x)) = trM T (tN x) := fst_all (fun j hj => hno j (by omega))
      have hv : judgeV T V x y = kI (-1) := by
        unfold judgeV
        rw [hl2, if_neg (by omega)]
      rw [hv] at kk
      exact kk.yes hT9 W0 (hk.mono l4041')
    · rw [hval q1 w1 e1] at q2
      have q2 := lg_eq.mp q2
      refine J_c (ih q1 h1 _ (some (.int (nextP V (runP V (startP V) m)))) W1 (hk.trans e1) c1 ?_) (by simp only [sI, kN_succ])
      intro j hj
      by_cases ej : j = m
      · rw [ej]
        exact decide_eq_false (fun z => z q2)
      · exact hno j (by omega)
    · rw [hval q1 w1 e1] at q2
      have q2 : ¬ T.2.2 (60 * tN x + m) = (nextP V (runP V (startP V) m)).toInt64 := fun z => q2 (lg_eq.mpr z)
      have hl2 : fstG (jP T V (tN x)) (trM T (tN x)) = m := fst_is (decide_eq_true q2) hno q1
      have hv : judgeV T V x y = if y = kI 0 then kI (m : Int) else nextP V (runP V (startP V) m) := by
        unfold judgeV
        rw [hl2, if_pos q1]
      rw [hv, if_neg (show ¬ y = kI 0 from q3)] at kk
      exact kk.yes hT9 W1 ((hk.trans e1).mono l4041')
    · rw [hval q1 w1 e1] at q2
      have q2 : ¬ T.2.2 (60 * tN x + m) = (nextP V (runP V (startP V) m)).toInt64 := fun z => q2 (lg_eq.mpr z)
      have hl2 : fstG (jP T V (tN x)) (trM T (tN x)) = m := fst_is (decide_eq_true q2) hno q1
      have hv : judgeV T V x y = if y = kI 0 then kI (m : Int) else nextP V (runP V (startP V) m) := by
        unfold judgeV
        rw [hl2, if_pos q1]
      rw [hv, if_pos (show y = kI 0 from q3)] at kk
      exact kk.yes hT9 W1 ((hk.trans e1).mono l4041')
  have hl1 : inV x 0 3 = false → laidT T x = 1 := fun h => by
    unfold laidT
    exact if_neg (by rw [h]; decide)
  have hl2 : inV x 0 3 = true → T.1 (tN x) = kI (-1) → laidT T x = 2 := fun h g => by
    unfold laidT
    rw [if_pos h, if_pos g]
  refine hJ 0 _ _ rfl _ _ _ _ (x_aload rfl (x_iload rfl (x_cvb rfl (Nat.le_of_ble_eq_true rfl) (isO_W W (by decide) shp_0) ⟨by decide, by decide⟩ (c_laidTray W hT (fun t1 => ?_) (fun t1 t2 => ?_) (fun t1 t2 => xk_go (x_astore rfl (x_iload rfl (x_sipush (x_sipush (x_csb rfl (Nat.le_of_ble_eq_true rfl) ⟨by decide, by decide⟩ (c_reqWithin rfl rfl (by omega) (fun t3 => ?_) (fun t3 => xk_v (x_aload rfl (w_getr W 6 4 (t := 40) (by decide) shp_0 rfl rfl rfl (x_aload rfl (w_getr W 6 0 (t := i) (by decide) shp_0 rfl rfl hc (x_cv rfl (Nat.le_of_ble_eq_true rfl) (isO_W W (by decide) shp_40) (c_start W hC hR hV (fun h1 w1 W1 e0 c0 n0 => xk_v (x_sipush (x_istore rfl (x_goto (?_)))))))))))))))))))))))
  · exact kk.no 0 (by rw [hl1 t1]; rfl) W kp_refl
  · exact kk.no 1 (by rw [hl2 t1 t2]; rfl) W kp_refl
  · exact kk.no 2 (by rw [if_pos (hno0 t1 t2), if_neg (by rw [t3]; decide)]) W kp_refl
  · exact J_c (loop t1 t2 t3 _ 0 (Nat.zero_le _) _ _ none W1 e0 c0 (fun j hj => by omega)) rfl
end W1
