/-! ===== chances ===== -/
def lNt (x : Int64) : Nat := x.toInt.toNat
def chB (T : TT) (t : Nat) (y : Int32) (j : Nat) : Bool := decide (0 ≤ (T.2.2 (60 * t + j)).toInt ∧ (T.2.2 (60 * t + j)).toInt ≤ y.toInt)
abbrev chOK (T : TT) (V : VT) (t : Nat) (y : Int32) : Prop := T.2.1 t = V 4 ∧ ∀ j, j < nm V → chB T t y j = true
def chanT (T : TT) (V : VT) (x y : Int32) : Nat := if laidT T x = 0 then (if inV y 1 20 = true ∧ decide (chOK T V (tN x) y) = true then 0 else 3) else laidT T x
def wyT (T : TT) (t b : Nat) : Nat → Nat → Nat := wyN (fun j => lNt (T.2.2 (60 * t + j))) (fun j => b - lNt (T.2.2 (60 * t + j)))
def chanV (T : TT) (V : VT) (x y z : Int32) : Int64 := if inV z 0 (nm V) = true then kL ((wyT T (tN x) (tN y) (nm V) (tN z) : Nat) : Int) else kL 0
theorem chB_is {T : TT} {t b j : Nat} {y : Int32} (hy : y = kI (b : Int)) (hb : b ≤ 1000) (h : chB T t y j = true) : T.2.2 (60 * t + j) = kL (lNt (T.2.2 (60 * t + j)) : Int) ∧ y.toInt64 - T.2.2 (60 * t + j) = kL ((b - lNt (T.2.2 (60 * t + j)) : Nat) : Int) := by
  have h := of_decide_eq_true h
  have e : T.2.2 (60 * t + j) = kL (lNt (T.2.2 (60 * t + j)) : Int) := by
    unfold lNt
    rw [Int.toNat_of_nonneg h.1, kL_of]
  refine ⟨e, ?_⟩
  have hyb : y.toInt = b := by rw [hy, kN_toInt (by omega)]
  have h2 : lNt (T.2.2 (60 * t + j)) ≤ b := by unfold lNt; omega
  rw [hy, kN_64 (by omega)]
  have h3 : kL (b : Int) - kL (lNt (T.2.2 (60 * t + j)) : Int) = kL ((b - lNt (T.2.2 (60 * t + j)) : Nat) : Int) := by
    rw [kL_sub]
    exact congrArg kL (by omega)
  rw [← e] at h3
  exact h3
section W1
variable {T : TT}
variable {ga : Nat → Nat} {L : Nat} {xs : Nat → Int32} {d : Nat} {h : ac_H} {P : ac_P} {ad : Nat → Nat} {w : Wst} {V : VT}
theorem laid_le (T : TT) (x : Int32) : laidT T x ≤ 2 := by
  unfold laidT
  split
  · split <;> omega
  · omega
theorem l0 {x : Int32} (h : laidT T x = 0) : inV x 0 3 = true := by
  unfold laidT at h
  split at h
  · assumption
  · omega
theorem m_chances {x y z : Int32} (W : WW ad w h) (hK : wa w 81 = V) (hV : VOK V) (hT : TmR w T) (hTO : TOK T) (kk : KQ ad P w (chanT T V x y) (.long (chanV T V x y z))) : WP ga L xs (d + 9) 221 [.ref (ad 80), .int x, .int y, .int z] h P := by
  have hn := hV.n.2
  have wy : inV y 1 20 = decide ((Int64.ofNat 1).toInt ≤ y.toInt64.toInt ∧ y.toInt64.toInt ≤ (Int64.ofNat 20).toInt) := (inV_l (a := 1) (b := 20) (by omega) (by omega)).symm
  have wz : inV z 0 (nm V) = decide ((Int64.ofNat 0).toInt ≤ z.toInt64.toInt ∧ z.toInt64.toInt ≤ (kI (nm V : Int)).toInt64.toInt) := by
    rw [inV_l' (a := 0) (by omega), kN_toInt (by omega)]
    rfl
  refine WP.enter kX7_chances (Nat.le_of_ble_eq_true rfl) (fun J hJ => ?_)
  have loop4 : laidT T x = 0 → ∀ base : Bool, (base = true ↔ inV y 1 20 = true ∧ T.2.1 (tN x) = V 4) → ∀ m, m ≤ nm V → ∀ h' w' g, WW ad w' h' → kp SM w w' → kf FM w w' → wn w' 80 4 = kI 0 → (g = true ↔ base = true ∧ ∀ j, j < m → chB T (tN x) y j = true) → J 4 [some (.ref (ad 80)), some (.int x), some (.int y), some (.int z), some (.int (bI g)), some (.int (kI (m : Int)))] [] h' (0, 0) := by
    intro hl base hbase
    have hx := l0 hl
    have hx4 := tr_4 hx
    refine up_ind (fun m hm ih h0 w0 g W0 k0 f0 n0 hg => ?_)
    have hT0 := hT.kp k0 (by decide)
    have hK0 : wa w0 81 = V := (k0 81 (by decide)).2.2.1.trans hK
    have hch : ∀ j, chB T (tN x) y j = decide ((Int64.ofNat 0).toInt ≤ (T.2.2 (60 * tN x + j)).toInt ∧ (T.2.2 (60 * tN x + j)).toInt ≤ y.toInt64.toInt) := fun j => by
      rw [toInt64_toInt]
      rfl
    have hno : g = false → chanT T V x y = 3 := fun hg9 => by
      unfold chanT
      rw [if_pos hl]
      refine if_neg (fun z => ?_)
      have z2 : chOK T V (tN x) y := of_decide_eq_true z.2
      have := hg.mpr ⟨hbase.mpr ⟨z.1, z2.1⟩, fun j hj => z2.2 j (by omega)⟩
      rw [hg9] at this
      cases this
    have fin : ∀ h' w', WW ad w' h' → kp SM w w' → kf FM w w' → wn w' 80 4 = kI 0 → inV y 1 20 = true → T.2.1 (tN x) = V 4 → (∀ j, j < nm V → chB T (tN x) y j = true) → ∀ m, m ≤ nm V → ∀ h'' w'', WW ad w'' h'' → kp [91] w' w'' → (∀ k, k < 14 → wl w'' 91 k = kL ((wyT T (tN x) (tN y) m k : Nat) : Int)) → J 7 [some (.ref (ad 80)), some (.int x), some (.int y), some (.int z), some (.int (bI true)), some (.int (kI (m : Int)))] [] h'' (0, 0) := by
      intro h9 w9 W9 k9 f9 n9 hy hmany hall
      refine up_ind (fun m hm ih h0 w0 W0 k0 hf0 => ?_)
      have k90 := k9.trans (k0.mono l91)
      have hK0 : wa w0 81 = V := (k90 81 (by decide)).2.2.1.trans hK
      have hT0 := hT.kp k90 (by decide)
      have xn := xnV (a := 1) (b := 20) hy
      have e64 : m < nm V → wl w0 95 (60 * tN x + m) = kL (lNt (T.2.2 (60 * tN x + m)) : Int) ∧ y.toInt64 - wl w0 95 (60 * tN x + m) = kL ((tN y - lNt (T.2.2 (60 * tN x + m)) : Nat) : Int) := fun h => by
        rw [hT0.2 _ (by omega)]
        exact chB_is xn.1 (by omega) (hall m h)
      have z1 : decide ((Int64.ofNat 0).toInt ≤ z.toInt64.toInt ∧ z.toInt64.toInt ≤ (kI (nm V : Int)).toInt64.toInt) = true → z = kI (tN z : Int) ∧ tN z ≤ nm V := fun q => in_m (wz.trans q)
      have hTT : chanT T V x y = 0 := by
        unfold chanT
        rw [if_pos hl, if_pos ⟨hy, decide_eq_true ⟨hmany, hall⟩⟩]
      unfold chanV at kk
      refine hJ 7 _ _ rfl _ _ _ _ (x_iload rfl (x_aload rfl (x_cv rfl (Nat.le_of_ble_eq_true rfl) (isO_W W0 (by decide) shp_80) (c7_many W0 hK0 hV (xk_go (x_br2 (fun q1 => have q1 := ge_y rfl (by omega) q1; hJ 8 _ _ rfl _ _ _ _ (x_iload rfl (x_i2l (x_ldc2 (x_aload rfl (x_cv rfl (Nat.le_of_ble_eq_true rfl) (isO_W W0 (by decide) shp_80) (c7_many W0 hK0 hV (xk_go (x_i2l (x_cs rfl (Nat.le_of_ble_eq_true rfl) (c7_within (xk_go (x_br (fun q2 => have q2 := bI_eq0.mp q2; hJ 9 _ _ rfl _ _ _ _ (x_ldc2 (x_goto (hJ 10 _ _ rfl _ _ _ _ (x_lret rfl ?_))))) (fun q2 => have q2 := bI_ne0.mp q2; x_aload rfl (w_getr W0 7 23 (t := 91) (by decide) shp_80 rfl rfl rfl (x_iload rfl (w_lald W0 (tN z) (by decide) shp_91 (z1 q2).1 (by have := (z1 q2).2; omega) (by decide) (x_goto (hJ 10 _ _ rfl _ _ _ _ (x_lret rfl ?_)))))))))))))))))))) (fun q1 => have q1 := ge_n rfl (by omega) q1; x_aload rfl (x_aload rfl (w_getr W0 7 27 (t := 95) (by decide) shp_80 rfl rfl rfl (x_sipush (x_iload rfl (x_imul (x_iload rfl (x_iadd (w_lald W0 (60 * tN x + m) (by decide) shp_95 (tr_ix hx m) (by omega) (by decide) (x_iload rfl (x_i2l (x_cv rfl (Nat.le_of_ble_eq_true rfl) (isO_W W0 (by decide) shp_80) (c7_waysGo (f := wyT T (tN x) (tN y) m) W0 (e64 q1).1 (e64 q1).2 hf0 (fun h1 w1 W1 e1 c1 => xk_v (x_iinc rfl rfl (x_goto (?_)))))))))))))))))))))))
      · rw [if_neg (by rw [wz, q2]; decide)] at kk
        exact kk.go W0 k90 (f9.trans (kf91 k0)) hTT (by rw [(k0 80 (by simp)).1]; exact n9) (fun _ => rfl)
      · have e : m = nm V := by omega
        subst e
        rw [if_pos (wz.trans q2)] at kk
        refine kk.go W0 k90 (f9.trans (kf91 k0)) hTT (by rw [(k0 80 (by simp)).1]; exact n9) (fun _ => ?_)
        rw [hf0 (tN z) (by have := (z1 q2).2; omega)]
      · refine J_c (ih q1 h1 _ W1 (k0.trans e1) c1) ?_
        simp only [sI, kN_succ]
    refine hJ 4 _ _ rfl _ _ _ _ (x_iload rfl (x_aload rfl (x_cv rfl (Nat.le_of_ble_eq_true rfl) (isO_W W0 (by decide) shp_80) (c7_many W0 hK0 hV (xk_go (x_br2 (fun q1 => have q1 := ge_y rfl (by omega) q1; hJ 5 _ _ rfl _ _ _ _ (x_iload rfl (x_br (fun q2 => have q2 := bI_ne0.mp q2; hJ 6 _ _ rfl _ _ _ _ (x_aload rfl (x_cv rfl (Nat.le_of_ble_eq_true rfl) (isO_W W0 (by decide) shp_80) (c7_waysBegin W0 (fun h1 w1 W1 e1 c1 => xk_v (x_sipush (x_istore rfl (x_goto (?_))))))))) (fun q2 => have q2 := bI_nn q2; x_aload rfl (x_sipush (x_cv rfl (Nat.le_of_ble_eq_true rfl) (isO_W W0 (by decide) shp_80) (c7_fails W0 (fun h2 W2 => xk_go (x_i2l (x_lret rfl ?_)))))))))) (fun q1 => have q1 := ge_n rfl (by omega) q1; x_iload rfl (x_br (fun q3 => have q3 := bI_eq0.mp q3; hJ 5 _ _ rfl _ _ _ _ (x_iload rfl (x_br (fun q4 => have q4 := bI_ne0.mp q4; hJ 6 _ _ rfl _ _ _ _ (x_aload rfl (x_cv rfl (Nat.le_of_ble_eq_true rfl) (isO_W W0 (by decide) shp_80) (c7_waysBegin W0 (fun h3 w3 W3 e3 c3 => xk_v (x_sipush (x_istore rfl (x_goto (?_))))))))) (fun q4 => have q4 := bI_nn q4; x_aload rfl (x_sipush (x_cv rfl (Nat.le_of_ble_eq_true rfl) (isO_W W0 (by decide) shp_80) (c7_fails W0 (fun h4 W4 => xk_go (x_i2l (x_lret rfl ?_)))))))))) (fun q3 => have q3 := bI_ne0.mp q3; x_aload rfl (w_getr W0 7 27 (t := 95) (by decide) shp_80 rfl rfl rfl (x_sipush (x_iload rfl (x_imul (x_iload rfl (x_iadd (w_lald W0 (60 * tN x + m) (by decide) shp_95 (tr_ix hx m) (by omega) (by decide) (x_ldc2 (x_iload rfl (x_i2l (x_cs rfl (Nat.le_of_ble_eq_true rfl) (c7_within (xk_go (x_istore rfl (x_iinc rfl rfl (x_goto (?_))))))))))))))))))))))))))
    · have hg1 : g = true := q2
      subst hg1
      have hb := hg.mp rfl
      have e : m = nm V := by omega
      subst e
      exact fin _ _ W0 k0 f0 n0 (hbase.mp hb.1).1 (hbase.mp hb.1).2 hb.2 0 (Nat.zero_le _) _ _ W1 e1 c1
    · exact kk.go W2 (k0.trans kpM4) (f0.trans kfM4) (hno q2) wn4 (fun h => by cases h)
    · exact absurd (q3.symm.trans q4) (by decide)
    · exact kk.go W4 (k0.trans kpM4) (f0.trans kfM4) (hno q4) wn4 (fun h => by cases h)
    · have hb := hg.mp q3
      have hd : decide ((Int64.ofNat 0).toInt ≤ (wl w0 95 (60 * tN x + m)).toInt ∧ (wl w0 95 (60 * tN x + m)).toInt ≤ y.toInt64.toInt) = chB T (tN x) y m := by
        rw [hT0.2 _ (by omega)]
        exact (hch m).symm
      refine J_c (ih q1 _ _ (chB T (tN x) y m) W0 k0 f0 n0 ⟨fun z => ⟨hb.1, fun j hj => ?_⟩, fun z => z.2 m (by omega)⟩) ?_
      · by_cases ej : j = m
        · rw [ej]; exact z
        · exact hb.2 j (by omega)
      · rw [hd]
        simp only [sI, kN_succ]
  have lle := laid_le T x
  have hn4 := hV.n.1
  refine hJ 0 _ _ rfl _ _ _ _ (x_aload rfl (x_aload rfl (x_iload rfl (x_cv rfl (Nat.le_of_ble_eq_true rfl) (isO_W W (by decide) shp_80) (c7_trayFault W hT (xk_go (w_puti W 7 4 (by decide) shp_80 rfl rfl (okI rfl) (fun h1 W1 => x_aload rfl (w_geti W1 7 4 (by decide) shp_80 rfl rfl (x_br (fun q1 => have q1 := k_le0 rfl (by have := laid_le T x; omega) (show kI (laidT T x : Int) ≤ 0 from cy_le q1); hJ 1 _ _ rfl _ _ _ _ (x_iload rfl (x_i2l (x_ldc2 (x_ldc2 (x_cs rfl (Nat.le_of_ble_eq_true rfl) (c7_within (xk_go (x_br (fun q2 => have q2 := bI_eq0.mp q2; hJ 2 _ _ rfl _ _ _ _ (x_sipush (x_goto (hJ 3 _ _ rfl _ _ _ _ (x_istore rfl (x_sipush (x_istore rfl (x_goto (?_))))))))) (fun q2 => have q2 := bI_ne0.mp q2; x_aload rfl (w_getr W1 7 26 (t := 94) (by decide) shp_80 rfl rfl rfl (x_iload rfl (w_iald W1 (tN x) (by decide) shp_94 (in_m (b := 3) (l0 q1)).1 (tr_4 (l0 q1)) (by decide) (x_aload rfl (x_cv rfl (Nat.le_of_ble_eq_true rfl) (isO_W W1 (by decide) shp_80) (c7_many W1 hK hV (xk_go (x_br2 (fun q3 => have q3 := cy_ne q3; hJ 2 _ _ rfl _ _ _ _ (x_sipush (x_goto (hJ 3 _ _ rfl _ _ _ _ (x_istore rfl (x_sipush (x_istore rfl (x_goto (?_))))))))) (fun q3 => have q3 := cn_ne q3; x_sipush (x_goto (hJ 3 _ _ rfl _ _ _ _ (x_istore rfl (x_sipush (x_istore rfl (x_goto (?_)))))))))))))))))))))))))) (fun q1 => have q1 := k_gt0 rfl (by have := laid_le T x; omega) (show ¬ kI (laidT T x : Int) ≤ 0 from Int32.not_le.mpr (cn_le q1)); x_ldc2 (x_lret rfl ?_))))))))))))
  · refine J_c (loop4 q1 false ⟨fun z => (by cases z), fun z => by rw [wy, q2] at z; cases z.1⟩ 0 (Nat.zero_le _) _ _ false W1 kpM4 kfM4 (wn4.trans (by rw [q1]; rfl)) ⟨fun z => (by cases z), fun z => by cases z.1⟩) rfl
  · refine J_c (loop4 q1 false ⟨fun z => (by cases z), fun z => absurd (((hT.1 _ (tr_4 (l0 q1))).2.trans z.2).trans hn4) q3⟩ 0 (Nat.zero_le _) _ _ false W1 kpM4 kfM4 (wn4.trans (by rw [q1]; rfl)) ⟨fun z => (by cases z), fun z => by cases z.1⟩) rfl
  · refine J_c (loop4 q1 true ⟨fun _ => ⟨wy.trans q2, ((hT.1 _ (tr_4 (l0 q1))).2.symm.trans q3).trans hn4.symm⟩, fun _ => rfl⟩ 0 (Nat.zero_le _) _ _ true W1 kpM4 kfM4 (wn4.trans (by rw [q1]; rfl)) ⟨fun z => ⟨rfl, fun j hj => by omega⟩, fun z => rfl⟩) rfl
  · have hc : chanT T V x y = laidT T x := if_neg (by omega)
    exact kk.go W1 kpM4 kfM4 hc wn4 (fun h => by omega)
end W1
