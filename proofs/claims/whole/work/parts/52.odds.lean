/-! ===== odds ===== -/
def oddsT (x y : Int32) : Nat := if inV y 1 20 = true ∧ inV x 0 y.toInt = true then 0 else 1
def boS (V : VT) (b : Nat) : Nat → Nat
  | 0 => 0
  | a + 1 => if (waysV (nm V) (V 1) (boS V b a) b).toInt < (waysV (nm V) (V 1) (a + 1) b).toInt then a + 1 else boS V b a
def bestOddsV (V : VT) (b : Nat) : Int32 := kI (boS V b b : Int)
def bT (y : Int32) : Nat := if inV y 1 20 = true then 0 else 1
theorem boS_le {V : VT} {b : Nat} : ∀ a, boS V b a ≤ a
  | 0 => Nat.le_refl _
  | a + 1 => by
    have := boS_le (V := V) (b := b) a
    unfold boS
    split <;> omega
theorem l91 : ∀ a ∈ [91], a ∈ SM := by decide
theorem kf91 {w w' : Wst} {l : List Nat} (h : kp [91] w w') : kf l w w' := fun b _ => by rw [(h 80 (by simp)).1]
theorem pow20 : ∀ m, m ≤ 12 → ∀ b, b ≤ 20 → b ^ m ≤ 4096000000000000 := fun m hm b hb => by
  have h1 : b ^ m ≤ 20 ^ m := Nat.pow_le_pow_left hb m
  have h2 : 20 ^ m ≤ 20 ^ 12 := Nat.pow_le_pow_right (by decide) hm
  have h3 : 20 ^ 12 = 4096000000000000 := by decide
  omega
theorem way_nat {n a b : Nat} {k : Int32} (hn : n ≤ 12) (hab : a ≤ b) (hb : b ≤ 20) : ∃ S : Nat, waysV n k a b = kL (S : Int) ∧ S ≤ b ^ n := by
  unfold waysV
  split
  · exact ⟨_, rfl, wy_le (cs := fun _ => a) (es := fun _ => b - a) (b := b) (fun m => by omega) n (tN k)⟩
  · exact ⟨0, rfl, Nat.zero_le _⟩
theorem way_toInt {n a b : Nat} {k : Int32} (hn : n ≤ 12) (hab : a ≤ b) (hb : b ≤ 20) : 0 ≤ (waysV n k a b).toInt := by
  obtain ⟨S, h1, h2⟩ := way_nat (k := k) hn hab hb
  have h3 := pow20 n hn b hb
  rw [h1, kL_toInt (by omega) (by omega)]
  omega
theorem inVy {x y : Int32} {a : Nat} (ha : a < 2147483648) : inV x a y.toInt = decide ((Int64.ofNat a).toInt ≤ x.toInt64.toInt ∧ x.toInt64.toInt ≤ y.toInt64.toInt) := (inV_l' ha).symm
theorem in0y {x y : Int32} (hy : inV y 1 20 = true) (h : inV x 0 y.toInt = true) : x = kI (tN x : Int) ∧ tN x ≤ tN y := by
  have e := xnT (a := 1) (b := 20) hy
  have h9 := of_decide_eq_true h
  unfold tN at e ⊢
  exact ⟨by rw [Int.toNat_of_nonneg h9.1, kI_of], by omega⟩
section W1
variable {ga : Nat → Nat} {L : Nat} {xs : Nat → Int32} {d : Nat} {h : ac_H} {P : ac_P} {ad : Nat → Nat} {w : Wst} {V : VT}
theorem m_odds {x y z : Int32} (W : WW ad w h) (hK : wa w 81 = V) (hV : VOK V) (kk : KQ ad P w (oddsT x y) (.long (waysV (nm V) z (tN x) (tN y)))) : WP ga L xs (d + 9) 219 [.ref (ad 80), .int x, .int y, .int z] h P := by
  have hn := hV.n.2
  have wy : inV y 1 20 = decide ((Int64.ofNat 1).toInt ≤ y.toInt64.toInt ∧ y.toInt64.toInt ≤ (Int64.ofNat 20).toInt) := (inV_l (a := 1) (b := 20) (by omega) (by omega)).symm
  have wx : inV x 0 y.toInt = decide ((Int64.ofNat 0).toInt ≤ x.toInt64.toInt ∧ x.toInt64.toInt ≤ y.toInt64.toInt) := inVy (a := 0) (by omega)
  unfold oddsT at kk
  refine WP.enter kX7_odds (Nat.le_of_ble_eq_true rfl) (fun J hJ => ?_)
  refine hJ 0 _ _ rfl _ _ _ _ (x_aload rfl (x_iload rfl (x_i2l (x_ldc2 (x_ldc2 (x_cs rfl (Nat.le_of_ble_eq_true rfl) (c7_within (xk_go (x_br (fun q1 => have q1 := bI_eq0.mp q1; hJ 1 _ _ rfl _ _ _ _ (x_sipush (x_goto (hJ 2 _ _ rfl _ _ _ _ (w_puti W 7 4 (by decide) shp_80 rfl rfl (okI rfl) (fun h1 W1 => x_aload rfl (w_geti W1 7 4 (by decide) shp_80 rfl rfl (x_br (fun q2 => absurd (show kI (1) ≤ 0 from q2) (by decide)) (fun q2 => x_ldc2 (x_goto (hJ 4 _ _ rfl _ _ _ _ (x_lret rfl ?_)))))))))))) (fun q1 => have q1 := bI_ne0.mp q1; x_iload rfl (x_i2l (x_ldc2 (x_iload rfl (x_i2l (x_cs rfl (Nat.le_of_ble_eq_true rfl) (c7_within (xk_go (x_br (fun q3 => have q3 := bI_eq0.mp q3; hJ 1 _ _ rfl _ _ _ _ (x_sipush (x_goto (hJ 2 _ _ rfl _ _ _ _ (w_puti W 7 4 (by decide) shp_80 rfl rfl (okI rfl) (fun h2 W2 => x_aload rfl (w_geti W2 7 4 (by decide) shp_80 rfl rfl (x_br (fun q4 => absurd (show kI (1) ≤ 0 from q4) (by decide)) (fun q4 => x_ldc2 (x_goto (hJ 4 _ _ rfl _ _ _ _ (x_lret rfl ?_)))))))))))) (fun q3 => have q3 := bI_ne0.mp q3; x_sipush (x_goto (hJ 2 _ _ rfl _ _ _ _ (w_puti W 7 4 (by decide) shp_80 rfl rfl (okI rfl) (fun h3 W3 => x_aload rfl (w_geti W3 7 4 (by decide) shp_80 rfl rfl (x_br (fun q5 => hJ 3 _ _ rfl _ _ _ _ (x_aload rfl (x_aload rfl (x_cv rfl (Nat.le_of_ble_eq_true rfl) (isO_W W3 (by decide) shp_80) (c7_many W3 hK hV (xk_go (x_iload rfl (x_iload rfl (x_iload rfl (x_cv rfl (Nat.le_of_ble_eq_true rfl) (isO_W W3 (by decide) shp_80) (c7_waysOf W3 rfl hn (in0y (wy.trans q1) (wx.trans q3)).1 (xnV (a := 1) (b := 20) (wy.trans q1)).1 (in0y (wy.trans q1) (wx.trans q3)).2 (xnV (a := 1) (b := 20) (wy.trans q1)).2.2 (fun h4 w4 W4 e4 => xk_go (x_goto (hJ 4 _ _ rfl _ _ _ _ (x_lret rfl ?_))))))))))))))) (fun q5 => absurd (show kI (0) ≤ 0 by decide) q5))))))))))))))))))))))))))
  · exact kk.go W1 kpM4 kfM4 (if_neg (fun z => by rw [wy, q1] at z; cases z.1)) wn4 (fun h => by cases h)
  · exact kk.go W2 kpM4 kfM4 (if_neg (fun z => by rw [wx, q3] at z; cases z.2)) wn4 (fun h => by cases h)
  · exact kk.go W4 (kpM4.trans (e4.mono l91)) (kfM4.trans (kf91 e4)) (if_pos ⟨wy.trans q1, wx.trans q3⟩) (by rw [(e4 80 (by simp)).1]; exact wn4) (fun _ => rfl)
theorem m_bestOdds {y : Int32} (W : WW ad w h) (hK : wa w 81 = V) (hV : VOK V) (kk : KQ ad P w (bT y) (.int (bestOddsV V (tN y)))) : WP ga L xs (d + 9) 220 [.ref (ad 80), .int y] h P := by
  have hn := hV.n.2
  have wy : inV y 1 20 = decide ((Int64.ofNat 1).toInt ≤ y.toInt64.toInt ∧ y.toInt64.toInt ≤ (Int64.ofNat 20).toInt) := (inV_l (a := 1) (b := 20) (by omega) (by omega)).symm
  unfold bT at kk
  refine WP.enter kX7_bestOdds (Nat.le_of_ble_eq_true rfl) (fun J hJ => ?_)
  have loop : inV y 1 20 = true → ∀ m, m ≤ tN y → ∀ h' w', WW ad w' h' → kp SM w w' → kf FM w w' → wa w' 81 = V → wn w' 80 4 = kI 0 → J 2 [some (.ref (ad 80)), some (.int y), some (.int (kI (boS V (tN y) m : Int))), some (.int (kI ((m + 1 : Nat) : Int)))] [] h' (0, 0) := fun hy => up_ind (fun m hm ih h0 w0 W0 k0 f0 hK0 n0 => ?_)
  · refine hJ 0 _ _ rfl _ _ _ _ (x_aload rfl (x_sipush (w_puti W 7 4 (by decide) shp_80 rfl rfl (okI rfl) (fun h1 W1 => x_iload rfl (x_i2l (x_ldc2 (x_ldc2 (x_cs rfl (Nat.le_of_ble_eq_true rfl) (c7_within (xk_go (x_br (fun q1 => have q1 := bI_ne0.mp q1; hJ 1 _ _ rfl _ _ _ _ (x_sipush (x_istore rfl (x_sipush (x_istore rfl (x_goto (?_))))))) (fun q1 => have q1 := bI_nn q1; x_aload rfl (x_sipush (x_cv rfl (Nat.le_of_ble_eq_true rfl) (isO_W W1 (by decide) shp_80) (c7_fails W1 (fun h2 W2 => xk_go (x_iret (nrwI _) ?_)))))))))))))))))
    · exact loop (wy.trans q1) 0 (Nat.zero_le _) _ _ W1 kpM4 kfM4 hK wn4
    · exact kk.go W2 (kpM4.trans kpM4) (kfM4.trans kfM4) (if_neg (fun z => by rw [wy, q1] at z; cases z)) wn4 (fun h => by cases h)
  have xn := xnV (a := 1) (b := 20) hy
  have hbs := boS_le (V := V) (b := tN y) m
  have e1' : wa w0 81 1 = V 1 := by rw [hK0]
  refine hJ 2 _ _ rfl _ _ _ _ (x_iload rfl (x_iload rfl (x_br2 (fun q1 => have q1 := gt_y xn.1 (by omega) q1; hJ 4 _ _ rfl _ _ _ _ (x_iload rfl (x_iret (nrwI _) ?_))) (fun q1 => have q1 := gt_n xn.1 (by omega) q1; x_aload rfl (x_aload rfl (x_cv rfl (Nat.le_of_ble_eq_true rfl) (isO_W W0 (by decide) shp_80) (c7_many W0 hK0 hV (xk_go (x_iload rfl (x_iload rfl (x_aload rfl (w_getr W0 7 0 (t := 81) (by decide) shp_80 rfl rfl rfl (x_sipush (w_iald W0 1 (by decide) shp_81 rfl (by decide) (by decide) (x_cv rfl (Nat.le_of_ble_eq_true rfl) (isO_W W0 (by decide) shp_80) (c7_waysOf W0 rfl hn rfl xn.1 (by omega) (by omega) (fun h1 w1 W1 e1 => xk_go (x_aload rfl (x_aload rfl (x_cv rfl (Nat.le_of_ble_eq_true rfl) (isO_W W1 (by decide) shp_80) (c7_many W1 ((e1 81 (by simp)).2.2.1.trans hK0) hV (xk_go (x_iload rfl (x_iload rfl (x_aload rfl (w_getr W1 7 0 (t := 81) (by decide) shp_80 rfl rfl rfl (x_sipush (w_iald W1 1 (by decide) shp_81 rfl (by decide) (by decide) (x_cv rfl (Nat.le_of_ble_eq_true rfl) (isO_W W1 (by decide) shp_80) (c7_waysOf W1 rfl hn rfl xn.1 (by omega) (by omega) (fun h2 w2 W2 e2 => xk_go (x_lcmp (x_br (fun q2 => have q2 := cy_le q2; hJ 3 _ _ rfl _ _ _ _ (x_iinc rfl rfl (x_goto (?_)))) (fun q2 => have q2 := cn_le q2; x_iload rfl (x_istore rfl (x_goto (hJ 3 _ _ rfl _ _ _ _ (x_iinc rfl rfl (x_goto (?_))))))))))))))))))))))))))))))))))))))))
  · have e : m = tN y := by omega
    subst e
    exact kk.go W0 k0 f0 (if_pos hy) n0 (fun _ => rfl)
  · rw [e1', show wa w1 81 1 = V 1 by rw [(e1 81 (by simp)).2.2.1, hK0]] at q2
    refine J_c (ih (by omega) h2 _ W2 (k0.trans ((e1.trans e2).mono l91)) (f0.trans (kf91 (e1.trans e2))) (((e1.trans e2) 81 (by simp)).2.2.1.trans hK0) (by rw [((e1.trans e2) 80 (by simp)).1]; exact n0)) ?_
    have q2 := Int32.not_lt.mpr q2
    rw [lg_gt] at q2
    have es : boS V (tN y) (m + 1) = boS V (tN y) m := if_neg q2
    rw [es]
    simp only [sI, kN_succ]
  · rw [e1', show wa w1 81 1 = V 1 by rw [(e1 81 (by simp)).2.2.1, hK0]] at q2
    refine J_c (ih (by omega) h2 _ W2 (k0.trans ((e1.trans e2).mono l91)) (f0.trans (kf91 (e1.trans e2))) (((e1.trans e2) 81 (by simp)).2.2.1.trans hK0) (by rw [((e1.trans e2) 80 (by simp)).1]; exact n0)) ?_
    rw [lg_gt] at q2
    have es : boS V (tN y) (m + 1) = m + 1 := if_pos q2
    rw [es]
    simp only [sI, kN_succ]
end W1
