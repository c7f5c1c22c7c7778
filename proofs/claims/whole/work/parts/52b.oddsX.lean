/-! ===== odds: the class ===== -/
section W1
variable {ga : Nat → Nat} {L : Nat} {xs : Nat → Int32} {d : Nat} {h : ac_H} {P : ac_P} {ad : Nat → Nat} {w : Wst} {i : Nat} {V : VT}
theorem c_waysThat {x y za zb : Int32} {n a b : Nat} (hx : x = kI (n : Int)) (hn : n ≤ 12) (ha : za = kI (a : Int)) (hb : zb = kI (b : Int)) (hab : a ≤ b) (hb20 : b ≤ 20) (hP : P (.inl (some (.long (waysV n y a b)))) h) : WP ga L xs (d + 2) 134 [.int x, .int y, .int za, .int zb] h P := by
  subst hx ha hb
  have z0 : (0 : Int32).toInt = 0 := rfl
  have hin : 0 ≤ y → y ≤ kI (n : Int) → inV y 0 n = true := fun h1 h2 => by
    rw [Int32.le_iff_toInt_le, z0] at h1
    rw [Int32.le_iff_toInt_le, kN_toInt (by omega)] at h2
    exact decide_eq_true ⟨h1, h2⟩
  have hy : 0 ≤ y → y ≤ kI (n : Int) → y = kI (tN y : Int) ∧ tN y ≤ n := fun h1 h2 => in_m (hin h1 h2)
  have ebb : kI (b : Int) - kI (a : Int) = kI ((b - a : Nat) : Int) := by
    rw [kI_sub]
    exact congrArg kI (by omega)
  have enn : 0 ≤ y → y ≤ kI (n : Int) → kI (n : Int) - y = kI ((n - tN y : Nat) : Int) := fun h1 h2 => by
    have h3 := hy h1 h2
    have h4 : kI (n : Int) - kI (tN y : Int) = kI ((n - tN y : Nat) : Int) := by
      rw [kI_sub]
      exact congrArg kI (by omega)
    rw [← h3.1] at h4
    exact h4
  unfold waysV at hP
  refine WP.enter kX6_waysThat (Nat.le_of_ble_eq_true rfl) (fun J hJ => ?_)
  refine hJ 0 _ _ rfl _ _ _ _ (x_iload rfl (x_br (fun q1 => have q1 := cy_lt q1; hJ 1 _ _ rfl _ _ _ _ (x_ldc2 (x_lret rfl ?_))) (fun q1 => have q1 := cn_lt q1; x_iload rfl (x_iload rfl (x_br2 (fun q2 => have q2 := cy_le q2; hJ 2 _ _ rfl _ _ _ _ (x_iload rfl (x_iload rfl (x_cs rfl (Nat.le_of_ble_eq_true rfl) (c_choose rfl (hy q1 q2).1 hn (hy q1 q2).2 (xk_go (x_iload rfl (x_iload rfl (x_cs rfl (Nat.le_of_ble_eq_true rfl) (c_power rfl (hy q1 q2).1 (by omega) (by have := (hy q1 q2).2; omega) (xk_go (x_lmul (x_iload rfl (x_iload rfl (x_isub (x_iload rfl (x_iload rfl (x_isub (x_cs rfl (Nat.le_of_ble_eq_true rfl) (c_power ebb (enn q1 q2) (by omega) (by omega) (xk_go (x_lmul (x_lret rfl ?_))))))))))))))))))))))) (fun q2 => have q2 := cn_le q2; x_goto (hJ 1 _ _ rfl _ _ _ _ (x_ldc2 (x_lret rfl ?_)))))))))
  · rw [if_neg (fun z => by
      have z := of_decide_eq_true z
      rw [Int32.lt_iff_toInt_lt, z0] at q1
      omega)] at hP
    exact hP
  · rw [if_pos (hin q1 q2), wy_bin a (b - a) n (tN y) (hy q1 q2).2] at hP
    rw [kL_mulN, kL_mulN]
    exact hP
  · rw [if_neg (fun z => by
      have z := of_decide_eq_true z
      rw [Int32.lt_iff_toInt_lt, kN_toInt (by omega)] at q2
      omega)] at hP
    exact hP
theorem c_reqChance {x y : Int32} (k1 : oddsT x y = 1 → P (.inr 0) h) (k0 : inV y 1 20 = true → inV x 0 y.toInt = true → P (.inl none) h) : WP ga L xs (d + 2) 125 [.int x, .int y] h P := by
  unfold oddsT at k1
  refine WP.enter kX6_requireChance (Nat.le_of_ble_eq_true rfl) (fun J hJ => ?_)
  refine hJ 0 _ _ rfl _ _ _ _ (x_iload rfl (x_sipush (x_sipush (x_csb rfl (Nat.le_of_ble_eq_true rfl) ⟨by decide, by decide⟩ (c_reqWithin rfl rfl (by omega) (fun t1 => ?_) (fun t1 => xk_v (x_iload rfl (x_sipush (x_iload rfl (x_csb rfl (Nat.le_of_ble_eq_true rfl) ⟨by decide, by decide⟩ (c_reqWithin (a := 0) (b := y.toInt) rfl (kI_of y).symm (by have := of_decide_eq_true t1; omega) (fun t2 => ?_) (fun t2 => xk_v (x_vret rfl ?_)))))))))))))
  · exact k1 (if_neg (fun z => by rw [z.1] at t1; cases t1))
  · exact k1 (if_neg (fun z => by rw [z.2] at t2; cases t2))
  · exact k0 t1 t2
theorem x_odds {x y z : Int32} (W : WW ad w h) (hC : isC i) (hR : CR w i V) (hV : VOK V) (hc : wr w 0 0 = i) (kk : KC ad P w [0] (oddsT x y) (.long (waysV (nm V) z (tN x) (tN y)))) : WP ga L xs (d + 4) 102 [.ref (ad 0), .int x, .int y, .int z] h P := by
  have hn := hV.n.2
  refine WP.enter kX6_odds (Nat.le_of_ble_eq_true rfl) (fun J hJ => ?_)
  refine hJ 0 _ _ rfl _ _ _ _ (x_iload rfl (x_iload rfl (x_csb rfl (Nat.le_of_ble_eq_true rfl) ⟨by decide, by decide⟩ (c_reqChance (fun t1 => ?_) (fun t1 t2 => xk_v (x_aload rfl (w_getr W 6 0 (t := i) (by decide) shp_0 rfl rfl hc (w_geti W 0 4 hC.lt hC.sh rfl rfl (x_iload rfl (x_iload rfl (x_iload rfl (x_cs rfl (Nat.le_of_ble_eq_true rfl) (c_waysThat (hR.n hV) hn (in0y t1 t2).1 (xnV (a := 1) (b := 20) t1).1 (in0y t1 t2).2 (xnV (a := 1) (b := 20) t1).2.2 (xk_go (x_lret rfl ?_)))))))))))))))
  · exact kk.no 0 t1 W kp_refl
  · exact kk.yes (if_pos ⟨t1, t2⟩) W kp_refl
def boX (V : VT) (b : Nat) : Nat → Nat × Int64
  | 0 => (0, kL 0)
  | a + 1 => if (boX V b a).2.toInt < (waysV (nm V) (V 1) a b).toInt then (a, waysV (nm V) (V 1) a b) else boX V b a
theorem boX_eq {V : VT} {b : Nat} (hn : nm V ≤ 12) (hb : b ≤ 20) : ∀ a, boX V b (a + 1) = (boS V b a, waysV (nm V) (V 1) (boS V b a) b)
  | 0 => by
    show (if (kL 0).toInt < (waysV (nm V) (V 1) 0 b).toInt then (0, waysV (nm V) (V 1) 0 b) else (0, kL 0)) = (0, waysV (nm V) (V 1) 0 b)
    have h1 := way_toInt (k := V 1) hn (Nat.zero_le b) hb
    have h0 : (kL 0).toInt = 0 := rfl
    split
    · rfl
    · next hh =>
      have e : waysV (nm V) (V 1) 0 b = kL 0 := by
        apply Int64.toInt_inj.mp
        omega
      rw [e]
  | a + 1 => by
    have e : boX V b (a + 1 + 1) = if (boX V b (a + 1)).2.toInt < (waysV (nm V) (V 1) (a + 1) b).toInt then (a + 1, waysV (nm V) (V 1) (a + 1) b) else boX V b (a + 1) := rfl
    rw [e, boX_eq hn hb a]
    show _ = (if (waysV (nm V) (V 1) (boS V b a) b).toInt < (waysV (nm V) (V 1) (a + 1) b).toInt then a + 1 else boS V b a, waysV (nm V) (V 1) (if (waysV (nm V) (V 1) (boS V b a) b).toInt < (waysV (nm V) (V 1) (a + 1) b).toInt then a + 1 else boS V b a) b)
    split <;> rfl
theorem x_bestOdds {y : Int32} (W : WW ad w h) (hC : isC i) (hR : CR w i V) (hV : VOK V) (hc : wr w 0 0 = i) (kk : KC ad P w [0] (bT y) (.int (bestOddsV V (tN y)))) : WP ga L xs (d + 4) 103 [.ref (ad 0), .int y] h P := by
  have hn := hV.n.2
  have eq1 : wn w i 1 = V 1 := hR.1.2.1
  refine WP.enter kX6_bestOdds (Nat.le_of_ble_eq_true rfl) (fun J hJ => ?_)
  have loop : inV y 1 20 = true → ∀ bg m, m ≤ tN y + 1 → ∀ z6 z7, J 1 [some (.ref (ad 0)), some (.int y), some (.int (kI ((boX V (tN y) m).1 : Int))), some (.long (boX V (tN y) m).2), none, some (.int (kI (m : Int))), z6, z7] [] h bg := fun hy bg => up_ind (fun m hm ih z6 z7 => ?_)
  · refine hJ 0 _ _ rfl _ _ _ _ (x_iload rfl (x_sipush (x_sipush (x_csb rfl (Nat.le_of_ble_eq_true rfl) ⟨by decide, by decide⟩ (c_reqWithin rfl rfl (by omega) (fun t1 => ?_) (fun t1 => xk_v (x_sipush (x_istore rfl (x_ldc2 (x_lstore rfl (x_sipush (x_istore rfl (x_goto (?_))))))))))))))
    · exact kk.no 0 (if_neg (by rw [t1]; decide)) W kp_refl
    · exact loop t1 _ 0 (Nat.zero_le _) _ _
  have xn := xnV (a := 1) (b := 20) hy
  refine hJ 1 _ _ rfl _ _ _ _ (x_iload rfl (x_iload rfl (x_br2 (fun q1 => have q1 := gt_y xn.1 (by omega) q1; hJ 3 _ _ rfl _ _ _ _ (x_iload rfl (x_iret (nrwI _) ?_))) (fun q1 => have q1 := gt_n xn.1 (by omega) q1; x_aload rfl (w_getr W 6 0 (t := i) (by decide) shp_0 rfl rfl hc (w_geti W 0 4 hC.lt hC.sh rfl rfl (x_aload rfl (w_getr W 6 0 (t := i) (by decide) shp_0 rfl rfl hc (w_geti W 0 1 hC.lt hC.sh rfl rfl (x_iload rfl (x_iload rfl (x_cs rfl (Nat.le_of_ble_eq_true rfl) (c_waysThat (hR.n hV) hn rfl xn.1 (by omega) (by omega) (xk_go (x_lstore rfl (x_lload rfl (x_lload rfl (x_lcmp (x_br (fun q2 => have q2 := cy_le q2; hJ 2 _ _ rfl _ _ _ _ (x_iinc rfl rfl (x_goto (?_)))) (fun q2 => have q2 := cn_le q2; x_iload rfl (x_istore rfl (x_lload rfl (x_lstore rfl (x_goto (hJ 2 _ _ rfl _ _ _ _ (x_iinc rfl rfl (x_goto (?_))))))))))))))))))))))))))))
  · have e : m = tN y + 1 := by omega
    subst e
    rw [boX_eq hn xn.2.2]
    exact kk.yes (if_pos hy) W kp_refl
  · rw [eq1] at q2 ⊢
    rw [← Int32.not_lt, lg_gt] at q2
    have es : boX V (tN y) (m + 1) = boX V (tN y) m := if_neg q2
    refine J_c (ih (by omega) (some (.long (waysV (nm V) (V 1) m (tN y)))) none) ?_
    rw [es]
    simp only [sI, kN_succ]
  · rw [eq1] at q2 ⊢
    rw [lg_gt] at q2
    have es : boX V (tN y) (m + 1) = (m, waysV (nm V) (V 1) m (tN y)) := if_pos q2
    refine J_c (ih (by omega) (some (.long (waysV (nm V) (V 1) m (tN y)))) none) ?_
    rw [es]
    simp only [sI, kN_succ]
end W1
