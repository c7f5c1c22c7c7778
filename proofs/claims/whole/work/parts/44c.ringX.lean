/-! ===== the ring: the class ===== -/
theorem lt0_y {k p : Nat} (h : k ≤ 100000 ∧ p ≤ 100000) (b : kI ((k : Int) - (p : Int)) < 0) : k < p := by
  rw [Int32.lt_iff_toInt_lt, kI_toInt (by omega) (by omega)] at b
  have : (0 : Int32).toInt = 0 := rfl
  omega
theorem lt0_n {k p : Nat} (h : k ≤ 100000 ∧ p ≤ 100000) (b : ¬ kI ((k : Int) - (p : Int)) < 0) : p ≤ k := by
  rw [Int32.lt_iff_toInt_lt, kI_toInt (by omega) (by omega)] at b
  have : (0 : Int32).toInt = 0 := rfl
  omega
theorem l404173 : ∀ a ∈ [40, 41], a ∈ [40, 41, 73] := by decide
theorem l73SC : ∀ a ∈ [40, 41, 73], a ∈ SC := by decide
section R1
variable {ga : Nat → Nat} {L : Nat} {xs : Nat → Int32} {d : Nat} {h : ac_H} {P : ac_P} {ad : Nat → Nat} {w : Wst} {i : Nat} {V : VT}
theorem kN_sub1 {a b : Nat} (h : b ≤ a) : kI ((a : Int) - (b : Int)) = kI ((a - b : Nat) : Int) := by
  congr 1
  omega
theorem x_ring {x R : Int32} (W : WW ad w h) (hC : isC i) (hR : CR w i V) (hV : VOK V) (hc : wr w 0 0 = i) (hRr : ringR V x R) (kk : KC ad P w [0] (whatT x) (.int R)) : WP ga L xs (d + 7) 107 [.ref (ad 0), .int x] h P := by
  have hn := hV.n.2
  have hw := hV.w.2
  have hp0 := POK.start hV
  have hr1 : 1 ≤ rhyV V := (rhy_dvd hV (nm V) (Nat.le_refl _)).2
  have hr2 : rhyV V ≤ 27720 := rhy_le hV (Nat.le_refl _)
  unfold ringR at hRr
  refine WP.enter kX6_ring (Nat.le_of_ble_eq_true rfl) (fun J hJ => ?_)
  have inner : learnerV V = false → inV x 0 1 = true → ∀ bg k, 1 ≤ k → k ≤ 400 → ∀ h' w', WW ad w' h' → kp [40, 41, 73] w w' → (∀ j, j ≤ k → wa w' 73 j = trV V j) → (∀ k', k' < k → ∀ j', j' < k' → ¬ hitV V k' j') → ((∀ j', j' < k → ¬ hitV V k j') → ∀ z, J 2 [some (.ref (ad 0)), some (.int x), some (.int (kI (rhyV V : Int))), some (.int (kI ((k + 1 : Nat) : Int))), z] [] h' bg) → ∀ t, t ≤ k / rhyV V + 1 → 1 ≤ t → (∀ t', 1 ≤ t' → t' < t → ¬ trV V (k - rhyV V * t') = trV V k) → J 3 [some (.ref (ad 0)), some (.int x), some (.int (kI (rhyV V : Int))), some (.int (kI (k : Int))), some (.int (kI ((k : Int) - ((rhyV V * t : Nat) : Int))))] [] h' bg := fun hl hx bg k hk1 hk4 h0 w0 W0 k1 htr hno7 hJ7 => up_ind (fun t ht ih ht1 hno => ?_)
  · have loop2 : learnerV V = false → inV x 0 1 = true → ∀ bg m, m ≤ 400 → ∀ h' w' z, WW ad w' h' → kp [40, 41, 73] w w' → CoR w' i V (runP V (startP V) m) false → (∀ j, j ≤ m → wa w' 73 j = trV V j) → (∀ k', k' ≤ m → ∀ j', j' < k' → ¬ hitV V k' j') → J 2 [some (.ref (ad 0)), some (.int x), some (.int (kI (rhyV V : Int))), some (.int (kI ((m + 1 : Nat) : Int))), z] [] h' bg := fun hl hx bg => up_ind (fun m hm ih h0 w0 z W0 k1 hc0 htr hno => ?_)
    · refine hJ 0 _ _ rfl _ _ _ _ (x_iload rfl (x_sipush (x_sipush (x_csb rfl (Nat.le_of_ble_eq_true rfl) ⟨by decide, by decide⟩ (c_reqWithin rfl rfl (by omega) (fun t1 => ?_) (fun t1 => xk_v (x_aload rfl (w_getr W 6 0 (t := i) (by decide) shp_0 rfl rfl hc (x_cv rfl (Nat.le_of_ble_eq_true rfl) (isO_W W hC.lt hC.sh) (c_hasLearner W hC hR hV (xk_go (x_br (fun q1 => have q1 := bI_eq0.mp q1; hJ 1 _ _ rfl _ _ _ _ (x_aload rfl (w_getr W 6 0 (t := i) (by decide) shp_0 rfl rfl hc (x_cv rfl (Nat.le_of_ble_eq_true rfl) (isO_W W hC.lt hC.sh) (c_round W hC hR hV (xk_go (x_istore rfl (x_aload rfl (w_getr W 6 4 (t := 40) (by decide) shp_0 rfl rfl rfl (x_aload rfl (w_getr W 6 0 (t := i) (by decide) shp_0 rfl rfl hc (x_cv rfl (Nat.le_of_ble_eq_true rfl) (isO_W W (by decide) shp_40) (c_start W hC hR hV (fun h1 w1 W1 e0 c0 d0 => xk_v (x_aload rfl (w_getr W1 6 10 (t := 73) (by decide) shp_0 rfl rfl rfl (x_sipush (x_aload rfl (w_getr W1 6 4 (t := 40) (by decide) shp_0 rfl rfl rfl (w_geti W1 1 2 (by decide) shp_40 rfl rfl (w_iast W1 0 (by decide) shp_73 rfl (by decide) (by decide) (fun h2 W2 => x_sipush (x_istore rfl (x_goto (?_))))))))))))))))))))))))) (fun q1 => have q1 := bI_ne0.mp q1; x_sipush (x_iret (nrwI _) ?_))))))))))))))
      · exact kk.no 0 (whatT1 t1) W kp_refl
      · refine loop2 q1 t1 _ 0 (Nat.zero_le _) _ _ _ W2 ((e0.mono l404173).trans (kp_sa (by simp))) c0 (fun j hj => ?_) (fun k' hk' j' hj' => by omega)
        have : j = 0 := by omega
        subst this
        rw [wa_self, upd_self]
        exact c0.2.2.1
      · rw [if_pos q1] at hRr
        rw [hRr] at kk
        exact kk.yes (whatT0 t1) W kp_refl
    have hR0 := hR.far k1 hC (by simp)
    have hpm := hp0.run hn m (by have : (startP V).2 = wk V := rfl; omega)
    have hlen : (runP V (startP V) m).2 = wk V + m := runP_len (V := V) (p := startP V) m
    refine hJ 2 _ _ rfl _ _ _ _ (x_iload rfl (x_sipush (x_br2 (fun q1 => have q1 := gt_y (n := 400) rfl (by omega) q1; hJ 8 _ _ rfl _ _ _ _ (x_sipush (x_iret (nrwI _) ?_))) (fun q1 => have q1 := gt_n (n := 400) rfl (by omega) q1; x_aload rfl (w_getr W0 6 10 (t := 73) (by decide) shp_0 rfl rfl rfl (x_iload rfl (x_aload rfl (w_getr W0 6 4 (t := 40) (by decide) shp_0 rfl rfl rfl (x_cv rfl (Nat.le_of_ble_eq_true rfl) (isO_W W0 (by decide) shp_40) (c_go W0 hC hR0 hV hc0 hpm (by omega) (fun h1 w1 W1 e1 c1 => xk_go (w_iast W1 (m + 1) (by decide) shp_73 rfl (by omega) (by decide) (fun h2 W2 => x_iload rfl (x_iload rfl (x_isub (x_istore rfl (x_goto (?_))))))))))))))))))
    · have e : m = 400 := by omega
      subst e
      rw [if_neg (by rw [hl]; decide)] at hRr
      rw [hRr.2 (fun k j z => hno k z.2.1 j z.1 z.2.2.1)] at kk
      exact kk.yes (whatT0 hx) W0 (k1.mono l73SC)
    · have htr2 : ∀ j, j ≤ m + 1 → wa (sa w1 73 (upd (wa w1 73) (m + 1) (nextP V (runP V (startP V) m)))) 73 j = trV V j := fun j hj => by
        rw [wa_self]
        by_cases e : j = m + 1
        · rw [e, upd_self, tr_succ]
        · rw [upd_ne e, (e1 73 (by simp)).2.2.1]
          exact htr j (by omega)
      have k19 := (k1.trans (e1.mono l404173)).trans (kp_sa (i := 73) (f := upd (wa w1 73) (m + 1) (nextP V (runP V (startP V) m))) (by simp))
      refine J_c (inner hl hx _ (m + 1) (by omega) (by omega) _ _ W2 k19 htr2 (fun k' hk' => hno k' (by omega)) (fun hno9 z => ih (by omega) _ _ z W2 k19 c1 htr2 (fun k' hk' => ?_)) 1 (Nat.le_add_left 1 _) (Nat.le_refl _) (fun t' h1' h2' => by omega)) ?_
      · by_cases e : k' = m + 1
        · rw [e]; exact hno9
        · exact hno k' (by omega)
      · simp only [sI, kI_sub, Nat.mul_one]
  have hpb : rhyV V * t ≤ k + rhyV V := by
    have h1 : rhyV V * t ≤ rhyV V * (k / rhyV V + 1) := Nat.mul_le_mul_left _ ht
    have h2 : rhyV V * (k / rhyV V) ≤ k := Nat.mul_div_le _ _
    rw [Nat.mul_add, Nat.mul_one] at h1
    omega
  have hpt : rhyV V * (t + 1) = rhyV V * t + rhyV V := rfl
  have hp1 : 1 ≤ rhyV V * t := Nat.mul_pos hr1 ht1
  have hnx : rhyV V * t ≤ k → t + 1 ≤ k / rhyV V + 1 := fun h => by
    have := (Nat.le_div_iff_mul_le (x := t) (y := k) hr1).mpr (by rw [Nat.mul_comm]; exact h)
    omega
  have hend : k < rhyV V * t → ∀ j', j' < k → ¬ hitV V k j' := fun h j' hj' z => by
    obtain ⟨t', ht'⟩ := z.2
    have h1 : 1 ≤ t' := by
      rcases Nat.eq_zero_or_pos t' with e | e
      · rw [e, Nat.mul_zero] at ht'; omega
      · exact e
    have h2 : t' < t := Nat.lt_of_mul_lt_mul_left (a := rhyV V) (by omega)
    refine hno t' h1 h2 ?_
    rw [← ht', show k - (k - j') = j' by omega]
    exact z.1
  have hhit : rhyV V * t ≤ k → trV V (k - rhyV V * t) = trV V k → RH V k (k - rhyV V * t) := fun h z => ⟨by omega, hk4, ⟨z, by rw [show k - (k - rhyV V * t) = rhyV V * t by omega]; exact Nat.dvd_mul_right _ _⟩, hno7⟩
  have hgo : rhyV V * t ≤ k → ¬ trV V (k - rhyV V * t) = trV V k → J 3 [some (.ref (ad 0)), some (.int x), some (.int (kI (rhyV V : Int))), some (.int (kI (k : Int))), some (.int (kI ((k : Int) - ((rhyV V * (t + 1) : Nat) : Int))))] [] h0 bg := fun h z => ih (hnx h) (by omega) (fun t' h1 h2 => by
    by_cases e : t' = t
    · rw [e]; exact z
    · exact hno t' h1 (by omega))
  rw [hpt] at hgo
  generalize rhyV V * t = p at *
  refine hJ 3 _ _ rfl _ _ _ _ (x_iload rfl (x_br (fun q1 => have q1 := lt0_y (by omega) q1; hJ 7 _ _ rfl _ _ _ _ (x_iinc rfl rfl (x_goto (?_)))) (fun q1 => have q1 := lt0_n (by omega) q1; x_aload rfl (w_getr W0 6 10 (t := 73) (by decide) shp_0 rfl rfl rfl (x_iload rfl (w_iald W0 (k - p) (by decide) shp_73 (kN_sub1 q1) (by omega) (by decide) (x_aload rfl (w_getr W0 6 10 (t := 73) (by decide) shp_0 rfl rfl rfl (x_iload rfl (w_iald W0 k (by decide) shp_73 rfl (by omega) (by decide) (x_br2 (fun q2 => have q2 := cy_ne q2; hJ 6 _ _ rfl _ _ _ _ (x_iload rfl (x_iload rfl (x_isub (x_istore rfl (x_goto (?_))))))) (fun q2 => have q2 := cn_ne q2; x_iload rfl (x_br (fun q3 => have q3 := cy_ne q3; hJ 4 _ _ rfl _ _ _ _ (x_iload rfl (x_goto (hJ 5 _ _ rfl _ _ _ _ (x_iret (nrwI _) ?_))))) (fun q3 => have q3 := cn_ne q3; x_iload rfl (x_iload rfl (x_isub (x_goto (hJ 5 _ _ rfl _ _ _ _ (x_iret (nrwI _) ?_)))))))))))))))))))
  · exact J_c (hJ7 (hend q1) (some (.int (kI ((k : Int) - (p : Int)))))) (by simp only [sI, kN_succ])
  · rw [htr _ (by omega), htr k (Nat.le_refl _)] at q2
    refine J_c (hgo q1 q2) ?_
    simp only [sI, kI_sub]
    have e : (k : Int) - ((p + rhyV V : Nat) : Int) = (k : Int) - (p : Int) - (rhyV V : Int) := by omega
    rw [e]
  · rw [htr _ (by omega), htr k (Nat.le_refl _)] at q2
    rw [if_neg (by rw [hl]; decide)] at hRr
    rw [hRr.1 k _ (hhit q1 q2), if_neg (show ¬ x = kI 0 from q3)] at kk
    rw [kN_sub1 q1]
    exact kk.yes (whatT0 hx) W0 (k1.mono l73SC)
  · rw [htr _ (by omega), htr k (Nat.le_refl _)] at q2
    rw [if_neg (by rw [hl]; decide)] at hRr
    rw [hRr.1 k _ (hhit q1 q2), if_pos (show x = kI 0 from q3)] at kk
    rw [kN_sub1 q1]
    exact kk.yes (whatT0 hx) W0 (k1.mono l73SC)
end R1
