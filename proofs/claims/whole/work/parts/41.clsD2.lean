/-! ===== the class: what was, further ===== -/
theorem inV_btw {x : Int32} {a b : Int} (h : inV x a b = true) : btw x a b := by
  unfold inV at h
  have h := of_decide_eq_true h
  exact h
theorem din_eq {V : VT} {m : Nat} : dinV V m = sm (fun j => bI (hb (vS V j) m && meetsV V (vS V j))) (wk V) := rfl
theorem pay_sum {V : VT} {m : Nat} : sm (fun j => payV V (vS V j) m) (wk V) = dinV V m * V 2 - sm (fun j => bI (hb (vS V j) m)) (wk V) * vC V m := by
  unfold dinV
  generalize wk V = n
  induction n with
  | zero =>
    show kI 0 = kI 0 * V 2 - kI 0 * vC V m
    rw [kI_zero]
    grind
  | succ n ih =>
    unfold sm
    rw [ih]
    unfold payV bI
    by_cases h1 : hb (vS V n) m = true
    · by_cases h2 : meetsV V (vS V n) = true
      · simp only [h1, h2, if_true, Bool.and_self]
        grind
      · simp only [h1, h2, if_true, kI_zero]
        simp
        grind
    · simp only [h1, kI_zero]
      simp
section X6
variable {ga : Nat → Nat} {L : Nat} {xs : Nat → Int32} {d : Nat} {h : ac_H} {P : ac_P} {ad : Nat → Nat} {w : Wst} {i : Nat} {V : VT}
theorem x_friends (W : WW ad w h) (hC : isC i) (hR : CR w i V) (hV : VOK V) (hc : wr w 0 0 = i) (kk : KC ad P w [] 0 (.int (friendsV V))) : WP ga L xs (d + 2) 114 [.ref (ad 0)] h P := by
  have hn := hV.n.2
  have hw := hV.w.2
  refine WP.enter kX6_friends (Nat.le_of_ble_eq_true rfl) (fun J hJ => ?_)
  have inner : ∀ a, a < nm V → (∀ z z2, J 1 [some (.ref (ad 0)), some (.int (fo (frO V) (kI (-1), kI 0) (a + 1)).1), some (.int (fo (frO V) (kI (-1), kI 0) (a + 1)).2), some (.int (kI ((a + 1 : Nat) : Int))), z, z2] [] h (0, 0)) → ∀ b, b ≤ nm V → a < b → ∀ z, J 2 [some (.ref (ad 0)), some (.int (fo (frS V a) (fo (frO V) (kI (-1), kI 0) a) b).1), some (.int (fo (frS V a) (fo (frO V) (kI (-1), kI 0) a) b).2), some (.int (kI (a : Int))), some (.int (kI (b : Int))), z] [] h (0, 0) := fun a ha hJ2 => up_ind (fun b hb9 ih hab z => ?_)
  · have loop : ∀ a, a ≤ nm V → ∀ z z2, J 1 [some (.ref (ad 0)), some (.int (fo (frO V) (kI (-1), kI 0) a).1), some (.int (fo (frO V) (kI (-1), kI 0) a).2), some (.int (kI (a : Int))), z, z2] [] h (0, 0) := up_ind (fun a ha ih z z2 => ?_)
    · refine hJ 0 _ _ rfl _ _ _ _ (x_sipush (x_istore rfl (x_sipush (x_istore rfl (x_sipush (x_istore rfl (x_goto (?_))))))))
      exact loop 0 (Nat.zero_le _) _ _
    refine hJ 1 _ _ rfl _ _ _ _ (x_iload rfl (x_aload rfl (w_getr W 6 0 (t := i) (by decide) shp_0 rfl rfl hc (w_geti W 0 4 hC.lt hC.sh rfl rfl (x_br2 (fun q1 => have q1 := ge_y (hR.n hV) (by omega) q1; hJ 5 _ _ rfl _ _ _ _ (x_iload rfl (x_iret (nrwI _) ?_))) (fun q1 => have q1 := ge_n (hR.n hV) (by omega) q1; x_iload rfl (x_sipush (x_iadd (x_istore rfl (x_goto (?_)))))))))))
    · have e : a = nm V := by omega
      subst e
      exact kk.yes rfl W kp_refl
    · have h9 := inner a q1 (fun z z2 => ih q1 z z2) (a + 1) q1 (by omega) z2
      rw [fr_skip _ (Nat.le_refl _)] at h9
      exact J_c h9 (by simp only [sI, kN_succ])
  have es : fo (frS V a) (fo (frO V) (kI (-1), kI 0) a) (b + 1) = frS V a b (fo (frS V a) (fo (frO V) (kI (-1), kI 0) a) b) := rfl
  have ew : b < nm V → wksV V (b1 a ||| b1 b) = bothV V a b := fun h9 => wks_both (by omega) (by omega)
  refine hJ 2 _ _ rfl _ _ _ _ (x_iload rfl (x_aload rfl (w_getr W 6 0 (t := i) (by decide) shp_0 rfl rfl hc (w_geti W 0 4 hC.lt hC.sh rfl rfl (x_br2 (fun q1 => have q1 := ge_y (hR.n hV) (by omega) q1; hJ 4 _ _ rfl _ _ _ _ (x_iinc rfl rfl (x_goto (?_)))) (fun q1 => have q1 := ge_n (hR.n hV) (by omega) q1; x_aload rfl (w_getr W 6 0 (t := i) (by decide) shp_0 rfl rfl hc (x_sipush (x_iload rfl (x_shl1 (by omega) (x_sipush (x_iload rfl (x_shl1 (by omega) (x_ior (x_cv rfl (Nat.le_of_ble_eq_true rfl) (isO_W W hC.lt hC.sh) (c_weeksOf W hC hR hV (xk_go (x_istore rfl (x_iload rfl (x_iload rfl (x_br2 (fun q2 => have q2 := cy_le q2; hJ 3 _ _ rfl _ _ _ _ (x_iinc rfl rfl (x_goto (?_)))) (fun q2 => have q2 := cn_le q2; x_sipush (x_iload rfl (x_imul (x_iload rfl (x_iadd (x_istore rfl (x_iload rfl (x_istore rfl (x_goto (hJ 3 _ _ rfl _ _ _ _ (x_iinc rfl rfl (x_goto (?_))))))))))))))))))))))))))))))))))
  · have e : b = nm V := by omega
    subst e
    exact J_c (hJ2 (some (.int (kI (nm V : Int)))) z) (by simp only [sI, kN_succ]; rfl)
  · rw [ew q1] at q2
    have e : frS V a b (fo (frS V a) (fo (frO V) (kI (-1), kI 0) a) b) = fo (frS V a) (fo (frO V) (kI (-1), kI 0) a) b := if_neg (fun z => absurd z.2 (Int32.not_lt.mpr q2))
    refine J_c (ih q1 (by omega) (some (.int (bothV V a b)))) ?_
    rw [es, e]
    simp only [sI, kN_succ, ew q1]
  · rw [ew q1] at q2
    have e : frS V a b (fo (frS V a) (fo (frO V) (kI (-1), kI 0) a) b) = (kI 100 * kI (a : Int) + kI (b : Int), bothV V a b) := if_pos ⟨hab, q2⟩
    refine J_c (ih q1 (by omega) (some (.int (bothV V a b)))) ?_
    rw [es, e]
    simp only [sI, kN_succ, ew q1]
theorem x_streak {x : Int32} (W : WW ad w h) (hC : isC i) (hR : CR w i V) (hV : VOK V) (hc : wr w 0 0 = i) (kk : KC ad P w [0] (whatT x) (.int (streakV V x))) : WP ga L xs (d + 3) 111 [.ref (ad 0), .int x] h P := by
  have hn := hV.n.2
  have hw := hV.w.2
  refine WP.enter kX6_streak (Nat.le_of_ble_eq_true rfl) (fun J hJ => ?_)
  have loop : inV x 0 1 = true → ∀ bg m, m ≤ wk V → J 1 [some (.ref (ad 0)), some (.int x), some (.int (stk V m).1), some (.int (stk V m).2.1), some (.int (stk V m).2.2), some (.int (kI (m : Int)))] [] h bg := fun hx bg => up_ind (fun m hm ih => ?_)
  · refine hJ 0 _ _ rfl _ _ _ _ (x_iload rfl (x_sipush (x_sipush (x_csb rfl (Nat.le_of_ble_eq_true rfl) ⟨by decide, by decide⟩ (c_reqWithin rfl rfl (by omega) (fun t3 => ?_) (fun t3 => xk_v (x_sipush (x_istore rfl (x_sipush (x_istore rfl (x_sipush (x_istore rfl (x_sipush (x_istore rfl (x_goto (?_))))))))))))))))
    · exact kk.no 0 (whatT1 t3) W kp_refl
    · exact loop t3 _ 0 (Nat.zero_le _)
  have hs : m < wk V → sok (nm V) (wa w (i + 4) m) := fun hm => by rw [hR.2.2.1 _ hm]; exact hV.2.2 m hm
  have es : stk V (m + 1) = stkF V m (stk V m) := rfl
  refine hJ 1 _ _ rfl _ _ _ _ (x_iload rfl (x_aload rfl (w_getr W 6 0 (t := i) (by decide) shp_0 rfl rfl hc (w_geti W 0 6 hC.lt hC.sh rfl rfl (x_br2 (fun q1 => have q1 := ge_y (hR.w hV) (by omega) q1; hJ 5 _ _ rfl _ _ _ _ (x_iload rfl (x_br (fun q2 => have q2 := cy_ne q2; hJ 6 _ _ rfl _ _ _ _ (x_iload rfl (x_goto (hJ 7 _ _ rfl _ _ _ _ (x_iret (nrwI _) ?_))))) (fun q2 => have q2 := cn_ne q2; x_iload rfl (x_goto (hJ 7 _ _ rfl _ _ _ _ (x_iret (nrwI _) ?_))))))) (fun q1 => have q1 := ge_n (hR.w hV) (by omega) q1; x_aload rfl (w_getr W 6 0 (t := i) (by decide) shp_0 rfl rfl hc (x_aload rfl (w_getr W 6 0 (t := i) (by decide) shp_0 rfl rfl hc (w_getr W 0 13 (t := i + 4) hC.lt hC.sh rfl rfl (hC.rf4 _) (x_iload rfl (w_iald W _ hC.lt4 hC.sh4 rfl (by omega) (by decide) (x_cv rfl (Nat.le_of_ble_eq_true rfl) (isO_W W hC.lt hC.sh) (c_meets W hC hR (hs q1) (xk_go (x_br (fun q3 => have q3 := bI_eq0.mp q3; hJ 2 _ _ rfl _ _ _ _ (x_sipush (x_goto (hJ 3 _ _ rfl _ _ _ _ (x_istore rfl (x_iload rfl (x_iload rfl (x_br2 (fun q4 => have q4 := cy_le q4; hJ 4 _ _ rfl _ _ _ _ (x_iinc rfl rfl (x_goto (?_)))) (fun q4 => have q4 := cn_le q4; x_iload rfl (x_istore rfl (x_iload rfl (x_iload rfl (x_isub (x_sipush (x_iadd (x_istore rfl (x_goto (hJ 4 _ _ rfl _ _ _ _ (x_iinc rfl rfl (x_goto (?_))))))))))))))))))))) (fun q3 => have q3 := bI_ne0.mp q3; x_iload rfl (x_sipush (x_iadd (x_goto (hJ 3 _ _ rfl _ _ _ _ (x_istore rfl (x_iload rfl (x_iload rfl (x_br2 (fun q5 => have q5 := cy_le q5; hJ 4 _ _ rfl _ _ _ _ (x_iinc rfl rfl (x_goto (?_)))) (fun q5 => have q5 := cn_le q5; x_iload rfl (x_istore rfl (x_iload rfl (x_iload rfl (x_isub (x_sipush (x_iadd (x_istore rfl (x_goto (hJ 4 _ _ rfl _ _ _ _ (x_iinc rfl rfl (x_goto (?_))))))))))))))))))))))))))))))))))))))
  · have e : m = wk V := by omega
    subst e
    have e9 : streakV V x = (stk V (wk V)).2.1 := if_neg (show ¬ x = kI 0 from q2)
    rw [e9] at kk
    exact kk.yes (whatT0 hx) W kp_refl
  · have e : m = wk V := by omega
    subst e
    have e9 : streakV V x = (stk V (wk V)).1 := if_pos (show x = kI 0 from q2)
    rw [e9] at kk
    exact kk.yes (whatT0 hx) W kp_refl
  · rw [hR.2.2.1 m q1] at q3
    have e : stkF V m (stk V m) = ((stk V m).1, (stk V m).2.1, kI 0) := by
      unfold stkF
      rw [if_neg (show ¬ meetsV V (vS V m) = true by rw [q3]; decide), if_neg (show ¬ (stk V m).1 < kI 0 from Int32.not_lt.mpr q4)]
    refine J_c (ih q1) ?_
    rw [es, e]
    simp only [sI, kN_succ]
  · rw [hR.2.2.1 m q1] at q3
    have e : stkF V m (stk V m) = (kI 0, kI (m : Int) - (kI 0) + kI 1, kI 0) := by
      unfold stkF
      rw [if_neg (show ¬ meetsV V (vS V m) = true by rw [q3]; decide), if_pos (show (stk V m).1 < kI 0 from q4)]
    refine J_c (ih q1) ?_
    rw [es, e]
    simp only [sI, kN_succ]
  · rw [hR.2.2.1 m q1] at q3
    have e : stkF V m (stk V m) = ((stk V m).1, (stk V m).2.1, (stk V m).2.2 + kI 1) := by
      unfold stkF
      rw [if_pos q3, if_neg (show ¬ (stk V m).1 < (stk V m).2.2 + kI 1 from Int32.not_lt.mpr q5)]
    refine J_c (ih q1) ?_
    rw [es, e]
    simp only [sI, kN_succ]
  · rw [hR.2.2.1 m q1] at q3
    have e : stkF V m (stk V m) = ((stk V m).2.2 + kI 1, kI (m : Int) - ((stk V m).2.2 + kI 1) + kI 1, (stk V m).2.2 + kI 1) := by
      unfold stkF
      rw [if_pos q3, if_pos (show (stk V m).1 < (stk V m).2.2 + kI 1 from q5)]
    refine J_c (ih q1) ?_
    rw [es, e]
    simp only [sI, kN_succ]
theorem pc_btw (s : Int32) : btw (kI (pc s : Int)) (-1000) 1000 := by
  have := pc_le s
  unfold btw
  rw [kN_toInt (by omega)]
  omega
theorem cnt_sum_le {V : VT} : ∀ u, u ≤ 60 → ∃ S : Nat, comersV V u = kI (S : Int) ∧ S ≤ 12 * u
  | 0, _ => ⟨0, rfl, by omega⟩
  | u + 1, h => by
    obtain ⟨S, h1, h2⟩ := cnt_sum_le (V := V) u (by omega)
    have := pc_le (vS V u)
    refine ⟨S + pc (vS V u), ?_, by omega⟩
    show comersV V u + kI (pc (vS V u) : Int) = _
    rw [h1, kI_add]
    rfl
theorem most_btw {V : VT} {u : Nat} : ∀ m, m ≤ 13 → btw (fo (mostF V u) (kI 0, kI 0) m).1 (-1000) 1000
  | 0, _ => by show btw (kI 0) _ _; unfold btw; decide
  | m + 1, h => by
    show btw (mostF V u m (fo (mostF V u) (kI 0, kI 0) m)).1 _ _
    unfold mostF
    split
    · show btw (kI (m : Int)) _ _
      unfold btw
      rw [kN_toInt (by omega)]
      omega
    · exact most_btw m (by omega)
theorem cook_btw {V : VT} {c : Int32} {u : Nat} (hV : VOK V) (hu : u ≤ wk V) (hu1 : 1 ≤ u) : btw (cookV V c u) (-1000) 1000 := by
  have hw := hV.w.2
  have hn := hV.n.2
  unfold cookV
  rw [if_neg (by omega)]
  split
  · exact pc_btw _
  · split
    · obtain ⟨S, h1, h2⟩ := cnt_sum_le (V := V) u (by omega)
      rw [h1, kN_div (by omega) (by omega)]
      have : S / u ≤ S := Nat.div_le_self _ _
      generalize S / u = q9 at *
      unfold btw
      rw [kN_toInt (by omega)]
      omega
    · split
      · exact most_btw _ (by omega)
      · have := hV.1.2.1
        unfold btw at this ⊢
        omega
theorem x_cook {c : Int32} (W : WW ad w h) (hC : isC i) (hR : CR w i V) (hV : VOK V) (hc : wr w 0 0 = i) (kk : KC ad P w [0] (cookT c) (.int (cookSV V c))) : WP ga L xs (d + 5) 116 [.ref (ad 0), .int c] h P := by
  have hn := hV.n.2
  have hw := hV.w.2
  unfold cookT at kk
  refine WP.enter kX6_cook (Nat.le_of_ble_eq_true rfl) (fun J hJ => ?_)
  have loop : inV c 0 3 = true → ∀ bg m, m ≤ wk V - 1 → J 1 [some (.ref (ad 0)), some (.int c), some (.int (sm (fun j => iabs (kI (pc (vS V (j + 1)) : Int) - cookV V c (j + 1))) m)), some (.int (kI ((m + 1 : Nat) : Int)))] [] h bg := fun hcb bg => up_ind (fun m hm ih => ?_)
  · refine hJ 0 _ _ rfl _ _ _ _ (x_iload rfl (x_sipush (x_sipush (x_csb rfl (Nat.le_of_ble_eq_true rfl) ⟨by decide, by decide⟩ (c_reqWithin rfl rfl (by omega) (fun t3 => ?_) (fun t3 => xk_v (x_sipush (x_istore rfl (x_sipush (x_istore rfl (x_goto (?_))))))))))))
    · exact kk.no 0 (if_neg (by rw [t3]; decide)) W kp_refl
    · exact loop t3 _ 0 (Nat.zero_le _)
  have hs : m + 1 < wk V → sok (nm V) (wa w (i + 4) (m + 1)) := fun hm => by rw [hR.2.2.1 _ hm]; exact hV.2.2 _ hm
  refine hJ 1 _ _ rfl _ _ _ _ (x_iload rfl (x_aload rfl (w_getr W 6 0 (t := i) (by decide) shp_0 rfl rfl hc (w_geti W 0 6 hC.lt hC.sh rfl rfl (x_br2 (fun q1 => have q1 := ge_y (hR.w hV) (by omega) q1; hJ 2 _ _ rfl _ _ _ _ (x_iload rfl (x_iret (nrwI _) ?_))) (fun q1 => have q1 := ge_n (hR.w hV) (by omega) q1; x_iload rfl (x_aload rfl (w_getr W 6 0 (t := i) (by decide) shp_0 rfl rfl hc (x_iload rfl (x_iload rfl (x_cv rfl (Nat.le_of_ble_eq_true rfl) (isO_W W hC.lt hC.sh) (c_guessOf W hC hR hV (inV_btw hcb) rfl (Nat.le_of_lt q1) (xk_go (x_aload rfl (w_getr W 6 0 (t := i) (by decide) shp_0 rfl rfl hc (w_getr W 0 13 (t := i + 4) hC.lt hC.sh rfl rfl (hC.rf4 _) (x_iload rfl (w_iald W _ hC.lt4 hC.sh4 rfl (by omega) (by decide) (x_cs rfl (Nat.le_of_ble_eq_true rfl) (c_bitc (hs q1) (xk_go (x_isub (x_cs rfl (Nat.le_of_ble_eq_true rfl) (c_abs (xk_go (x_iadd (x_istore rfl (x_iinc rfl rfl (x_goto (?_))))))))))))))))))))))))))))))
  · have e : m = wk V - 1 := by omega
    subst e
    exact kk.yes (if_pos hcb) W kp_refl
  · refine J_c (ih (by omega)) ?_
    have e1 : iabs (cookV V c (m + 1) - kI (pc (wa w (i + 4) (m + 1)) : Int)) = iabs (kI (pc (vS V (m + 1)) : Int) - cookV V c (m + 1)) := by
      rw [hR.2.2.1 _ q1]
      exact iabs_neg (cook_btw hV (by omega) (by omega)) (pc_btw _)
    simp only [sI, sm, kN_succ, e1]
theorem x_guess {c : Int32} (W : WW ad w h) (hC : isC i) (hR : CR w i V) (hV : VOK V) (hc : wr w 0 0 = i) (kk : KC ad P w [0] (cookT c) (.int (cookV V c (wk V)))) : WP ga L xs (d + 5) 117 [.ref (ad 0), .int c] h P := by
  have hn := hV.n.2
  have hw := hV.w.2
  unfold cookT at kk
  refine WP.enter kX6_guess (Nat.le_of_ble_eq_true rfl) (fun J hJ => ?_)
  refine hJ 0 _ _ rfl _ _ _ _ (x_iload rfl (x_sipush (x_sipush (x_csb rfl (Nat.le_of_ble_eq_true rfl) ⟨by decide, by decide⟩ (c_reqWithin rfl rfl (by omega) (fun t3 => ?_) (fun t3 => xk_v (x_aload rfl (w_getr W 6 0 (t := i) (by decide) shp_0 rfl rfl hc (x_iload rfl (x_aload rfl (w_getr W 6 0 (t := i) (by decide) shp_0 rfl rfl hc (w_geti W 0 6 hC.lt hC.sh rfl rfl (x_cv rfl (Nat.le_of_ble_eq_true rfl) (isO_W W hC.lt hC.sh) (c_guessOf W hC hR hV (inV_btw t3) (hR.w hV) (Nat.le_refl _) (xk_go (x_iret (nrwI _) ?_))))))))))))))))
  · exact kk.no 0 (if_neg (by rw [t3]; decide)) W kp_refl
  · exact kk.yes (if_pos t3) W kp_refl
theorem x_member {x y : Int32} (W : WW ad w h) (hC : isC i) (hR : CR w i V) (hV : VOK V) (hc : wr w 0 0 = i) (kk : KC ad P w [1, 0] (membT V x y) (.int (memberV V (tN x) y))) : WP ga L xs (d + 4) 74 [.ref (ad 0), .int x, .int y] h P := by
  have hn := hV.n.2
  have hw := hV.w.2
  unfold membT memberV at kk
  refine WP.enter kX6_member (Nat.le_of_ble_eq_true rfl) (fun J hJ => ?_)
  have hshl : isMemV V x = true → kI 1 <<< (x &&& 31) = b1 (tN x) := fun h9 => by
    have h1 := (isMem_m h9).1
    rw [h1, shl1 _ (by have := (isMem_m h9).2; omega), ← h1]
  have e5 : ∀ h : isMemV V x = true, x = kI (tN x : Int) ∧ tN x < nm V := fun h => isMem_m h
  by_cases hy : inV y 0 6 = true
  · obtain ⟨y1, y2⟩ := in_m (b := 6) hy
    rw [if_pos hy] at kk
    have hcs : tN y = 0 ∨ tN y = 1 ∨ tN y = 2 ∨ tN y = 3 ∨ tN y = 4 ∨ tN y = 5 ∨ tN y = 6 := by omega
    rcases hcs with h9 | h9 | h9 | h9 | h9 | h9 | h9
    · have y1 : y = kI 0 := by rw [h9] at y1; exact y1
      subst y1
      refine hJ 0 _ _ rfl _ _ _ _ (x_aload rfl (x_iload rfl (x_cvb rfl (Nat.le_of_ble_eq_true rfl) (isO_W W (by decide) shp_0) ⟨by decide, by decide⟩ (c_reqMember W hC hR hV hc (fun t1 => ?_) (fun t1 => xk_v (x_iload rfl (x_ts (b := 1) rfl (hJ 1 _ _ rfl _ _ _ _ (x_aload rfl (w_getr W 6 0 (t := i) (by decide) shp_0 rfl rfl hc (w_getr W 0 10 (t := i + 1) hC.lt hC.sh rfl rfl (hC.rf1 _) (x_iload rfl (w_iald W (tN x) hC.lt1 hC.sh1 (e5 t1).1 (by have := (e5 t1).2; omega) (by decide) (x_iret (nrwI _) ?_))))))))))))))
      · exact kk.no 0 (if_neg (by rw [t1]; decide)) W kp_refl
      · rw [if_pos (show kI 0 < kI 4 by decide)] at kk
        rw [(hR.2.1 _ (e5 t1).2).1]
        have e9 : V (6 + 4 * tN x + tN (kI 0)) = vR V (tN x) := by unfold vR; first | rfl | congr 1 <;> first | omega | (show 6 + 4 * tN x + 0 = _; omega)
        rw [e9] at kk
        exact kk.yes (if_pos t1) W kp_refl
    · have y1 : y = kI 1 := by rw [h9] at y1; exact y1
      subst y1
      refine hJ 0 _ _ rfl _ _ _ _ (x_aload rfl (x_iload rfl (x_cvb rfl (Nat.le_of_ble_eq_true rfl) (isO_W W (by decide) shp_0) ⟨by decide, by decide⟩ (c_reqMember W hC hR hV hc (fun t1 => ?_) (fun t1 => xk_v (x_iload rfl (x_ts (b := 2) rfl (hJ 2 _ _ rfl _ _ _ _ (x_aload rfl (w_getr W 6 0 (t := i) (by decide) shp_0 rfl rfl hc (w_getr W 0 11 (t := i + 2) hC.lt hC.sh rfl rfl (hC.rf2 _) (x_iload rfl (w_iald W (tN x) hC.lt2 hC.sh2 (e5 t1).1 (by have := (e5 t1).2; omega) (by decide) (x_iret (nrwI _) ?_))))))))))))))
      · exact kk.no 0 (if_neg (by rw [t1]; decide)) W kp_refl
      · rw [if_pos (show kI 1 < kI 4 by decide)] at kk
        rw [(hR.2.1 _ (e5 t1).2).2.1]
        have e9 : V (6 + 4 * tN x + tN (kI 1)) = vN V (tN x) := by unfold vN; first | rfl | congr 1 <;> first | omega | (show 6 + 4 * tN x + 1 = _; omega)
        rw [e9] at kk
        exact kk.yes (if_pos t1) W kp_refl
    · have y1 : y = kI 2 := by rw [h9] at y1; exact y1
      subst y1
      refine hJ 0 _ _ rfl _ _ _ _ (x_aload rfl (x_iload rfl (x_cvb rfl (Nat.le_of_ble_eq_true rfl) (isO_W W (by decide) shp_0) ⟨by decide, by decide⟩ (c_reqMember W hC hR hV hc (fun t1 => ?_) (fun t1 => xk_v (x_iload rfl (x_ts (b := 3) rfl (hJ 3 _ _ rfl _ _ _ _ (x_aload rfl (w_getr W 6 0 (t := i) (by decide) shp_0 rfl rfl hc (w_getr W 0 12 (t := i + 3) hC.lt hC.sh rfl rfl (hC.rf3 _) (x_iload rfl (w_iald W (tN x) hC.lt3 hC.sh3 (e5 t1).1 (by have := (e5 t1).2; omega) (by decide) (x_iret (nrwI _) ?_))))))))))))))
      · exact kk.no 0 (if_neg (by rw [t1]; decide)) W kp_refl
      · rw [if_pos (show kI 2 < kI 4 by decide)] at kk
        rw [(hR.2.1 _ (e5 t1).2).2.2]
        have e9 : V (6 + 4 * tN x + tN (kI 2)) = vC V (tN x) := by unfold vC; first | rfl | congr 1 <;> first | omega | (show 6 + 4 * tN x + 2 = _; omega)
        rw [e9] at kk
        exact kk.yes (if_pos t1) W kp_refl
    · have y1 : y = kI 3 := by rw [h9] at y1; exact y1
      subst y1
      refine hJ 0 _ _ rfl _ _ _ _ (x_aload rfl (x_iload rfl (x_cvb rfl (Nat.le_of_ble_eq_true rfl) (isO_W W (by decide) shp_0) ⟨by decide, by decide⟩ (c_reqMember W hC hR hV hc (fun t1 => ?_) (fun t1 => xk_v (x_iload rfl (x_ts (b := 4) rfl (hJ 4 _ _ rfl _ _ _ _ (x_aload rfl (w_getr W 6 0 (t := i) (by decide) shp_0 rfl rfl hc (w_geti W 0 5 hC.lt hC.sh rfl rfl (x_iload rfl (x_ishr (x_sipush (x_iand (x_iret (nrwI _) ?_))))))))))))))))
      · exact kk.no 0 (if_neg (by rw [t1]; decide)) W kp_refl
      · rw [if_pos (show kI 3 < kI 4 by decide)] at kk
        have h1 := (e5 t1).1
        rw [h1, shr_and1 (by have := (e5 t1).2; omega), hR.2.2.2.1]
        have e9 : V (6 + 4 * tN x + tN (kI 3)) = vU V (tN x) := by unfold vU; congr 1; show 6 + 4 * tN x + 3 = _; omega
        have e8 : bI (decide (tN x < nm V) && decide (vU V (tN x) = 1)) = vU V (tN x) := by
          rw [decide_eq_true (e5 t1).2]
          rcases (hV.2.1 _ (e5 t1).2).2.2.2.1 with h | h <;> rw [h] <;> decide
        rw [e9, ← e8] at kk
        exact kk.yes (if_pos t1) W kp_refl
    · have y1 : y = kI 4 := by rw [h9] at y1; exact y1
      subst y1
      refine hJ 0 _ _ rfl _ _ _ _ (x_aload rfl (x_iload rfl (x_cvb rfl (Nat.le_of_ble_eq_true rfl) (isO_W W (by decide) shp_0) ⟨by decide, by decide⟩ (c_reqMember W hC hR hV hc (fun t1 => ?_) (fun t1 => xk_v (x_iload rfl (x_ts (b := 5) rfl (hJ 5 _ _ rfl _ _ _ _ (x_aload rfl (w_getr W 6 0 (t := i) (by decide) shp_0 rfl rfl hc (x_sipush (x_iload rfl (x_ishl (x_cv rfl (Nat.le_of_ble_eq_true rfl) (isO_W W hC.lt hC.sh) (c_weeksOf W hC hR hV (xk_go (x_iret (nrwI _) ?_)))))))))))))))))
      · exact kk.no 0 (if_neg (by rw [t1]; decide)) W kp_refl
      · rw [if_neg (show ¬ kI 4 < kI 4 by decide)] at kk
        rw [hshl t1, wks_b1 (by have := (e5 t1).2; omega)]
        have e8 : sm (membS V (tN x) (kI 4)) (wk V) = sm (fun j => bI (hb (vS V j) (tN x))) (wk V) := sm_congr (fun j _ => by
          unfold membS
          rw [if_neg (by decide), show decide (kI 4 = kI 4) = true from rfl, Bool.true_or, Bool.and_true])
        rw [e8] at kk
        exact kk.yes (if_pos t1) W kp_refl
    · have y1 : y = kI 5 := by rw [h9] at y1; exact y1
      subst y1
      refine hJ 0 _ _ rfl _ _ _ _ (x_aload rfl (x_iload rfl (x_cvb rfl (Nat.le_of_ble_eq_true rfl) (isO_W W (by decide) shp_0) ⟨by decide, by decide⟩ (c_reqMember W hC hR hV hc (fun t1 => ?_) (fun t1 => xk_v (x_iload rfl (x_ts (b := 6) rfl (hJ 6 _ _ rfl _ _ _ _ (x_aload rfl (w_getr W 6 0 (t := i) (by decide) shp_0 rfl rfl hc (x_iload rfl (x_cv rfl (Nat.le_of_ble_eq_true rfl) (isO_W W hC.lt hC.sh) (c_dinnersOf W hC hR hV (e5 t1).1 (e5 t1).2 (xk_go (x_iret (nrwI _) ?_)))))))))))))))
      · exact kk.no 0 (if_neg (by rw [t1]; decide)) W kp_refl
      · rw [if_neg (show ¬ kI 5 < kI 4 by decide)] at kk
        have e8 : sm (membS V (tN x) (kI 5)) (wk V) = dinV V (tN x) := sm_congr (fun j _ => by
          unfold membS
          rw [if_neg (by decide), show decide (kI 5 = kI 4) = false from by decide, Bool.false_or])
        rw [e8] at kk
        exact kk.yes (if_pos t1) W kp_refl
    · have y1 : y = kI 6 := by rw [h9] at y1; exact y1
      subst y1
      refine hJ 0 _ _ rfl _ _ _ _ (x_aload rfl (x_iload rfl (x_cvb rfl (Nat.le_of_ble_eq_true rfl) (isO_W W (by decide) shp_0) ⟨by decide, by decide⟩ (c_reqMember W hC hR hV hc (fun t1 => ?_) (fun t1 => xk_v (x_iload rfl (x_ts (b := 7) rfl (hJ 7 _ _ rfl _ _ _ _ (x_aload rfl (w_getr W 6 0 (t := i) (by decide) shp_0 rfl rfl hc (x_iload rfl (x_cv rfl (Nat.le_of_ble_eq_true rfl) (isO_W W hC.lt hC.sh) (c_dinnersOf W hC hR hV (e5 t1).1 (e5 t1).2 (xk_go (x_aload rfl (w_getr W 6 0 (t := i) (by decide) shp_0 rfl rfl hc (w_geti W 0 2 hC.lt hC.sh rfl rfl (x_imul (x_aload rfl (w_getr W 6 0 (t := i) (by decide) shp_0 rfl rfl hc (x_sipush (x_iload rfl (x_ishl (x_cv rfl (Nat.le_of_ble_eq_true rfl) (isO_W W hC.lt hC.sh) (c_weeksOf W hC hR hV (xk_go (x_aload rfl (w_getr W 6 0 (t := i) (by decide) shp_0 rfl rfl hc (w_getr W 0 12 (t := i + 3) hC.lt hC.sh rfl rfl (hC.rf3 _) (x_iload rfl (w_iald W (tN x) hC.lt3 hC.sh3 (e5 t1).1 (by have := (e5 t1).2; omega) (by decide) (x_imul (x_isub (x_iret (nrwI _) ?_))))))))))))))))))))))))))))))))))
      · exact kk.no 0 (if_neg (by rw [t1]; decide)) W kp_refl
      · rw [if_neg (show ¬ kI 6 < kI 4 by decide)] at kk
        rw [hshl t1, wks_b1 (by have := (e5 t1).2; omega), (hR.2.1 _ (e5 t1).2).2.2, hR.1.2.2.1]
        have e8 : sm (membS V (tN x) (kI 6)) (wk V) = dinV V (tN x) * V 2 - sm (fun j => bI (hb (vS V j) (tN x))) (wk V) * vC V (tN x) := by
          rw [← pay_sum]
          rfl
        rw [e8] at kk
        exact kk.yes (if_pos t1) W kp_refl
  · rw [if_neg hy] at kk
    refine hJ 0 _ _ rfl _ _ _ _ (x_aload rfl (x_iload rfl (x_cvb rfl (Nat.le_of_ble_eq_true rfl) (isO_W W (by decide) shp_0) ⟨by decide, by decide⟩ (c_reqMember W hC hR hV hc (fun t1 => ?_) (fun t1 => xk_v (x_iload rfl (x_ts (b := 8) (by unfold tsel; have hx2 : ¬ (0 ≤ y.toInt ∧ y.toInt ≤ 6) := fun z => hy (decide_eq_true z); rw [if_pos (by omega)]) (hJ 8 _ _ rfl _ _ _ _ (x_thr ⟨by decide, by decide⟩ (Nat.le_of_ble_eq_true rfl) (by decide) ?_)))))))))
    · exact kk.no 0 (if_neg (by rw [t1]; decide)) W kp_refl
    · exact kk.no 1 (if_pos t1) W kp_refl
theorem x_count {x : Int32} {tp : Nat} (W : WW ad w h) (hC : isC i) (hR : CR w i V) (hV : VOK V) (hc : wr w 0 0 = i) (ht : wn w 42 1 = kI (tp : Int)) (kk : KC ad P w [] 0 (.int (countV V tp x))) : WP ga L xs (d + 4) 123 [.ref (ad 0), .int x] h P := by
  have hn := hV.n.2
  have hw := hV.w.2
  unfold countV at kk
  refine WP.enter kX6_count (Nat.le_of_ble_eq_true rfl) (fun J hJ => ?_)
  by_cases hx : inV x 0 7 = true
  · obtain ⟨x1, x2⟩ := in_m (b := 7) hx
    have hcs : tN x = 0 ∨ tN x = 1 ∨ tN x = 2 ∨ tN x = 3 ∨ tN x = 4 ∨ tN x = 5 ∨ tN x = 6 ∨ tN x = 7 := by omega
    rcases hcs with h9 | h9 | h9 | h9 | h9 | h9 | h9 | h9 <;> rw [h9] at x1 <;> subst x1 <;> simp (decide := true) only [if_true, if_false] at kk
    · refine hJ 0 _ _ rfl _ _ _ _ (x_iload rfl (x_ts (b := 1) rfl (hJ 1 _ _ rfl _ _ _ _ (x_aload rfl (w_getr W 6 0 (t := i) (by decide) shp_0 rfl rfl hc (w_geti W 0 0 hC.lt hC.sh rfl rfl (x_iret (nrwI _) ?_)))))))
      rw [hR.1.1]
      exact kk.yes rfl W kp_refl
    · refine hJ 0 _ _ rfl _ _ _ _ (x_iload rfl (x_ts (b := 2) rfl (hJ 2 _ _ rfl _ _ _ _ (x_aload rfl (w_getr W 6 0 (t := i) (by decide) shp_0 rfl rfl hc (w_geti W 0 1 hC.lt hC.sh rfl rfl (x_iret (nrwI _) ?_)))))))
      rw [hR.1.2.1]
      exact kk.yes rfl W kp_refl
    · refine hJ 0 _ _ rfl _ _ _ _ (x_iload rfl (x_ts (b := 3) rfl (hJ 3 _ _ rfl _ _ _ _ (x_aload rfl (w_getr W 6 0 (t := i) (by decide) shp_0 rfl rfl hc (w_geti W 0 2 hC.lt hC.sh rfl rfl (x_iret (nrwI _) ?_)))))))
      rw [hR.1.2.2.1]
      exact kk.yes rfl W kp_refl
    · refine hJ 0 _ _ rfl _ _ _ _ (x_iload rfl (x_ts (b := 4) rfl (hJ 4 _ _ rfl _ _ _ _ (x_aload rfl (w_getr W 6 0 (t := i) (by decide) shp_0 rfl rfl hc (w_geti W 0 3 hC.lt hC.sh rfl rfl (x_iret (nrwI _) ?_)))))))
      rw [hR.1.2.2.2.1]
      exact kk.yes rfl W kp_refl
    · refine hJ 0 _ _ rfl _ _ _ _ (x_iload rfl (x_ts (b := 5) rfl (hJ 5 _ _ rfl _ _ _ _ (x_aload rfl (w_getr W 6 0 (t := i) (by decide) shp_0 rfl rfl hc (w_geti W 0 4 hC.lt hC.sh rfl rfl (x_iret (nrwI _) ?_)))))))
      rw [hR.1.2.2.2.2.1]
      exact kk.yes rfl W kp_refl
    · refine hJ 0 _ _ rfl _ _ _ _ (x_iload rfl (x_ts (b := 6) rfl (hJ 6 _ _ rfl _ _ _ _ (x_aload rfl (w_getr W 6 0 (t := i) (by decide) shp_0 rfl rfl hc (w_geti W 0 6 hC.lt hC.sh rfl rfl (x_iret (nrwI _) ?_)))))))
      rw [hR.1.2.2.2.2.2]
      exact kk.yes rfl W kp_refl
    · refine hJ 0 _ _ rfl _ _ _ _ (x_iload rfl (x_ts (b := 7) rfl (hJ 7 _ _ rfl _ _ _ _ (x_aload rfl (w_getr W 6 0 (t := i) (by decide) shp_0 rfl rfl hc (x_cv rfl (Nat.le_of_ble_eq_true rfl) (isO_W W hC.lt hC.sh) (c_weeksMet W hC hR hV (xk_go (x_iret (nrwI _) ?_)))))))))
      exact kk.yes rfl W kp_refl
    · refine hJ 0 _ _ rfl _ _ _ _ (x_iload rfl (x_ts (b := 8) rfl (hJ 8 _ _ rfl _ _ _ _ (x_aload rfl (w_getr W 6 3 (t := 42) (by decide) shp_0 rfl rfl rfl (w_geti W 2 1 (by decide) shp_42 rfl rfl (x_iret (nrwI _) ?_)))))))
      rw [ht]
      exact kk.yes rfl W kp_refl
  · have hne : ∀ c : Nat, c ≤ 7 → ¬ x = kI (c : Int) := fun c hc z => hx (by rw [z]; exact decide_eq_true (by rw [kN_toInt (by omega)]; omega))
    rw [if_neg (show ¬ x = kI 0 from hne 0 (by omega)), if_neg (show ¬ x = kI 1 from hne 1 (by omega)), if_neg (show ¬ x = kI 2 from hne 2 (by omega)), if_neg (show ¬ x = kI 3 from hne 3 (by omega)), if_neg (show ¬ x = kI 4 from hne 4 (by omega)), if_neg (show ¬ x = kI 5 from hne 5 (by omega)), if_neg (show ¬ x = kI 6 from hne 6 (by omega)), if_neg (show ¬ x = kI 7 from hne 7 (by omega))] at kk
    exact hJ 0 _ _ rfl _ _ _ _ (x_iload rfl (x_ts (b := 9) (by unfold tsel; have hx2 : ¬ (0 ≤ x.toInt ∧ x.toInt ≤ 7) := fun z => hx (decide_eq_true z); rw [if_pos (by omega)]) (hJ 9 _ _ rfl _ _ _ _ (x_sipush (x_iret (nrwI _) (kk.yes rfl W kp_refl))))))
end X6
