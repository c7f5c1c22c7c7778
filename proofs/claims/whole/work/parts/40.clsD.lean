/-! ===== the class: what was ===== -/
theorem l4041 : ∀ a ∈ [40, 41], a ∈ SC := by decide
theorem ishl_m : ∀ m : Nat, m < 31 → (kI 1 <<< (kI (m : Int) &&& 31)) = b1 m := shl1
theorem wks_b1 {V : VT} {a : Nat} (ha : a < 31) : wksV V (b1 a) = sm (fun j => bI (hb (vS V j) a)) (wk V) := by
  unfold wksV
  exact sm_congr (fun j _ => by
    have e : (vS V j &&& b1 a = b1 a) ↔ hb (vS V j) a = true := by
      constructor
      · intro h
        have := congrArg (fun z => hb z a) h
        simp only [hb_and, hb_b1' ha, decide_true, Bool.and_true] at this
        exact this
      · intro h
        exact hb_ext (fun k _ => by
          rw [hb_and, hb_b1' ha]
          by_cases e : k = a
          · subst e; simp [h]
          · simp [e])
    by_cases h : hb (vS V j) a = true
    · rw [decide_eq_true (e.mpr h), h]
    · rw [decide_eq_false (fun z => h (e.mp z))]
      have h : hb (vS V j) a = false := by simpa using h
      rw [h])
theorem wks_both {V : VT} {a b : Nat} (ha : a < 31) (hb9 : b < 31) : wksV V (b1 a ||| b1 b) = bothV V a b := by
  unfold wksV bothV
  exact sm_congr (fun j _ => by
    have e : (vS V j &&& (b1 a ||| b1 b) = (b1 a ||| b1 b)) ↔ (hb (vS V j) a && hb (vS V j) b) = true := by
      rw [Bool.and_eq_true]
      constructor
      · intro h
        have h1 := congrArg (fun z => hb z a) h
        have h2 := congrArg (fun z => hb z b) h
        simp only [hb_and, hb_or, hb_b1' ha, hb_b1' hb9, decide_true, Bool.true_or, Bool.or_true, Bool.and_true] at h1 h2
        exact ⟨h1, h2⟩
      · rintro ⟨h1, h2⟩
        exact hb_ext (fun k _ => by
          rw [hb_and, hb_or, hb_b1' ha, hb_b1' hb9]
          by_cases e : k = a
          · subst e; simp [h1]
          · by_cases e2 : k = b
            · subst e2; simp [h2]
            · simp [e, e2])
    by_cases h : (hb (vS V j) a && hb (vS V j) b) = true
    · rw [decide_eq_true (e.mpr h), h]
    · rw [decide_eq_false (fun z => h (e.mp z))]
      have h : (hb (vS V j) a && hb (vS V j) b) = false := by simpa using h
      rw [h])
theorem stl_since {t : Nat → Int32} {F : Int32 → Int32} (hF : ∀ d, t (d + 1) = F (t d)) : ∀ k s : Nat, s ≤ k → k ≤ 6 → (∀ d, s ≤ d → d ≤ k → t d = t s) → (s = 0 ∨ ¬ t s = t (s - 1)) → k = 6 → stlN t 6 = s := by
  intro k s hs hk heq hne hk6
  subst hk6
  have e6 : t 6 = t s := heq 6 hs (Nat.le_refl _)
  have key : ∀ d, s ≤ d → d ≤ 6 → stlN t d = s := by
    intro d
    induction d with
    | zero => intro h _; have : s = 0 := by omega
              rw [this]; rfl
    | succ d ih =>
      intro h1 h2
      show (if t d = t 6 then stlN t d else d + 1) = s
      by_cases e : s ≤ d
      · rw [if_pos (by rw [heq d e (by omega), e6])]
        exact ih e (by omega)
      · have : s = d + 1 := by omega
        rcases hne with h | h
        · omega
        · rw [if_neg (fun z => h (by rw [← e6, ← z, this]; rfl)), this]
  exact key 6 hs (Nat.le_refl _)
section X6
variable {ga : Nat → Nat} {L : Nat} {xs : Nat → Int32} {d : Nat} {h : ac_H} {P : ac_P} {ad : Nat → Nat} {w : Wst} {i : Nat} {V : VT}
theorem c_reqWeek {x : Int32} (W : WW ad w h) (hC : isC i) (hR : CR w i V) (hV : VOK V) (hc : wr w 0 0 = i) (k1 : isWkV V x = false → P (.inr 1) h) (k0 : isWkV V x = true → P (.inl none) h) : WP ga L xs (d + 1) 128 [.ref (ad 0), .int x] h P := by
  have hn := hV.w.2
  have e4 : (wn w i 6).toInt = wk V := by rw [hR.w hV, kN_toInt (by omega)]
  have z0 : (0 : Int32).toInt = 0 := rfl
  refine WP.enter kX6_requireWeek (Nat.le_of_ble_eq_true rfl) (fun J hJ => ?_)
  refine hJ 0 _ _ rfl _ _ _ _ (x_iload rfl (x_br (fun q1 => have q1 := cy_lt q1; hJ 1 _ _ rfl _ _ _ _ (x_thr ⟨by decide, by decide⟩ (Nat.le_of_ble_eq_true rfl) (by decide) ?_)) (fun q1 => have q1 := cn_lt q1; x_iload rfl (x_aload rfl (w_getr W 6 0 (t := i) (by decide) shp_0 rfl rfl hc (w_geti W 0 6 hC.lt hC.sh rfl rfl (x_br2 (fun q2 => have q2 := cy_lt q2; hJ 2 _ _ rfl _ _ _ _ (x_vret rfl ?_)) (fun q2 => have q2 := cn_lt q2; x_goto (hJ 1 _ _ rfl _ _ _ _ (x_thr ⟨by decide, by decide⟩ (Nat.le_of_ble_eq_true rfl) (by decide) ?_))))))))))
  · rw [Int32.lt_iff_toInt_lt, z0] at q1
    exact k1 (decide_eq_false (by omega))
  · rw [Int32.le_iff_toInt_le, z0] at q1
    rw [Int32.lt_iff_toInt_lt, e4] at q2
    exact k0 (decide_eq_true (by omega))
  · rw [Int32.le_iff_toInt_le, z0] at q1
    rw [Int32.le_iff_toInt_le, e4] at q2
    exact k1 (decide_eq_false (by omega))
theorem x_came {x : Int32} (W : WW ad w h) (hC : isC i) (hR : CR w i V) (hV : VOK V) (hc : wr w 0 0 = i) (kk : KC ad P w [1] (cameT V x) (.int (vS V (tN x)))) : WP ga L xs (d + 2) 79 [.ref (ad 0), .int x] h P := by
  have hn := hV.n.2
  have hw := hV.w.2
  refine WP.enter kX6_came (Nat.le_of_ble_eq_true rfl) (fun J hJ => ?_)
  refine hJ 0 _ _ rfl _ _ _ _ (x_aload rfl (x_iload rfl (x_cvb rfl (Nat.le_of_ble_eq_true rfl) (isO_W W (by decide) shp_0) ⟨by decide, by decide⟩ (c_reqWeek W hC hR hV hc (fun t4 => ?_) (fun t4 => xk_v (x_aload rfl (w_getr W 6 0 (t := i) (by decide) shp_0 rfl rfl hc (w_getr W 0 13 (t := i + 4) hC.lt hC.sh rfl rfl (hC.rf4 _) (x_iload rfl (w_iald W (tN x) hC.lt4 hC.sh4 (isWk_m t4).1 (by have := (isWk_m t4).2; omega) (by decide) (x_iret (nrwI _) ?_)))))))))))
  · exact kk.no 0 (if_neg (by rw [t4]; decide)) W kp_refl
  · rw [hR.2.2.1 _ (isWk_m t4).2]
    exact kk.yes (if_pos t4) W kp_refl
theorem x_met {x : Int32} (W : WW ad w h) (hC : isC i) (hR : CR w i V) (hV : VOK V) (hc : wr w 0 0 = i) (kk : KC ad P w [1] (cameT V x) (.int (bI (meetsV V (vS V (tN x)))))) : WP ga L xs (d + 3) 80 [.ref (ad 0), .int x] h P := by
  have hn := hV.n.2
  have hw := hV.w.2
  have hs : isWkV V x = true → sok (nm V) (wa w (i + 4) (tN x)) := fun h9 => by rw [hR.2.2.1 _ (isWk_m h9).2]; exact hV.2.2 _ (isWk_m h9).2
  refine WP.enter kX6_met (Nat.le_of_ble_eq_true rfl) (fun J hJ => ?_)
  refine hJ 0 _ _ rfl _ _ _ _ (x_aload rfl (x_iload rfl (x_cvb rfl (Nat.le_of_ble_eq_true rfl) (isO_W W (by decide) shp_0) ⟨by decide, by decide⟩ (c_reqWeek W hC hR hV hc (fun t4 => ?_) (fun t4 => xk_v (x_aload rfl (w_getr W 6 0 (t := i) (by decide) shp_0 rfl rfl hc (x_aload rfl (w_getr W 6 0 (t := i) (by decide) shp_0 rfl rfl hc (w_getr W 0 13 (t := i + 4) hC.lt hC.sh rfl rfl (hC.rf4 _) (x_iload rfl (w_iald W (tN x) hC.lt4 hC.sh4 (isWk_m t4).1 (by have := (isWk_m t4).2; omega) (by decide) (x_cv rfl (Nat.le_of_ble_eq_true rfl) (isO_W W hC.lt hC.sh) (c_meets W hC hR (hs t4) (xk_go (x_iret (by first | exact nrwB _ | rfl | decide) ?_))))))))))))))))
  · exact kk.no 0 (if_neg (by rw [t4]; decide)) W kp_refl
  · rw [hR.2.2.1 _ (isWk_m t4).2]
    exact kk.yes (if_pos t4) W kp_refl
theorem x_next (W : WW ad w h) (hC : isC i) (hR : CR w i V) (hV : VOK V) (hc : wr w 0 0 = i) (kk : KC ad P w [] 0 (.int (nextP V (startP V)))) : WP ga L xs (d + 6) 81 [.ref (ad 0)] h P := by
  have hn := hV.n.2
  have hw := hV.w.2
  refine WP.enter kX6_next (Nat.le_of_ble_eq_true rfl) (fun J hJ => ?_)
  refine hJ 0 _ _ rfl _ _ _ _ (x_aload rfl (w_getr W 6 4 (t := 40) (by decide) shp_0 rfl rfl rfl (x_aload rfl (w_getr W 6 0 (t := i) (by decide) shp_0 rfl rfl hc (x_cv rfl (Nat.le_of_ble_eq_true rfl) (isO_W W (by decide) shp_40) (c_start W hC hR hV (fun h1 w1 W1 e1 c1 d1 => xk_v (x_aload rfl (w_getr W1 6 4 (t := 40) (by decide) shp_0 rfl rfl rfl (x_cv rfl (Nat.le_of_ble_eq_true rfl) (isO_W W1 (by decide) shp_40) (c_comers W1 hC (hR.far e1 hC (by simp)) hV c1 (POK.start hV) (fun h2 W2 => xk_go (x_iret (nrwI _) ?_)))))))))))))
  rw [goes_nofog]
  exact kk.yes rfl W2 ((e1.mono l4041).trans (kp_sn (by simp [SC])))
theorem x_hats {x : Int32} (W : WW ad w h) (hC : isC i) (hR : CR w i V) (hV : VOK V) (hc : wr w 0 0 = i) (kk : KC ad P w [1] (memT1 V x) (.int (kI (pc (hatsV V (nextP V (startP V)) (tN x)) : Int)))) : WP ga L xs (d + 6) 82 [.ref (ad 0), .int x] h P := by
  have hn := hV.n.2
  have hw := hV.w.2
  have hs9 : ∀ s m, m ≤ nm V → sok (nm V) (hatsV V s m) := fun s m hm => (sok.mkS (n := m) (by omega)).mono hm hn
  refine WP.enter kX6_hats (Nat.le_of_ble_eq_true rfl) (fun J hJ => ?_)
  refine hJ 0 _ _ rfl _ _ _ _ (x_aload rfl (x_iload rfl (x_cvb rfl (Nat.le_of_ble_eq_true rfl) (isO_W W (by decide) shp_0) ⟨by decide, by decide⟩ (c_reqMember W hC hR hV hc (fun t1 => ?_) (fun t1 => xk_v (x_aload rfl (w_getr W 6 4 (t := 40) (by decide) shp_0 rfl rfl rfl (x_aload rfl (w_getr W 6 0 (t := i) (by decide) shp_0 rfl rfl hc (x_cv rfl (Nat.le_of_ble_eq_true rfl) (isO_W W (by decide) shp_40) (c_start W hC hR hV (fun h1 w1 W1 e1 c1 d1 => xk_v (x_aload rfl (w_getr W1 6 0 (t := i) (by decide) shp_0 rfl rfl ((congrFun (e1 0 (by simp)).2.1 0).trans hc) (x_iload rfl (x_aload rfl (w_getr W1 6 4 (t := 40) (by decide) shp_0 rfl rfl rfl (x_cv rfl (Nat.le_of_ble_eq_true rfl) (isO_W W1 (by decide) shp_40) (c_comers W1 hC (hR.far e1 hC (by simp)) hV c1 (POK.start hV) (fun h2 W2 => xk_go (x_cv rfl (Nat.le_of_ble_eq_true rfl) (isO_W W2 hC.lt hC.sh) (c_hatsAhead W2 hC ((hR.far e1 hC (by simp)).draw hC) hV (isMem_m t1).1 (isMem_m t1).2 (xk_go (x_cs rfl (Nat.le_of_ble_eq_true rfl) (c_bitc (hs9 _ _ (Nat.le_of_lt (isMem_m t1).2)) (xk_go (x_iret (nrwI _) ?_)))))))))))))))))))))))))))
  · exact kk.no 0 (if_neg (by rw [t1]; decide)) W kp_refl
  · rw [goes_nofog]
    exact kk.yes (if_pos t1) W2 ((e1.mono l4041).trans (kp_sn (by simp [SC])))
theorem x_thought {x y : Int32} (W : WW ad w h) (hC : isC i) (hR : CR w i V) (hV : VOK V) (hc : wr w 0 0 = i) (kk : KC ad P w [1, 0] (thoughtT V x y) (.int (bI (hb (thoughtsV V (lastV V) (tN y)) (tN x))))) : WP ga L xs (d + 4) 83 [.ref (ad 0), .int x, .int y] h P := by
  have hn := hV.n.2
  have hw := hV.w.2
  have hl : sok (nm V) (lastV V) := (POK.start hV).last hn
  unfold thoughtT at kk
  refine WP.enter kX6_thought (Nat.le_of_ble_eq_true rfl) (fun J hJ => ?_)
  refine hJ 0 _ _ rfl _ _ _ _ (x_aload rfl (x_iload rfl (x_cvb rfl (Nat.le_of_ble_eq_true rfl) (isO_W W (by decide) shp_0) ⟨by decide, by decide⟩ (c_reqMember W hC hR hV hc (fun t1 => ?_) (fun t1 => xk_v (x_iload rfl (x_sipush (x_sipush (x_csb rfl (Nat.le_of_ble_eq_true rfl) ⟨by decide, by decide⟩ (c_reqWithin rfl rfl (by omega) (fun t3 => ?_) (fun t3 => xk_v (x_aload rfl (w_getr W 6 0 (t := i) (by decide) shp_0 rfl rfl hc (x_aload rfl (w_getr W 6 0 (t := i) (by decide) shp_0 rfl rfl hc (x_aload rfl (w_getr W 6 0 (t := i) (by decide) shp_0 rfl rfl hc (x_cv rfl (Nat.le_of_ble_eq_true rfl) (isO_W W hC.lt hC.sh) (c_lastSet W hC hR hV (xk_go (x_iload rfl (x_cv rfl (Nat.le_of_ble_eq_true rfl) (isO_W W hC.lt hC.sh) (c_thoughts W hC hR hV hl (in_m (b := 6) t3).1 (by have := (in_m (b := 6) t3).2; omega) (xk_go (x_iload rfl (x_cv rfl (Nat.le_of_ble_eq_true rfl) (isO_W W hC.lt hC.sh) (c_has (isMem_m t1).1 (by have := (isMem_m t1).2; omega) (xk_go (x_iret (by first | exact nrwB _ | rfl | decide) ?_)))))))))))))))))))))))))))))
  · exact kk.no 0 (by rw [if_neg (by rw [t1]; decide)]) W kp_refl
  · exact kk.no 1 (by rw [if_pos t1, if_neg (by rw [t3]; decide)]) W kp_refl
  · exact kk.yes (by rw [if_pos t1, if_pos t3]) W kp_refl
theorem x_settled (W : WW ad w h) (hC : isC i) (hR : CR w i V) (hV : VOK V) (hc : wr w 0 0 = i) (kk : KC ad P w [] 0 (.int (stlV V))) : WP ga L xs (d + 4) 84 [.ref (ad 0)] h P := by
  have hn := hV.n.2
  have hw := hV.w.2
  have hl : sok (nm V) (lastV V) := (POK.start hV).last hn
  unfold stlV at kk
  refine WP.enter kX6_settled (Nat.le_of_ble_eq_true rfl) (fun J hJ => ?_)
  have loop : ∀ m, m ≤ 6 → ∀ s : Nat, s ≤ m → (∀ d, s ≤ d → d ≤ m → thoughtsV V (lastV V) d = thoughtsV V (lastV V) s) → (s = 0 ∨ ¬ thoughtsV V (lastV V) s = thoughtsV V (lastV V) (s - 1)) → ∀ z, J 1 [some (.ref (ad 0)), some (.int (thoughtsV V (lastV V) m)), some (.int (kI (s : Int))), some (.int (kI ((m + 1 : Nat) : Int))), z] [] h (0, 0) := up_ind (fun m hm ih s hs heq hne z => ?_)
  · exact hJ 0 _ _ rfl _ _ _ _ (x_aload rfl (w_getr W 6 0 (t := i) (by decide) shp_0 rfl rfl hc (x_cv rfl (Nat.le_of_ble_eq_true rfl) (isO_W W hC.lt hC.sh) (c_lastSet W hC hR hV (xk_go (x_istore rfl (x_sipush (x_istore rfl (x_sipush (x_istore rfl (x_goto (loop 0 (Nat.zero_le _) 0 (Nat.le_refl _) (fun d h1 h2 => by rw [show d = 0 by omega]) (Or.inl rfl) _))))))))))))
  have hst := hl.thoughts hV m
  have t6 : kI (s : Int) = kI 6 ↔ s = 6 := kN_inj (a := s) (b := 6) (by omega) (by omega)
  have e1 : thoughtsV V (thoughtsV V (lastV V) m) 1 = thoughtsV V (lastV V) (m + 1) := rfl
  refine hJ 1 _ _ rfl _ _ _ _ (x_iload rfl (x_sipush (x_br2 (fun q1 => have q1 := gt_y (n := 6) rfl (by omega) q1; hJ 3 _ _ rfl _ _ _ _ (x_iload rfl (x_sipush (x_br2 (fun q2 => have q2 := cy_ne q2; hJ 4 _ _ rfl _ _ _ _ (x_iload rfl (x_goto (hJ 5 _ _ rfl _ _ _ _ (x_iret (nrwI _) ?_))))) (fun q2 => have q2 := cn_ne q2; x_sipush (x_goto (hJ 5 _ _ rfl _ _ _ _ (x_iret (nrwI _) ?_)))))))) (fun q1 => have q1 := gt_n (n := 6) rfl (by omega) q1; x_aload rfl (w_getr W 6 0 (t := i) (by decide) shp_0 rfl rfl hc (x_iload rfl (x_sipush (x_cv rfl (Nat.le_of_ble_eq_true rfl) (isO_W W hC.lt hC.sh) (c_thoughts W hC hR hV hst (t := 1) rfl (by omega) (xk_go (x_istore rfl (x_iload rfl (x_iload rfl (x_br2 (fun q3 => have q3 := cy_eq q3; hJ 2 _ _ rfl _ _ _ _ (x_iload rfl (x_istore rfl (x_iinc rfl rfl (x_goto (?_)))))) (fun q3 => have q3 := cn_eq q3; x_iload rfl (x_istore rfl (x_goto (hJ 2 _ _ rfl _ _ _ _ (x_iload rfl (x_istore rfl (x_iinc rfl rfl (x_goto (?_)))))))))))))))))))))))
  · have e9 := stl_since (t := thoughtsV V (lastV V)) (F := think1 V) (fun d => rfl) m s hs hm heq hne (by omega)
    rw [e9, if_neg (fun z => q2 (t6.mpr z))] at kk
    exact kk.yes rfl W kp_refl
  · have e9 := stl_since (t := thoughtsV V (lastV V)) (F := think1 V) (fun d => rfl) m s hs hm heq hne (by omega)
    rw [e9, if_pos (t6.mp q2)] at kk
    exact kk.yes rfl W kp_refl
  · rw [e1] at q3
    refine J_c (ih (by omega) s (by omega) (fun d h1 h2 => ?_) hne (some (.int (thoughtsV V (lastV V) (m + 1))))) ?_
    · by_cases ed : d = m + 1
      · rw [ed, q3]
        exact heq m hs (Nat.le_refl _)
      · exact heq d h1 (by omega)
    · simp only [sI, kN_succ, e1]
  · rw [e1] at q3
    refine J_c (ih (by omega) (m + 1) (Nat.le_refl _) (fun d h1 h2 => ?_) (Or.inr q3) (some (.int (thoughtsV V (lastV V) (m + 1))))) ?_
    · have : d = m + 1 := by omega
      rw [this]
    · simp only [sI, kN_succ, e1]
theorem x_tally {x : Int32} (W : WW ad w h) (hC : isC i) (hR : CR w i V) (hV : VOK V) (hc : wr w 0 0 = i) (kk : KC ad P w [] 0 (.int (justV V x (wk V)))) : WP ga L xs (d + 3) 112 [.ref (ad 0), .int x] h P := by
  have hn := hV.n.2
  have hw := hV.w.2
  refine WP.enter kX6_tally (Nat.le_of_ble_eq_true rfl) (fun J hJ => ?_)
  exact hJ 0 _ _ rfl _ _ _ _ (x_aload rfl (w_getr W 6 0 (t := i) (by decide) shp_0 rfl rfl hc (x_iload rfl (x_aload rfl (w_getr W 6 0 (t := i) (by decide) shp_0 rfl rfl hc (w_geti W 0 6 hC.lt hC.sh rfl rfl (x_cv rfl (Nat.le_of_ble_eq_true rfl) (isO_W W hC.lt hC.sh) (c_weeksOfJust W hC hR hV (hR.w hV) (Nat.le_refl _) (xk_go (x_iret (nrwI _) (kk.yes rfl W kp_refl)))))))))))
theorem x_together {x y : Int32} (W : WW ad w h) (hC : isC i) (hR : CR w i V) (hV : VOK V) (hc : wr w 0 0 = i) (kk : KC ad P w [1] (togT V x y) (.int (bothV V (tN x) (tN y)))) : WP ga L xs (d + 2) 113 [.ref (ad 0), .int x, .int y] h P := by
  have hn := hV.n.2
  have hw := hV.w.2
  refine WP.enter kX6_together (Nat.le_of_ble_eq_true rfl) (fun J hJ => ?_)
  refine hJ 0 _ _ rfl _ _ _ _ (x_aload rfl (x_iload rfl (x_cvb rfl (Nat.le_of_ble_eq_true rfl) (isO_W W (by decide) shp_0) ⟨by decide, by decide⟩ (c_reqMember W hC hR hV hc (fun t1 => ?_) (fun t1 => xk_v (x_aload rfl (x_iload rfl (x_cvb rfl (Nat.le_of_ble_eq_true rfl) (isO_W W (by decide) shp_0) ⟨by decide, by decide⟩ (c_reqMember W hC hR hV hc (fun t5 => ?_) (fun t5 => xk_v (x_aload rfl (w_getr W 6 0 (t := i) (by decide) shp_0 rfl rfl hc (x_sipush (x_iload rfl (x_ishl (x_sipush (x_iload rfl (x_ishl (x_ior (x_cv rfl (Nat.le_of_ble_eq_true rfl) (isO_W W hC.lt hC.sh) (c_weeksOf W hC hR hV (xk_go (x_iret (nrwI _) ?_)))))))))))))))))))))))
  · exact kk.no 0 (if_neg (fun z => by rw [z.1] at t1; cases t1)) W kp_refl
  · exact kk.no 0 (if_neg (fun z => by rw [z.2] at t5; cases t5)) W kp_refl
  · obtain ⟨x1, x2⟩ := isMem_m t1
    obtain ⟨y1, y2⟩ := isMem_m t5
    have e : (kI 1 <<< (x &&& 31)) ||| (kI 1 <<< (y &&& 31)) = b1 (tN x) ||| b1 (tN y) := by
      rw [x1, y1, shl1 _ (by omega), shl1 _ (by omega), ← x1, ← y1]
    rw [e, wks_both (by omega) (by omega)]
    exact kk.yes (if_pos ⟨t1, t5⟩) W kp_refl
end X6
