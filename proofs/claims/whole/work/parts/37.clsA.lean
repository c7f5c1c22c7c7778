/-! ===== the class: questions at rest ===== -/
section X6
variable {ga : Nat → Nat} {L : Nat} {xs : Nat → Int32} {d : Nat} {h : ac_H} {P : ac_P} {ad : Nat → Nat} {w : Wst} {i : Nat} {V : VT}
theorem c_isStrong {s : Int32} (W : WW ad w h) (hC : isC i) (hR : CR w i V) (hV : VOK V) (hs : sok (nm V) s) (hP : P (.inl (some (.int (bI (strongV V s))))) h) : WP ga L xs (d + 3) 17 [.ref (ad i), .int s] h P := by
  have hn := hV.n.2
  obtain ⟨q, hq, x1, x2⟩ := hV.q
  have eq : wn w i 1 = kI (q : Int) := hR.1.2.1.trans hq
  have hp := pc_le s
  have hu := hR.2.2.2.2.1
  have hst := strong_eq (u := wn w i 7) hV hs hq x2 hu
  have hs2 : sok (nm V) (wn w i 7 &&& (s ^^^ kI (-1))) := ⟨hn, fun j hj => by rw [hb_and, hu]; simp; intro h1; omega⟩
  have hp2 := pc_le (wn w i 7 &&& (s ^^^ kI (-1)))
  have e2 : kI (pc s : Int) + kI 2 = kI ((pc s + 2 : Nat) : Int) := by rw [kI_add]; rfl
  refine WP.enter kX0_isStrong (Nat.le_of_ble_eq_true rfl) (fun J hJ => ?_)
  refine hJ 0 _ _ rfl _ _ _ _ (x_aload rfl (x_iload rfl (x_cv rfl (Nat.le_of_ble_eq_true rfl) (isO_W W hC.lt hC.sh) (c_eager W hC hR hV hs (fun e he => xk_go (x_br (fun q1 => have q1 := cy_eq q1; hJ 1 _ _ rfl _ _ _ _ (x_iload rfl (x_cs rfl (Nat.le_of_ble_eq_true rfl) (c_bitc hs (xk_go (x_sipush (x_iadd (x_aload rfl (w_geti W 0 1 hC.lt hC.sh rfl rfl (x_br2 (fun q2 => have q2 := cy_ne q2; hJ 2 _ _ rfl _ _ _ _ (x_sipush (x_goto (hJ 3 _ _ rfl _ _ _ _ (x_istore rfl (x_iload rfl (x_br (fun q3 => hJ 4 _ _ rfl _ _ _ _ (x_sipush (x_goto (hJ 6 _ _ rfl _ _ _ _ (x_iret (by first | exact nrwB _ | rfl | decide) ?_))))) (fun q3 => absurd (show kI (0) = 0 by decide) q3)))))))) (fun q2 => have q2 := cn_ne q2; x_sipush (x_goto (hJ 3 _ _ rfl _ _ _ _ (x_istore rfl (x_iload rfl (x_br (fun q4 => absurd (show kI (1) = 0 from q4) (by decide)) (fun q4 => x_aload rfl (w_geti W 0 7 hC.lt hC.sh rfl rfl (x_iload rfl (x_sipush (x_ixor (x_iand (x_cs rfl (Nat.le_of_ble_eq_true rfl) (c_bitc hs2 (xk_go (x_sipush (x_br2 (fun q5 => have q5 := cy_ge q5; hJ 5 _ _ rfl _ _ _ _ (x_sipush (x_goto (hJ 6 _ _ rfl _ _ _ _ (x_iret (by first | exact nrwB _ | rfl | decide) ?_))))) (fun q5 => have q5 := cn_ge q5; x_goto (hJ 4 _ _ rfl _ _ _ _ (x_sipush (x_goto (hJ 6 _ _ rfl _ _ _ _ (x_iret (by first | exact nrwB _ | rfl | decide) ?_))))))))))))))))))))))))))))))))) (fun q1 => have q1 := cn_eq q1; x_sipush (x_iret (by first | exact nrwB _ | rfl | decide) ?_))))))))
  · rw [e2, eq, kN_inj (by omega) (by omega)] at q2
    rw [hst ((eager_zero he).mp q1), decide_eq_false q2] at hP
    exact hP
  · rw [e2, eq, kN_inj (by omega) (by omega)] at q2
    have q5 := (kN_le (a := 2) (by omega) (by omega)).mp q5
    rw [hst ((eager_zero he).mp q1), decide_eq_true q2, decide_eq_false (show ¬ pc (wn w i 7 &&& (s ^^^ kI (-1))) < 2 by omega)] at hP
    exact hP
  · rw [e2, eq, kN_inj (by omega) (by omega)] at q2
    have q5 := (kN_lt (b := 2) (by omega) (by omega)).mp q5
    rw [hst ((eager_zero he).mp q1), decide_eq_true q2, decide_eq_true (show pc (wn w i 7 &&& (s ^^^ kI (-1))) < 2 by omega)] at hP
    exact hP
  · have e9 : restV V s = false := by
      cases h9 : restV V s
      · rfl
      · exact absurd ((eager_zero he).mpr h9) q1
    unfold strongV at hP
    rw [e9, Bool.false_and] at hP
    exact hP
theorem c_reqMember {x : Int32} (W : WW ad w h) (hC : isC i) (hR : CR w i V) (hV : VOK V) (hc : wr w 0 0 = i) (k1 : isMemV V x = false → P (.inr 1) h) (k0 : isMemV V x = true → P (.inl none) h) : WP ga L xs (d + 1) 127 [.ref (ad 0), .int x] h P := by
  have hn := hV.n.2
  have e4 : (wn w i 4).toInt = nm V := by rw [hR.n hV, kN_toInt (by omega)]
  have z0 : (0 : Int32).toInt = 0 := rfl
  refine WP.enter kX6_requireMember (Nat.le_of_ble_eq_true rfl) (fun J hJ => ?_)
  refine hJ 0 _ _ rfl _ _ _ _ (x_iload rfl (x_br (fun q1 => have q1 := cy_lt q1; hJ 1 _ _ rfl _ _ _ _ (x_thr ⟨by decide, by decide⟩ (Nat.le_of_ble_eq_true rfl) (by decide) ?_)) (fun q1 => have q1 := cn_lt q1; x_iload rfl (x_aload rfl (w_getr W 6 0 (t := i) (by decide) shp_0 rfl rfl hc (w_geti W 0 4 hC.lt hC.sh rfl rfl (x_br2 (fun q2 => have q2 := cy_lt q2; hJ 2 _ _ rfl _ _ _ _ (x_vret rfl ?_)) (fun q2 => have q2 := cn_lt q2; x_goto (hJ 1 _ _ rfl _ _ _ _ (x_thr ⟨by decide, by decide⟩ (Nat.le_of_ble_eq_true rfl) (by decide) ?_))))))))))
  · rw [Int32.lt_iff_toInt_lt, z0] at q1
    exact k1 (decide_eq_false (by omega))
  · rw [Int32.le_iff_toInt_le, z0] at q1
    rw [Int32.lt_iff_toInt_lt, e4] at q2
    exact k0 (decide_eq_true (by omega))
  · rw [Int32.le_iff_toInt_le, z0] at q1
    rw [Int32.le_iff_toInt_le, e4] at q2
    exact k1 (decide_eq_false (by omega))
theorem c_reqSet {x : Int32} (W : WW ad w h) (hC : isC i) (hR : CR w i V) (hV : VOK V) (hc : wr w 0 0 = i) (k1 : isSetV V x = false → P (.inr 0) h) (k0 : isSetV V x = true → P (.inl none) h) : WP ga L xs (d + 2) 130 [.ref (ad 0), .int x] h P := by
  refine WP.enter kX6_requireSet (Nat.le_of_ble_eq_true rfl) (fun J hJ => ?_)
  refine hJ 0 _ _ rfl _ _ _ _ (x_iload rfl (x_aload rfl (w_getr W 6 0 (t := i) (by decide) shp_0 rfl rfl hc (x_cv rfl (Nat.le_of_ble_eq_true rfl) (isO_W W hC.lt hC.sh) (c_everyone W hC hR hV (xk_go (x_sipush (x_ixor (x_iand (x_br (fun q1 => have q1 := cy_eq q1; hJ 1 _ _ rfl _ _ _ _ (x_vret rfl ?_)) (fun q1 => have q1 := cn_eq q1; x_thr ⟨by decide, by decide⟩ (Nat.le_of_ble_eq_true rfl) (by decide) ?_)))))))))))
  · exact k0 ((isSet_iff hV).mp q1)
  · refine k1 ?_
    cases e : isSetV V x
    · rfl
    · exact absurd ((isSet_iff hV).mpr e) q1
theorem c_reqWithin {x y z : Int32} {a b : Int} (hy : y = kI a) (hz : z = kI b) (hab : (-1000000 ≤ a ∧ a ≤ 1000000) ∧ (-1000000 ≤ b ∧ b ≤ 1000000)) (k1 : inV x a b = false → P (.inr 0) h) (k0 : inV x a b = true → P (.inl none) h) : WP ga L xs (d + 1) 124 [.int x, .int y, .int z] h P := by
  subst hy hz
  have e1 : (kI a).toInt = a := kI_toInt (by omega) (by omega)
  have e2 : (kI b).toInt = b := kI_toInt (by omega) (by omega)
  refine WP.enter kX6_requireWithin (Nat.le_of_ble_eq_true rfl) (fun J hJ => ?_)
  refine hJ 0 _ _ rfl _ _ _ _ (x_iload rfl (x_iload rfl (x_br2 (fun q1 => have q1 := cy_lt q1; hJ 1 _ _ rfl _ _ _ _ (x_thr ⟨by decide, by decide⟩ (Nat.le_of_ble_eq_true rfl) (by decide) ?_)) (fun q1 => have q1 := cn_lt q1; x_iload rfl (x_iload rfl (x_br2 (fun q2 => have q2 := cy_le q2; hJ 2 _ _ rfl _ _ _ _ (x_vret rfl ?_)) (fun q2 => have q2 := cn_le q2; x_goto (hJ 1 _ _ rfl _ _ _ _ (x_thr ⟨by decide, by decide⟩ (Nat.le_of_ble_eq_true rfl) (by decide) ?_)))))))))
  · rw [Int32.lt_iff_toInt_lt, e1] at q1
    exact k1 (decide_eq_false (by omega))
  · rw [Int32.le_iff_toInt_le, e1] at q1
    rw [Int32.le_iff_toInt_le, e2] at q2
    exact k0 (decide_eq_true (by omega))
  · rw [Int32.le_iff_toInt_le, e1] at q1
    rw [Int32.lt_iff_toInt_lt, e2] at q2
    exact k1 (decide_eq_false (by omega))
theorem KC.yes {ad : Nat → Nat} {P : ac_P} {w w' : Wst} {h' : ac_H} {es : List Nat} {T : Nat} {R : Value} (kk : KC ad P w es T R) (hT : T = 0) (W' : WW ad w' h') (k1 : kp SC w w') : P (.inl (some R)) h' := kk.1 hT h' w' W' k1
theorem KC.no {ad : Nat → Nat} {P : ac_P} {w w' : Wst} {h' : ac_H} {es : List Nat} {T : Nat} {R : Value} (kk : KC ad P w es T R) (j : Nat) (hT : T = j + 1) (W' : WW ad w' h') (k1 : kp SC w w') : P (.inr (es.getD j 0)) h' := kk.2 j hT h' w' W' k1
theorem x_gain {s x : Int32} (W : WW ad w h) (hC : isC i) (hR : CR w i V) (hV : VOK V) (hc : wr w 0 0 = i) (kk : KC ad P w [1, 0] (gainT V s x) (.int (gainV V s x.toInt.toNat))) : WP ga L xs (d + 5) 86 [.ref (ad 0), .int s, .int x] h P := by
  have hn := hV.n.2
  have hm : isMemV V x = true → x = kI (x.toInt.toNat : Int) ∧ x.toInt.toNat < nm V := fun h => by
    have h := of_decide_eq_true h
    exact ⟨by rw [Int.toNat_of_nonneg h.1, kI_of], by omega⟩
  unfold gainT at kk
  refine WP.enter kX6_gain (Nat.le_of_ble_eq_true rfl) (fun J hJ => ?_)
  refine hJ 0 _ _ rfl _ _ _ _ (x_aload rfl (x_iload rfl (x_cvb rfl (Nat.le_of_ble_eq_true rfl) (isO_W W (by decide) shp_0) ⟨by decide, by decide⟩ (c_reqMember W hC hR hV hc (fun t1 => ?_) (fun t1 => xk_v (x_aload rfl (x_iload rfl (x_cvb rfl (Nat.le_of_ble_eq_true rfl) (isO_W W (by decide) shp_0) ⟨by decide, by decide⟩ (c_reqSet W hC hR hV hc (fun t2 => ?_) (fun t2 => xk_v (x_aload rfl (w_getr W 6 0 (t := i) (by decide) shp_0 rfl rfl hc (x_iload rfl (x_iload rfl (x_cv rfl (Nat.le_of_ble_eq_true rfl) (isO_W W hC.lt hC.sh) (c_gainOf W hC hR hV (isSet_sok hV t2) (hm t1).1 (hm t1).2 (xk_go (x_iret (nrwI _) ?_))))))))))))))))))
  · exact kk.no 0 (by rw [if_neg (by rw [t1]; decide)]) W kp_refl
  · exact kk.no 1 (by rw [if_pos t1, if_neg (by rw [t2]; decide)]) W kp_refl
  · exact kk.yes (by rw [if_pos t1, if_pos t2]) W kp_refl
theorem x_pay {s : Int32} (W : WW ad w h) (hC : isC i) (hR : CR w i V) (hV : VOK V) (hc : wr w 0 0 = i) (kk : KC ad P w [0] (setT V s) (.int (payAllV V s))) : WP ga L xs (d + 4) 96 [.ref (ad 0), .int s] h P := by
  refine WP.enter kX6_pay (Nat.le_of_ble_eq_true rfl) (fun J hJ => ?_)
  refine hJ 0 _ _ rfl _ _ _ _ (x_aload rfl (x_iload rfl (x_cvb rfl (Nat.le_of_ble_eq_true rfl) (isO_W W (by decide) shp_0) ⟨by decide, by decide⟩ (c_reqSet W hC hR hV hc (fun t2 => ?_) (fun t2 => xk_v (x_aload rfl (w_getr W 6 0 (t := i) (by decide) shp_0 rfl rfl hc (x_iload rfl (x_cv rfl (Nat.le_of_ble_eq_true rfl) (isO_W W hC.lt hC.sh) (c_payOfAll W hC hR hV (isSet_sok hV t2) (xk_go (x_iret (nrwI _) ?_))))))))))))
  · exact kk.no 0 (setT1 t2) W kp_refl
  · exact kk.yes (setT0 t2) W kp_refl
theorem x_bribe {s : Int32} (W : WW ad w h) (hC : isC i) (hR : CR w i V) (hV : VOK V) (hc : wr w 0 0 = i) (kk : KC ad P w [0] (setT V s) (.int (bribeV V s))) : WP ga L xs (d + 6) 99 [.ref (ad 0), .int s] h P := by
  refine WP.enter kX6_bribe (Nat.le_of_ble_eq_true rfl) (fun J hJ => ?_)
  refine hJ 0 _ _ rfl _ _ _ _ (x_aload rfl (x_iload rfl (x_cvb rfl (Nat.le_of_ble_eq_true rfl) (isO_W W (by decide) shp_0) ⟨by decide, by decide⟩ (c_reqSet W hC hR hV hc (fun t2 => ?_) (fun t2 => xk_v (x_aload rfl (w_getr W 6 0 (t := i) (by decide) shp_0 rfl rfl hc (x_iload rfl (x_cv rfl (Nat.le_of_ble_eq_true rfl) (isO_W W hC.lt hC.sh) (c_bribeFor W hC hR hV (isSet_sok hV t2) (xk_go (x_iret (nrwI _) ?_))))))))))))
  · exact kk.no 0 (setT1 t2) W kp_refl
  · exact kk.yes (setT0 t2) W kp_refl
theorem x_rests {s : Int32} (W : WW ad w h) (hC : isC i) (hR : CR w i V) (hV : VOK V) (hc : wr w 0 0 = i) (kk : KC ad P w [0] (setT V s) (.int (bI (restV V s)))) : WP ga L xs (d + 4) 87 [.ref (ad 0), .int s] h P := by
  refine WP.enter kX6_rests (Nat.le_of_ble_eq_true rfl) (fun J hJ => ?_)
  refine hJ 0 _ _ rfl _ _ _ _ (x_aload rfl (x_iload rfl (x_cvb rfl (Nat.le_of_ble_eq_true rfl) (isO_W W (by decide) shp_0) ⟨by decide, by decide⟩ (c_reqSet W hC hR hV hc (fun t2 => ?_) (fun t2 => xk_v (x_aload rfl (w_getr W 6 0 (t := i) (by decide) shp_0 rfl rfl hc (x_iload rfl (x_cv rfl (Nat.le_of_ble_eq_true rfl) (isO_W W hC.lt hC.sh) (c_eager W hC hR hV (isSet_sok hV t2) (fun e he => xk_go (x_br (fun q1 => have q1 := cy_ne q1; hJ 1 _ _ rfl _ _ _ _ (x_sipush (x_goto (hJ 2 _ _ rfl _ _ _ _ (x_iret (by first | exact nrwB _ | rfl | decide) ?_))))) (fun q1 => have q1 := cn_ne q1; x_sipush (x_goto (hJ 2 _ _ rfl _ _ _ _ (x_iret (by first | exact nrwB _ | rfl | decide) ?_))))))))))))))))
  · exact kk.no 0 (setT1 t2) W kp_refl
  · have e : restV V s = false := by
      cases h9 : restV V s
      · rfl
      · exact absurd ((eager_zero he).mpr h9) q1
    rw [e] at kk
    exact kk.yes (setT0 t2) W kp_refl
  · rw [(eager_zero he).mp q1] at kk
    exact kk.yes (setT0 t2) W kp_refl
theorem x_strong {s : Int32} (W : WW ad w h) (hC : isC i) (hR : CR w i V) (hV : VOK V) (hc : wr w 0 0 = i) (kk : KC ad P w [0] (setT V s) (.int (bI (strongV V s)))) : WP ga L xs (d + 4) 89 [.ref (ad 0), .int s] h P := by
  refine WP.enter kX6_strong (Nat.le_of_ble_eq_true rfl) (fun J hJ => ?_)
  refine hJ 0 _ _ rfl _ _ _ _ (x_aload rfl (x_iload rfl (x_cvb rfl (Nat.le_of_ble_eq_true rfl) (isO_W W (by decide) shp_0) ⟨by decide, by decide⟩ (c_reqSet W hC hR hV hc (fun t2 => ?_) (fun t2 => xk_v (x_aload rfl (w_getr W 6 0 (t := i) (by decide) shp_0 rfl rfl hc (x_iload rfl (x_cv rfl (Nat.le_of_ble_eq_true rfl) (isO_W W hC.lt hC.sh) (c_isStrong W hC hR hV (isSet_sok hV t2) (xk_go (x_iret (by first | exact nrwB _ | rfl | decide) ?_))))))))))))
  · exact kk.no 0 (setT1 t2) W kp_refl
  · exact kk.yes (setT0 t2) W kp_refl
theorem x_rest {k : Int32} (W : WW ad w h) (hC : isC i) (hR : CR w i V) (hV : VOK V) (hc : wr w 0 0 = i) (kk : KC ad P w [] 0 (.int (kthR (fun a => restV V (kI (a : Int))) (2 ^ nm V) k))) : WP ga L xs (d + 3) 88 [.ref (ad 0), .int k] h P := by
  have hn := hV.n.2
  have h12 := pow_le hV
  refine WP.enter kX6_rest (Nat.le_of_ble_eq_true rfl) (fun J hJ => ?_)
  refine hJ 0 _ _ rfl _ _ _ _ (x_sipush (x_istore rfl (x_sipush (x_istore rfl (x_goto (?_))))))
  have loop : ∀ m, m ≤ 2 ^ nm V → ∀ c, fo (kthF (fun a => restV V (kI (a : Int))) k) (none, 0) m = (none, c) → J 1 [some (.ref (ad 0)), some (.int k), some (.int (kI (c : Int))), some (.int (kI (m : Int)))] [] h (0, 0) := up_ind (fun m hm ih c hf => ?_)
  · exact loop 0 (Nat.zero_le _) 0 rfl
  have hs : m < 2 ^ nm V → sok (nm V) (kI (m : Int)) := set_k hV
  have hc9 := kth_cnt hf
  refine hJ 1 _ _ rfl _ _ _ _ (x_iload rfl (x_aload rfl (w_getr W 6 0 (t := i) (by decide) shp_0 rfl rfl hc (x_cv rfl (Nat.le_of_ble_eq_true rfl) (isO_W W hC.lt hC.sh) (c_everyone W hC hR hV (xk_go (x_br2 (fun q1 => have q1 := ev_y hV hm q1; hJ 4 _ _ rfl _ _ _ _ (x_iload rfl (x_sipush (x_br2 (fun q2 => have q2 := cy_ne q2; hJ 5 _ _ rfl _ _ _ _ (x_sipush (x_goto (hJ 6 _ _ rfl _ _ _ _ (x_iret (nrwI _) ?_))))) (fun q2 => have q2 := cn_ne q2; x_iload rfl (x_goto (hJ 6 _ _ rfl _ _ _ _ (x_iret (nrwI _) ?_)))))))) (fun q1 => have q1 := ev_n hV hm q1; x_aload rfl (w_getr W 6 0 (t := i) (by decide) shp_0 rfl rfl hc (x_iload rfl (x_cv rfl (Nat.le_of_ble_eq_true rfl) (isO_W W hC.lt hC.sh) (c_eager W hC hR hV (hs q1) (fun e he => xk_go (x_br (fun q3 => have q3 := cy_ne q3; hJ 3 _ _ rfl _ _ _ _ (x_iinc rfl rfl (x_goto (?_)))) (fun q3 => have q3 := cn_ne q3; x_iload rfl (x_iload rfl (x_br2 (fun q4 => have q4 := cy_ne q4; hJ 2 _ _ rfl _ _ _ _ (x_iinc rfl rfl (x_goto (hJ 3 _ _ rfl _ _ _ _ (x_iinc rfl rfl (x_goto (?_))))))) (fun q4 => have q4 := cn_ne q4; x_iload rfl (x_iret (nrwI _) ?_)))))))))))))))))))
  · subst q1
    rw [kth_end hf, if_neg q2] at kk
    exact kk.yes rfl W kp_refl
  · subst q1
    rw [kth_end hf, if_pos q2] at kk
    exact kk.yes rfl W kp_refl
  · have e9 : restV V (kI (m : Int)) = false := by
      cases h9 : restV V (kI (m : Int))
      · rfl
      · exact absurd ((eager_zero he).mpr h9) q3
    refine J_c (ih q1 c (kth_no hf e9)) ?_
    simp only [sI, kN_succ]
  · have e9 := (eager_zero he).mp q3
    refine J_c (ih q1 (c + 1) (kth_go hf e9 q4)) ?_
    simp only [sI, kN_succ]
  · have e9 := (eager_zero he).mp q3
    rw [kth_stop hf e9 q4 q1] at kk
    exact kk.yes rfl W kp_refl
theorem x_strongs {k : Int32} (W : WW ad w h) (hC : isC i) (hR : CR w i V) (hV : VOK V) (hc : wr w 0 0 = i) (kk : KC ad P w [] 0 (.int (kthR (fun a => strongV V (kI (a : Int))) (2 ^ nm V) k))) : WP ga L xs (d + 4) 90 [.ref (ad 0), .int k] h P := by
  have hn := hV.n.2
  have h12 := pow_le hV
  refine WP.enter kX6_strongs (Nat.le_of_ble_eq_true rfl) (fun J hJ => ?_)
  refine hJ 0 _ _ rfl _ _ _ _ (x_sipush (x_istore rfl (x_sipush (x_istore rfl (x_goto (?_))))))
  have loop : ∀ m, m ≤ 2 ^ nm V → ∀ c, fo (kthF (fun a => strongV V (kI (a : Int))) k) (none, 0) m = (none, c) → J 1 [some (.ref (ad 0)), some (.int k), some (.int (kI (c : Int))), some (.int (kI (m : Int)))] [] h (0, 0) := up_ind (fun m hm ih c hf => ?_)
  · exact loop 0 (Nat.zero_le _) 0 rfl
  have hs : m < 2 ^ nm V → sok (nm V) (kI (m : Int)) := set_k hV
  have hc9 := kth_cnt hf
  refine hJ 1 _ _ rfl _ _ _ _ (x_iload rfl (x_aload rfl (w_getr W 6 0 (t := i) (by decide) shp_0 rfl rfl hc (x_cv rfl (Nat.le_of_ble_eq_true rfl) (isO_W W hC.lt hC.sh) (c_everyone W hC hR hV (xk_go (x_br2 (fun q1 => have q1 := ev_y hV hm q1; hJ 4 _ _ rfl _ _ _ _ (x_iload rfl (x_sipush (x_br2 (fun q2 => have q2 := cy_ne q2; hJ 5 _ _ rfl _ _ _ _ (x_sipush (x_goto (hJ 6 _ _ rfl _ _ _ _ (x_iret (nrwI _) ?_))))) (fun q2 => have q2 := cn_ne q2; x_iload rfl (x_goto (hJ 6 _ _ rfl _ _ _ _ (x_iret (nrwI _) ?_)))))))) (fun q1 => have q1 := ev_n hV hm q1; x_aload rfl (w_getr W 6 0 (t := i) (by decide) shp_0 rfl rfl hc (x_iload rfl (x_cv rfl (Nat.le_of_ble_eq_true rfl) (isO_W W hC.lt hC.sh) (c_isStrong W hC hR hV (hs q1) (xk_go (x_br (fun q3 => have q3 := bI_eq0.mp q3; hJ 3 _ _ rfl _ _ _ _ (x_iinc rfl rfl (x_goto (?_)))) (fun q3 => have q3 := bI_ne0.mp q3; x_iload rfl (x_iload rfl (x_br2 (fun q4 => have q4 := cy_ne q4; hJ 2 _ _ rfl _ _ _ _ (x_iinc rfl rfl (x_goto (hJ 3 _ _ rfl _ _ _ _ (x_iinc rfl rfl (x_goto (?_))))))) (fun q4 => have q4 := cn_ne q4; x_iload rfl (x_iret (nrwI _) ?_)))))))))))))))))))
  · subst q1
    rw [kth_end hf, if_neg q2] at kk
    exact kk.yes rfl W kp_refl
  · subst q1
    rw [kth_end hf, if_pos q2] at kk
    exact kk.yes rfl W kp_refl
  · refine J_c (ih q1 c (kth_no hf q3)) ?_
    simp only [sI, kN_succ]
  · refine J_c (ih q1 (c + 1) (kth_go hf q3 q4)) ?_
    simp only [sI, kN_succ]
  · rw [kth_stop hf q3 q4 q1] at kk
    exact kk.yes rfl W kp_refl
theorem x_bestRest (W : WW ad w h) (hC : isC i) (hR : CR w i V) (hV : VOK V) (hc : wr w 0 0 = i) (kk : KC ad P w [] 0 (.int (bestRestV V))) : WP ga L xs (d + 4) 95 [.ref (ad 0)] h P := by
  have hn := hV.n.2
  have h12 := pow_le hV
  unfold bestRestV at kk
  refine WP.enter kX6_bestRest (Nat.le_of_ble_eq_true rfl) (fun J hJ => ?_)
  have loop : ∀ m, m ≤ 2 ^ nm V → ∀ z, J 1 [some (.ref (ad 0)), some (.int (optI (bst (fun a => restV V (kI (a : Int))) (fun a b => decide (payAllV V (kI (b : Int)) < payAllV V (kI (a : Int)))) m))), some (.int (lvO (payAllV V) (bst (fun a => restV V (kI (a : Int))) (fun a b => decide (payAllV V (kI (b : Int)) < payAllV V (kI (a : Int)))) m))), some (.int (kI (m : Int))), z] [] h (0, 0) := up_ind (fun m hm ih z => ?_)
  · exact hJ 0 _ _ rfl _ _ _ _ (x_sipush (x_istore rfl (x_sipush (x_istore rfl (x_sipush (x_istore rfl (x_goto (loop 0 (Nat.zero_le _) _))))))))
  have hs : m < 2 ^ nm V → sok (nm V) (kI (m : Int)) := set_k hV
  have hl : ∀ a, bst (fun a => restV V (kI (a : Int))) (fun a b => decide (payAllV V (kI (b : Int)) < payAllV V (kI (a : Int)))) m = some a → a < 4096 := fun a h9 => by have := (bst_lt h9).1; omega
  have hsn := bst_succ (p := fun a => restV V (kI (a : Int))) (bt := fun a b => decide (payAllV V (kI (b : Int)) < payAllV V (kI (a : Int)))) (N := m)
  by_cases hlast : m = 2 ^ nm V
  · subst hlast
    refine hJ 1 _ _ rfl _ _ _ _ (x_iload rfl (x_aload rfl (w_getr W 6 0 (t := i) (by decide) shp_0 rfl rfl hc (x_cv rfl (Nat.le_of_ble_eq_true rfl) (isO_W W hC.lt hC.sh) (c_everyone W hC hR hV (xk_go (x_br2 (fun q1 => have q1 := ev_y hV hm q1; hJ 4 _ _ rfl _ _ _ _ (x_iload rfl (x_iret (nrwI _) ?_))) (fun q1 => have q1 := ev_n hV hm q1; x_aload rfl (w_getr W 6 0 (t := i) (by decide) shp_0 rfl rfl hc (x_iload rfl (x_cv rfl (Nat.le_of_ble_eq_true rfl) (isO_W W hC.lt hC.sh) (c_eager W hC hR hV (hs q1) (fun e he => xk_go (x_br (fun q2 => have q2 := cy_ne q2; ?_) (fun q2 => have q2 := cn_ne q2; x_aload rfl (w_getr W 6 0 (t := i) (by decide) shp_0 rfl rfl hc (x_iload rfl (x_cv rfl (Nat.le_of_ble_eq_true rfl) (isO_W W hC.lt hC.sh) (c_payOfAll W hC hR hV (hs q1) (xk_go (x_istore rfl (x_iload rfl (x_sipush (x_br2 (fun q3 => have q3 := cy_eq q3; ?_) (fun q3 => have q3 := cn_eq q3; x_iload rfl (x_iload rfl (x_br2 (fun q4 => have q4 := cy_le q4; ?_) (fun q4 => have q4 := cn_le q4; x_goto (?_)))))))))))))))))))))))))))))
    · exact kk.yes rfl W kp_refl
    all_goals omega
  have ih := ih (by omega)
  rw [hsn] at ih
  generalize bst (fun a => restV V (kI (a : Int))) (fun a b => decide (payAllV V (kI (b : Int)) < payAllV V (kI (a : Int)))) m = o at *
  have hskip : restV V (kI (m : Int)) = false → ∀ z, J 1 [some (.ref (ad 0)), some (.int (optI o)), some (.int (lvO (payAllV V) o)), some (.int (kI ((m + 1 : Nat) : Int))), z] [] h (0, 0) := fun hm9 z => by
    have e : bstF (fun a => restV V (kI (a : Int))) (fun a b => decide (payAllV V (kI (b : Int)) < payAllV V (kI (a : Int)))) m o = o := by
      cases o <;> simp [bstF, hm9]
    rw [e] at ih
    exact ih z
  have hval : ∀ (v : Int32), v = payAllV V (kI (m : Int)) → restV V (kI (m : Int)) = true → ((optI o = kI (-1) → J 1 [some (.ref (ad 0)), some (.int (kI (m : Int))), some (.int v), some (.int (kI ((m + 1 : Nat) : Int))), some (.int v)] [] h (0, 0)) ∧ (¬ optI o = kI (-1) → lvO (payAllV V) o < v → J 1 [some (.ref (ad 0)), some (.int (kI (m : Int))), some (.int v), some (.int (kI ((m + 1 : Nat) : Int))), some (.int v)] [] h (0, 0)) ∧ (¬ optI o = kI (-1) → v ≤ lvO (payAllV V) o → J 1 [some (.ref (ad 0)), some (.int (optI o)), some (.int (lvO (payAllV V) o)), some (.int (kI ((m + 1 : Nat) : Int))), some (.int v)] [] h (0, 0))) := by
    intro v hv hm9
    subst hv
    cases o with
    | none =>
      have e : bstF (fun a => restV V (kI (a : Int))) (fun a b => decide (payAllV V (kI (b : Int)) < payAllV V (kI (a : Int)))) m none = some m := by simp [bstF, hm9]
      rw [e] at ih
      exact ⟨fun _ => ih _, fun h => absurd rfl h, fun h => absurd rfl h⟩
    | some a =>
      refine ⟨fun h => absurd ((optI_none hl).mp h) (by simp), fun _ h => ?_, fun _ h => ?_⟩
      · have e : bstF (fun a => restV V (kI (a : Int))) (fun a b => decide (payAllV V (kI (b : Int)) < payAllV V (kI (a : Int)))) m (some a) = some m := by
          simp only [bstF, hm9, true_and, decide_eq_true_eq]
          exact if_pos h
        rw [e] at ih
        exact ih _
      · have e : bstF (fun a => restV V (kI (a : Int))) (fun a b => decide (payAllV V (kI (b : Int)) < payAllV V (kI (a : Int)))) m (some a) = some a := by
          simp only [bstF, hm9, true_and, decide_eq_true_eq]
          exact if_neg (Int32.not_lt.mpr h)
        rw [e] at ih
        exact ih _
  refine hJ 1 _ _ rfl _ _ _ _ (x_iload rfl (x_aload rfl (w_getr W 6 0 (t := i) (by decide) shp_0 rfl rfl hc (x_cv rfl (Nat.le_of_ble_eq_true rfl) (isO_W W hC.lt hC.sh) (c_everyone W hC hR hV (xk_go (x_br2 (fun q1 => have q1 := ev_y hV hm q1; hJ 4 _ _ rfl _ _ _ _ (x_iload rfl (x_iret (nrwI _) ?_))) (fun q1 => have q1 := ev_n hV hm q1; x_aload rfl (w_getr W 6 0 (t := i) (by decide) shp_0 rfl rfl hc (x_iload rfl (x_cv rfl (Nat.le_of_ble_eq_true rfl) (isO_W W hC.lt hC.sh) (c_eager W hC hR hV (hs q1) (fun e he => xk_go (x_br (fun q2 => have q2 := cy_ne q2; hJ 3 _ _ rfl _ _ _ _ (x_iinc rfl rfl (x_goto (?_)))) (fun q2 => have q2 := cn_ne q2; x_aload rfl (w_getr W 6 0 (t := i) (by decide) shp_0 rfl rfl hc (x_iload rfl (x_cv rfl (Nat.le_of_ble_eq_true rfl) (isO_W W hC.lt hC.sh) (c_payOfAll W hC hR hV (hs q1) (xk_go (x_istore rfl (x_iload rfl (x_sipush (x_br2 (fun q3 => have q3 := cy_eq q3; hJ 2 _ _ rfl _ _ _ _ (x_iload rfl (x_istore rfl (x_iload rfl (x_istore rfl (x_goto (hJ 3 _ _ rfl _ _ _ _ (x_iinc rfl rfl (x_goto (?_)))))))))) (fun q3 => have q3 := cn_eq q3; x_iload rfl (x_iload rfl (x_br2 (fun q4 => have q4 := cy_le q4; hJ 3 _ _ rfl _ _ _ _ (x_iinc rfl rfl (x_goto (?_)))) (fun q4 => have q4 := cn_le q4; x_goto (hJ 2 _ _ rfl _ _ _ _ (x_iload rfl (x_istore rfl (x_iload rfl (x_istore rfl (x_goto (hJ 3 _ _ rfl _ _ _ _ (x_iinc rfl rfl (x_goto (?_))))))))))))))))))))))))))))))))))))))
  · exact absurd q1 hlast
  · have e9 : restV V (kI (m : Int)) = false := by
      cases h9 : restV V (kI (m : Int))
      · rfl
      · exact absurd ((eager_zero he).mpr h9) q2
    exact J_c (hskip e9 z) (by simp only [sI, kN_succ])
  · exact J_c ((hval _ rfl ((eager_zero he).mp q2)).1 q3) (by simp only [sI, kN_succ])
  · exact J_c ((hval _ rfl ((eager_zero he).mp q2)).2.2 q3 q4) (by simp only [sI, kN_succ])
  · exact J_c ((hval _ rfl ((eager_zero he).mp q2)).2.1 q3 q4) (by simp only [sI, kN_succ])
def lvN (f : Int32 → Int32) : Option Nat → Int32
  | none => kI (-1)
  | some a => f (kI (a : Int))
theorem leastV_eq {V : VT} {val : Int32 → Int32} {x : Int32} : leastV V val x = if x = kI 0 then lvN val (leastS V val) else optI (leastS V val) := by
  unfold leastV
  cases leastS V val <;> simp [lvN, optI]
theorem x_leastBribe {x : Int32} (W : WW ad w h) (hC : isC i) (hR : CR w i V) (hV : VOK V) (hc : wr w 0 0 = i) (kk : KC ad P w [0] (whatT x) (.int (leastV V (bribeV V) x))) : WP ga L xs (d + 6) 100 [.ref (ad 0), .int x] h P := by
  have hn := hV.n.2
  have h12 := pow_le hV
  rw [leastV_eq] at kk
  refine WP.enter kX6_leastBribe (Nat.le_of_ble_eq_true rfl) (fun J hJ => ?_)
  have loop : inV x 0 1 = true → ∀ bg m, m ≤ 2 ^ nm V → ∀ z, J 1 [some (.ref (ad 0)), some (.int x), some (.int (optI (bst (fun a => meetsV V (kI (a : Int))) (fun a c => decide (bribeV V (kI (a : Int)) < bribeV V (kI (c : Int)))) m))), some (.int (lvN (bribeV V) (bst (fun a => meetsV V (kI (a : Int))) (fun a c => decide (bribeV V (kI (a : Int)) < bribeV V (kI (c : Int)))) m))), some (.int (kI (m : Int))), z] [] h bg := fun hx bg => up_ind (fun m hm ih z => ?_)
  · refine hJ 0 _ _ rfl _ _ _ _ (x_iload rfl (x_sipush (x_sipush (x_csb rfl (Nat.le_of_ble_eq_true rfl) ⟨by decide, by decide⟩ (c_reqWithin rfl rfl (by omega) (fun t3 => ?_) (fun t3 => xk_v (x_sipush (x_istore rfl (x_sipush (x_istore rfl (x_sipush (x_istore rfl (x_goto (?_))))))))))))))
    · exact kk.no 0 (whatT1 t3) W kp_refl
    · exact loop t3 _ 0 (Nat.zero_le _) _
  have hs : m < 2 ^ nm V → sok (nm V) (kI (m : Int)) := set_k hV
  have hl : ∀ a, (bst (fun a => meetsV V (kI (a : Int))) (fun a c => decide (bribeV V (kI (a : Int)) < bribeV V (kI (c : Int)))) m) = some a → a < 4096 := fun a h9 => by have := (bst_lt h9).1; omega
  have hsn := bst_succ (p := fun a => meetsV V (kI (a : Int))) (bt := fun a c => decide (bribeV V (kI (a : Int)) < bribeV V (kI (c : Int)))) (N := m)
  by_cases hlast : m = 2 ^ nm V
  · subst hlast
    unfold leastS at kk
    refine hJ 1 _ _ rfl _ _ _ _ (x_iload rfl (x_aload rfl (w_getr W 6 0 (t := i) (by decide) shp_0 rfl rfl hc (x_cv rfl (Nat.le_of_ble_eq_true rfl) (isO_W W hC.lt hC.sh) (c_everyone W hC hR hV (xk_go (x_br2 (fun q1 => have q1 := ev_y hV hm q1; hJ 4 _ _ rfl _ _ _ _ (x_iload rfl (x_br (fun q2 => have q2 := cy_ne q2; hJ 5 _ _ rfl _ _ _ _ (x_iload rfl (x_goto (hJ 6 _ _ rfl _ _ _ _ (x_iret (nrwI _) ?_))))) (fun q2 => have q2 := cn_ne q2; x_iload rfl (x_goto (hJ 6 _ _ rfl _ _ _ _ (x_iret (nrwI _) ?_))))))) (fun q1 => have q1 := ev_n hV hm q1; x_aload rfl (w_getr W 6 0 (t := i) (by decide) shp_0 rfl rfl hc (x_iload rfl (x_cv rfl (Nat.le_of_ble_eq_true rfl) (isO_W W hC.lt hC.sh) (c_meets W hC hR (hs q1) (xk_go (x_br (fun q3 => have q3 := bI_eq0.mp q3; ?_) (fun q3 => have q3 := bI_ne0.mp q3; x_aload rfl (w_getr W 6 0 (t := i) (by decide) shp_0 rfl rfl hc (x_iload rfl (x_cv rfl (Nat.le_of_ble_eq_true rfl) (isO_W W hC.lt hC.sh) (c_bribeFor W hC hR hV (hs q1) (xk_go (x_istore rfl (x_iload rfl (x_sipush (x_br2 (fun q4 => have q4 := cy_eq q4; ?_) (fun q4 => have q4 := cn_eq q4; x_iload rfl (x_iload rfl (x_br2 (fun q5 => have q5 := cy_ge q5; ?_) (fun q5 => have q5 := cn_ge q5; x_goto (?_)))))))))))))))))))))))))))))
    · rw [if_neg (show ¬ x = kI 0 from q2)] at kk
      exact kk.yes (whatT0 hx) W kp_refl
    · rw [if_pos (show x = kI 0 from q2)] at kk
      exact kk.yes (whatT0 hx) W kp_refl
    all_goals omega
  have ih := ih (by omega)
  rw [hsn] at ih
  generalize (bst (fun a => meetsV V (kI (a : Int))) (fun a c => decide (bribeV V (kI (a : Int)) < bribeV V (kI (c : Int)))) m) = o at *
  have hskip : meetsV V (kI (m : Int)) = false → ∀ z, J 1 [some (.ref (ad 0)), some (.int x), some (.int (optI o)), some (.int (lvN (bribeV V) o)), some (.int (kI ((m + 1 : Nat) : Int))), z] [] h bg := fun hm9 z => by
    have e : bstF (fun a => meetsV V (kI (a : Int))) (fun a c => decide (bribeV V (kI (a : Int)) < bribeV V (kI (c : Int)))) m o = o := by
      cases o <;> simp [bstF, hm9]
    rw [e] at ih
    exact ih z
  have hval : ∀ (v : Int32), v = bribeV V (kI (m : Int)) → meetsV V (kI (m : Int)) = true → ((optI o = kI (-1) → J 1 [some (.ref (ad 0)), some (.int x), some (.int (kI (m : Int))), some (.int v), some (.int (kI ((m + 1 : Nat) : Int))), some (.int v)] [] h bg) ∧ (¬ optI o = kI (-1) → v < lvN (bribeV V) o → J 1 [some (.ref (ad 0)), some (.int x), some (.int (kI (m : Int))), some (.int v), some (.int (kI ((m + 1 : Nat) : Int))), some (.int v)] [] h bg) ∧ (¬ optI o = kI (-1) → lvN (bribeV V) o ≤ v → J 1 [some (.ref (ad 0)), some (.int x), some (.int (optI o)), some (.int (lvN (bribeV V) o)), some (.int (kI ((m + 1 : Nat) : Int))), some (.int v)] [] h bg)) := by
    intro v hv hm9
    subst hv
    cases o with
    | none =>
      have e : bstF (fun a => meetsV V (kI (a : Int))) (fun a c => decide (bribeV V (kI (a : Int)) < bribeV V (kI (c : Int)))) m none = some m := by simp [bstF, hm9]
      rw [e] at ih
      exact ⟨fun _ => ih _, fun h => absurd rfl h, fun h => absurd rfl h⟩
    | some a =>
      refine ⟨fun h => absurd ((optI_none hl).mp h) (by simp), fun _ h => ?_, fun _ h => ?_⟩
      · have e : bstF (fun a => meetsV V (kI (a : Int))) (fun a c => decide (bribeV V (kI (a : Int)) < bribeV V (kI (c : Int)))) m (some a) = some m := by
          simp only [bstF, hm9, true_and, decide_eq_true_eq]
          exact if_pos h
        rw [e] at ih
        exact ih _
      · have e : bstF (fun a => meetsV V (kI (a : Int))) (fun a c => decide (bribeV V (kI (a : Int)) < bribeV V (kI (c : Int)))) m (some a) = some a := by
          simp only [bstF, hm9, true_and, decide_eq_true_eq]
          exact if_neg (Int32.not_lt.mpr h)
        rw [e] at ih
        exact ih _
  refine hJ 1 _ _ rfl _ _ _ _ (x_iload rfl (x_aload rfl (w_getr W 6 0 (t := i) (by decide) shp_0 rfl rfl hc (x_cv rfl (Nat.le_of_ble_eq_true rfl) (isO_W W hC.lt hC.sh) (c_everyone W hC hR hV (xk_go (x_br2 (fun q1 => have q1 := ev_y hV hm q1; hJ 4 _ _ rfl _ _ _ _ (x_iload rfl (x_br (fun q2 => have q2 := cy_ne q2; hJ 5 _ _ rfl _ _ _ _ (x_iload rfl (x_goto (hJ 6 _ _ rfl _ _ _ _ (x_iret (nrwI _) ?_))))) (fun q2 => have q2 := cn_ne q2; x_iload rfl (x_goto (hJ 6 _ _ rfl _ _ _ _ (x_iret (nrwI _) ?_))))))) (fun q1 => have q1 := ev_n hV hm q1; x_aload rfl (w_getr W 6 0 (t := i) (by decide) shp_0 rfl rfl hc (x_iload rfl (x_cv rfl (Nat.le_of_ble_eq_true rfl) (isO_W W hC.lt hC.sh) (c_meets W hC hR (hs q1) (xk_go (x_br (fun q3 => have q3 := bI_eq0.mp q3; hJ 3 _ _ rfl _ _ _ _ (x_iinc rfl rfl (x_goto (?_)))) (fun q3 => have q3 := bI_ne0.mp q3; x_aload rfl (w_getr W 6 0 (t := i) (by decide) shp_0 rfl rfl hc (x_iload rfl (x_cv rfl (Nat.le_of_ble_eq_true rfl) (isO_W W hC.lt hC.sh) (c_bribeFor W hC hR hV (hs q1) (xk_go (x_istore rfl (x_iload rfl (x_sipush (x_br2 (fun q4 => have q4 := cy_eq q4; hJ 2 _ _ rfl _ _ _ _ (x_iload rfl (x_istore rfl (x_iload rfl (x_istore rfl (x_goto (hJ 3 _ _ rfl _ _ _ _ (x_iinc rfl rfl (x_goto (?_)))))))))) (fun q4 => have q4 := cn_eq q4; x_iload rfl (x_iload rfl (x_br2 (fun q5 => have q5 := cy_ge q5; hJ 3 _ _ rfl _ _ _ _ (x_iinc rfl rfl (x_goto (?_)))) (fun q5 => have q5 := cn_ge q5; x_goto (hJ 2 _ _ rfl _ _ _ _ (x_iload rfl (x_istore rfl (x_iload rfl (x_istore rfl (x_goto (hJ 3 _ _ rfl _ _ _ _ (x_iinc rfl rfl (x_goto (?_))))))))))))))))))))))))))))))))))))))
  · exact absurd q1 hlast
  · exact absurd q1 hlast
  · exact J_c (hskip q3 z) (by simp only [sI, kN_succ])
  · exact J_c ((hval _ rfl q3).1 q4) (by simp only [sI, kN_succ, costAllV])
  · exact J_c ((hval _ rfl q3).2.2 q4 q5) (by simp only [sI, kN_succ, costAllV])
  · exact J_c ((hval _ rfl q3).2.1 q4 q5) (by simp only [sI, kN_succ, costAllV])
theorem x_contract {x : Int32} (W : WW ad w h) (hC : isC i) (hR : CR w i V) (hV : VOK V) (hc : wr w 0 0 = i) (kk : KC ad P w [0] (whatT x) (.int (leastV V (costAllV V) x))) : WP ga L xs (d + 3) 101 [.ref (ad 0), .int x] h P := by
  have hn := hV.n.2
  have h12 := pow_le hV
  rw [leastV_eq] at kk
  refine WP.enter kX6_contract (Nat.le_of_ble_eq_true rfl) (fun J hJ => ?_)
  have loop : inV x 0 1 = true → ∀ bg m, m ≤ 2 ^ nm V → ∀ z, J 1 [some (.ref (ad 0)), some (.int x), some (.int (optI (bst (fun a => meetsV V (kI (a : Int))) (fun a c => decide (costAllV V (kI (a : Int)) < costAllV V (kI (c : Int)))) m))), some (.int (lvN (costAllV V) (bst (fun a => meetsV V (kI (a : Int))) (fun a c => decide (costAllV V (kI (a : Int)) < costAllV V (kI (c : Int)))) m))), some (.int (kI (m : Int))), z] [] h bg := fun hx bg => up_ind (fun m hm ih z => ?_)
  · refine hJ 0 _ _ rfl _ _ _ _ (x_iload rfl (x_sipush (x_sipush (x_csb rfl (Nat.le_of_ble_eq_true rfl) ⟨by decide, by decide⟩ (c_reqWithin rfl rfl (by omega) (fun t3 => ?_) (fun t3 => xk_v (x_sipush (x_istore rfl (x_sipush (x_istore rfl (x_sipush (x_istore rfl (x_goto (?_))))))))))))))
    · exact kk.no 0 (whatT1 t3) W kp_refl
    · exact loop t3 _ 0 (Nat.zero_le _) _
  have hs : m < 2 ^ nm V → sok (nm V) (kI (m : Int)) := set_k hV
  have hl : ∀ a, (bst (fun a => meetsV V (kI (a : Int))) (fun a c => decide (costAllV V (kI (a : Int)) < costAllV V (kI (c : Int)))) m) = some a → a < 4096 := fun a h9 => by have := (bst_lt h9).1; omega
  have hsn := bst_succ (p := fun a => meetsV V (kI (a : Int))) (bt := fun a c => decide (costAllV V (kI (a : Int)) < costAllV V (kI (c : Int)))) (N := m)
  by_cases hlast : m = 2 ^ nm V
  · subst hlast
    unfold leastS at kk
    refine hJ 1 _ _ rfl _ _ _ _ (x_iload rfl (x_aload rfl (w_getr W 6 0 (t := i) (by decide) shp_0 rfl rfl hc (x_cv rfl (Nat.le_of_ble_eq_true rfl) (isO_W W hC.lt hC.sh) (c_everyone W hC hR hV (xk_go (x_br2 (fun q1 => have q1 := ev_y hV hm q1; hJ 4 _ _ rfl _ _ _ _ (x_iload rfl (x_br (fun q2 => have q2 := cy_ne q2; hJ 5 _ _ rfl _ _ _ _ (x_iload rfl (x_goto (hJ 6 _ _ rfl _ _ _ _ (x_iret (nrwI _) ?_))))) (fun q2 => have q2 := cn_ne q2; x_iload rfl (x_goto (hJ 6 _ _ rfl _ _ _ _ (x_iret (nrwI _) ?_))))))) (fun q1 => have q1 := ev_n hV hm q1; x_aload rfl (w_getr W 6 0 (t := i) (by decide) shp_0 rfl rfl hc (x_iload rfl (x_cv rfl (Nat.le_of_ble_eq_true rfl) (isO_W W hC.lt hC.sh) (c_meets W hC hR (hs q1) (xk_go (x_br (fun q3 => have q3 := bI_eq0.mp q3; ?_) (fun q3 => have q3 := bI_ne0.mp q3; x_aload rfl (w_getr W 6 0 (t := i) (by decide) shp_0 rfl rfl hc (x_iload rfl (x_cv rfl (Nat.le_of_ble_eq_true rfl) (isO_W W hC.lt hC.sh) (c_costOfAll W hC hR hV (xk_go (x_istore rfl (x_iload rfl (x_sipush (x_br2 (fun q4 => have q4 := cy_eq q4; ?_) (fun q4 => have q4 := cn_eq q4; x_iload rfl (x_iload rfl (x_br2 (fun q5 => have q5 := cy_ge q5; ?_) (fun q5 => have q5 := cn_ge q5; x_goto (?_)))))))))))))))))))))))))))))
    · rw [if_neg (show ¬ x = kI 0 from q2)] at kk
      exact kk.yes (whatT0 hx) W kp_refl
    · rw [if_pos (show x = kI 0 from q2)] at kk
      exact kk.yes (whatT0 hx) W kp_refl
    all_goals omega
  have ih := ih (by omega)
  rw [hsn] at ih
  generalize (bst (fun a => meetsV V (kI (a : Int))) (fun a c => decide (costAllV V (kI (a : Int)) < costAllV V (kI (c : Int)))) m) = o at *
  have hskip : meetsV V (kI (m : Int)) = false → ∀ z, J 1 [some (.ref (ad 0)), some (.int x), some (.int (optI o)), some (.int (lvN (costAllV V) o)), some (.int (kI ((m + 1 : Nat) : Int))), z] [] h bg := fun hm9 z => by
    have e : bstF (fun a => meetsV V (kI (a : Int))) (fun a c => decide (costAllV V (kI (a : Int)) < costAllV V (kI (c : Int)))) m o = o := by
      cases o <;> simp [bstF, hm9]
    rw [e] at ih
    exact ih z
  have hval : ∀ (v : Int32), v = costAllV V (kI (m : Int)) → meetsV V (kI (m : Int)) = true → ((optI o = kI (-1) → J 1 [some (.ref (ad 0)), some (.int x), some (.int (kI (m : Int))), some (.int v), some (.int (kI ((m + 1 : Nat) : Int))), some (.int v)] [] h bg) ∧ (¬ optI o = kI (-1) → v < lvN (costAllV V) o → J 1 [some (.ref (ad 0)), some (.int x), some (.int (kI (m : Int))), some (.int v), some (.int (kI ((m + 1 : Nat) : Int))), some (.int v)] [] h bg) ∧ (¬ optI o = kI (-1) → lvN (costAllV V) o ≤ v → J 1 [some (.ref (ad 0)), some (.int x), some (.int (optI o)), some (.int (lvN (costAllV V) o)), some (.int (kI ((m + 1 : Nat) : Int))), some (.int v)] [] h bg)) := by
    intro v hv hm9
    subst hv
    cases o with
    | none =>
      have e : bstF (fun a => meetsV V (kI (a : Int))) (fun a c => decide (costAllV V (kI (a : Int)) < costAllV V (kI (c : Int)))) m none = some m := by simp [bstF, hm9]
      rw [e] at ih
      exact ⟨fun _ => ih _, fun h => absurd rfl h, fun h => absurd rfl h⟩
    | some a =>
      refine ⟨fun h => absurd ((optI_none hl).mp h) (by simp), fun _ h => ?_, fun _ h => ?_⟩
      · have e : bstF (fun a => meetsV V (kI (a : Int))) (fun a c => decide (costAllV V (kI (a : Int)) < costAllV V (kI (c : Int)))) m (some a) = some m := by
          simp only [bstF, hm9, true_and, decide_eq_true_eq]
          exact if_pos h
        rw [e] at ih
        exact ih _
      · have e : bstF (fun a => meetsV V (kI (a : Int))) (fun a c => decide (costAllV V (kI (a : Int)) < costAllV V (kI (c : Int)))) m (some a) = some a := by
          simp only [bstF, hm9, true_and, decide_eq_true_eq]
          exact if_neg (Int32.not_lt.mpr h)
        rw [e] at ih
        exact ih _
  refine hJ 1 _ _ rfl _ _ _ _ (x_iload rfl (x_aload rfl (w_getr W 6 0 (t := i) (by decide) shp_0 rfl rfl hc (x_cv rfl (Nat.le_of_ble_eq_true rfl) (isO_W W hC.lt hC.sh) (c_everyone W hC hR hV (xk_go (x_br2 (fun q1 => have q1 := ev_y hV hm q1; hJ 4 _ _ rfl _ _ _ _ (x_iload rfl (x_br (fun q2 => have q2 := cy_ne q2; hJ 5 _ _ rfl _ _ _ _ (x_iload rfl (x_goto (hJ 6 _ _ rfl _ _ _ _ (x_iret (nrwI _) ?_))))) (fun q2 => have q2 := cn_ne q2; x_iload rfl (x_goto (hJ 6 _ _ rfl _ _ _ _ (x_iret (nrwI _) ?_))))))) (fun q1 => have q1 := ev_n hV hm q1; x_aload rfl (w_getr W 6 0 (t := i) (by decide) shp_0 rfl rfl hc (x_iload rfl (x_cv rfl (Nat.le_of_ble_eq_true rfl) (isO_W W hC.lt hC.sh) (c_meets W hC hR (hs q1) (xk_go (x_br (fun q3 => have q3 := bI_eq0.mp q3; hJ 3 _ _ rfl _ _ _ _ (x_iinc rfl rfl (x_goto (?_)))) (fun q3 => have q3 := bI_ne0.mp q3; x_aload rfl (w_getr W 6 0 (t := i) (by decide) shp_0 rfl rfl hc (x_iload rfl (x_cv rfl (Nat.le_of_ble_eq_true rfl) (isO_W W hC.lt hC.sh) (c_costOfAll W hC hR hV (xk_go (x_istore rfl (x_iload rfl (x_sipush (x_br2 (fun q4 => have q4 := cy_eq q4; hJ 2 _ _ rfl _ _ _ _ (x_iload rfl (x_istore rfl (x_iload rfl (x_istore rfl (x_goto (hJ 3 _ _ rfl _ _ _ _ (x_iinc rfl rfl (x_goto (?_)))))))))) (fun q4 => have q4 := cn_eq q4; x_iload rfl (x_iload rfl (x_br2 (fun q5 => have q5 := cy_ge q5; hJ 3 _ _ rfl _ _ _ _ (x_iinc rfl rfl (x_goto (?_)))) (fun q5 => have q5 := cn_ge q5; x_goto (hJ 2 _ _ rfl _ _ _ _ (x_iload rfl (x_istore rfl (x_iload rfl (x_istore rfl (x_goto (hJ 3 _ _ rfl _ _ _ _ (x_iinc rfl rfl (x_goto (?_))))))))))))))))))))))))))))))))))))))
  · exact absurd q1 hlast
  · exact absurd q1 hlast
  · exact J_c (hskip q3 z) (by simp only [sI, kN_succ])
  · exact J_c ((hval _ rfl q3).1 q4) (by simp only [sI, kN_succ, costAllV])
  · exact J_c ((hval _ rfl q3).2.2 q4 q5) (by simp only [sI, kN_succ, costAllV])
  · exact J_c ((hval _ rfl q3).2.1 q4 q5) (by simp only [sI, kN_succ, costAllV])
theorem x_pivots {s : Int32} (W : WW ad w h) (hC : isC i) (hR : CR w i V) (hV : VOK V) (hc : wr w 0 0 = i) (kk : KC ad P w [0] (setT V s) (.int (pivV V s))) : WP ga L xs (d + 4) 97 [.ref (ad 0), .int s] h P := by
  have hn := hV.n.2
  refine WP.enter kX6_pivots (Nat.le_of_ble_eq_true rfl) (fun J hJ => ?_)
  have loop : isSetV V s = true → ∀ bg m, m ≤ nm V → J 1 [some (.ref (ad 0)), some (.int s), some (.int (mkS (fun m => decide (¬ meetsV V (s ^^^ b1 m) = meetsV V s)) m)), some (.int (kI (m : Int)))] [] h bg := fun hset bg => up_ind (fun m hm ih => ?_)
  · refine hJ 0 _ _ rfl _ _ _ _ (x_aload rfl (x_iload rfl (x_cvb rfl (Nat.le_of_ble_eq_true rfl) (isO_W W (by decide) shp_0) ⟨by decide, by decide⟩ (c_reqSet W hC hR hV hc (fun t2 => ?_) (fun t2 => xk_v (x_sipush (x_istore rfl (x_sipush (x_istore rfl (x_goto (?_)))))))))))
    · exact kk.no 0 (setT1 t2) W kp_refl
    · exact loop t2 _ 0 (Nat.zero_le _)
  have hs := isSet_sok hV hset
  have es : mkS (fun m => decide (¬ meetsV V (s ^^^ b1 m) = meetsV V s)) (m + 1) = mkS (fun m => decide (¬ meetsV V (s ^^^ b1 m) = meetsV V s)) m ||| (if decide (¬ meetsV V (s ^^^ b1 m) = meetsV V s) = true then b1 m else kI 0) := rfl
  have hbi : ∀ a b : Bool, bI a = bI b ↔ a = b := by decide
  refine hJ 1 _ _ rfl _ _ _ _ (x_iload rfl (x_aload rfl (w_getr W 6 0 (t := i) (by decide) shp_0 rfl rfl hc (w_geti W 0 4 hC.lt hC.sh rfl rfl (x_br2 (fun q1 => have q1 := ge_y (hR.n hV) (by omega) q1; hJ 3 _ _ rfl _ _ _ _ (x_iload rfl (x_iret (nrwI _) ?_))) (fun q1 => have q1 := ge_n (hR.n hV) (by omega) q1; x_aload rfl (w_getr W 6 0 (t := i) (by decide) shp_0 rfl rfl hc (x_iload rfl (x_sipush (x_iload rfl (x_shl1 (by omega) (x_ixor (x_cv rfl (Nat.le_of_ble_eq_true rfl) (isO_W W hC.lt hC.sh) (c_meets W hC hR (hs.tog q1) (xk_go (x_aload rfl (w_getr W 6 0 (t := i) (by decide) shp_0 rfl rfl hc (x_iload rfl (x_cv rfl (Nat.le_of_ble_eq_true rfl) (isO_W W hC.lt hC.sh) (c_meets W hC hR hs (xk_go (x_br2 (fun q2 => have q2 := cy_eq q2; hJ 2 _ _ rfl _ _ _ _ (x_iinc rfl rfl (x_goto (?_)))) (fun q2 => have q2 := cn_eq q2; x_iload rfl (x_sipush (x_iload rfl (x_shl1 (by omega) (x_ior (x_istore rfl (x_goto (hJ 2 _ _ rfl _ _ _ _ (x_iinc rfl rfl (x_goto (?_)))))))))))))))))))))))))))))))))
  · have e : m = nm V := by omega
    subst e
    exact kk.yes (setT0 hset) W kp_refl
  · have q2 := (hbi _ _).mp q2
    rw [decide_eq_false (fun z => z q2)] at es
    refine J_c (ih q1) ?_
    simp only [sI, kN_succ, es, Bool.false_eq_true, if_false, kI_zero, Int32.or_zero]
  · have q2 : ¬ meetsV V (s ^^^ b1 m) = meetsV V s := fun z => q2 (by rw [z])
    rw [decide_eq_true q2] at es
    refine J_c (ih q1) ?_
    simp only [sI, kN_succ, es, if_true]
theorem low_bit {V : VT} {s e : Int32} (hV : VOK V) (he : eagerP V s e) (h0 : ¬ e = 0) : restV V s = false ∧ (e &&& (-e)) = b1 (fstG (gainP V s) (nm V)) := by
  have hn := hV.n.2
  have hs : sok (nm V) e := ⟨hn, fun j hj => by rw [he j]; simp; omega⟩
  obtain ⟨a, ha, rfl⟩ := sok12 hs
  have ha0 : 0 < a := by
    rcases Nat.eq_zero_or_pos a with h | h
    · subst h; exact absurd rfl h0
    · exact h
  obtain ⟨m, m1, m2, m3, m4⟩ := low_all a ha ha0
  have g1 := he m
  rw [m3] at g1
  have g1 : m < nm V ∧ 0 < gainV V s m := by simpa using g1.symm
  refine ⟨decide_eq_false (fun hh => hh m g1.1 g1.2), ?_⟩
  have hno : ∀ j, j < m → gainP V s j = false := by
    intro j hj
    have g2 := he j
    rw [m4 j hj] at g2
    have : ¬ 0 < gainV V s j := by
      intro hh
      simp [hh, show j < nm V by omega] at g2
    exact decide_eq_false this
  rw [fst_is (p := gainP V s) (decide_eq_true g1.2) hno g1.1]
  exact m2
theorem x_replies {s x : Int32} (W : WW ad w h) (hC : isC i) (hR : CR w i V) (hV : VOK V) (hc : wr w 0 0 = i) (kk : KC ad P w [0] (replT V s x) (.int (replV V s x))) : WP ga L xs (d + 4) 98 [.ref (ad 0), .int s, .int x] h P := by
  have hn := hV.n.2
  refine WP.enter kX6_replies (Nat.le_of_ble_eq_true rfl) (fun J hJ => ?_)
  have sokR : isSetV V s = true → ∀ k, (∀ j, j < k → restV V (repl V s j) = false) → sok (nm V) (repl V s k) := by
    intro hset k
    induction k with
    | zero => intro _; exact isSet_sok hV hset
    | succ k ih =>
      intro hno
      exact (ih (fun j hj => hno j (by omega))).tog (ftg_least (hno k (by omega))).1
  have loop : isSetV V s = true → inV x 0 1 = true → ∀ bg m, m ≤ 4097 → (∀ j, j < m → restV V (repl V s j) = false) → ∀ z, J 1 [some (.ref (ad 0)), some (.int s), some (.int x), some (.int (repl V s m)), some (.int (kI (m : Int))), z] [] h bg := fun hset hx bg => up_ind (fun m hm ih hno z => ?_)
  · refine hJ 0 _ _ rfl _ _ _ _ (x_aload rfl (x_iload rfl (x_cvb rfl (Nat.le_of_ble_eq_true rfl) (isO_W W (by decide) shp_0) ⟨by decide, by decide⟩ (c_reqSet W hC hR hV hc (fun t2 => ?_) (fun t2 => xk_v (x_iload rfl (x_sipush (x_sipush (x_csb rfl (Nat.le_of_ble_eq_true rfl) ⟨by decide, by decide⟩ (c_reqWithin rfl rfl (by omega) (fun t3 => ?_) (fun t3 => xk_v (x_iload rfl (x_istore rfl (x_sipush (x_istore rfl (x_goto (?_)))))))))))))))))
    · exact kk.no 0 (if_neg (fun z => by rw [z.1] at t2; cases t2)) W kp_refl
    · exact kk.no 0 (if_neg (fun z => by rw [z.2] at t3; cases t3)) W kp_refl
    · exact loop t2 t3 _ 0 (Nat.zero_le _) (fun j hj => by omega) _
  have hT : replT V s x = 0 := if_pos ⟨hset, hx⟩
  have hs := sokR hset m hno
  refine hJ 1 _ _ rfl _ _ _ _ (x_iload rfl (x_sipush (x_br2 (fun q1 => have q1 := gt_y (n := 4096) rfl (by omega) q1; hJ 5 _ _ rfl _ _ _ _ (x_sipush (x_iret (nrwI _) ?_))) (fun q1 => have q1 := gt_n (n := 4096) rfl (by omega) q1; x_aload rfl (w_getr W 6 0 (t := i) (by decide) shp_0 rfl rfl hc (x_iload rfl (x_cv rfl (Nat.le_of_ble_eq_true rfl) (isO_W W hC.lt hC.sh) (c_eager W hC hR hV hs (fun e he => xk_go (x_istore rfl (x_iload rfl (x_br (fun q2 => have q2 := cy_ne q2; hJ 4 _ _ rfl _ _ _ _ (x_iload rfl (x_iload rfl (x_iload rfl (x_ineg (x_iand (x_ixor (x_istore rfl (x_iinc rfl rfl (x_goto (?_))))))))))) (fun q2 => have q2 := cn_ne q2; x_iload rfl (x_br (fun q3 => have q3 := cy_ne q3; hJ 2 _ _ rfl _ _ _ _ (x_iload rfl (x_goto (hJ 3 _ _ rfl _ _ _ _ (x_iret (nrwI _) ?_))))) (fun q3 => have q3 := cn_ne q3; x_iload rfl (x_goto (hJ 3 _ _ rfl _ _ _ _ (x_iret (nrwI _) ?_))))))))))))))))))
  · have e : fstG (fun k => restV V (repl V s k)) 4097 = 4097 := fst_all (fun j hj => hno j (by omega))
    unfold replV at kk
    rw [e, if_neg (by omega)] at kk
    exact kk.yes hT W kp_refl
  · obtain ⟨e0, e1⟩ := low_bit hV he q2
    refine J_c (ih (by omega) (fun j hj => ?_) (some (.int e))) ?_
    · by_cases ej : j = m
      · rw [ej]; exact e0
      · exact hno j (by omega)
    · have e3 : repl V s (m + 1) = repl V s m ^^^ b1 (fstG (gainP V (repl V s m)) (nm V)) := rfl
      rw [e3, ← e1]
      simp only [sI, kN_succ]
  · have er := (eager_zero he).mp q2
    have e9 : fstG (fun k => restV V (repl V s k)) 4097 = m := fst_is er hno (by omega)
    unfold replV at kk
    rw [e9, if_pos (by omega), if_neg (show ¬ x = kI 0 from q3)] at kk
    exact kk.yes hT W kp_refl
  · have er := (eager_zero he).mp q2
    have e9 : fstG (fun k => restV V (repl V s k)) 4097 = m := fst_is er hno (by omega)
    unfold replV at kk
    rw [e9, if_pos (by omega), if_pos (show x = kI 0 from q3)] at kk
    exact kk.yes hT W kp_refl
end X6
