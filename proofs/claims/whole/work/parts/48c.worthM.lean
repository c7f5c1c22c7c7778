/-! ===== what one is worth: the model ===== -/
def nev2 (V : VT) (a : Nat) : VT := upd (upd V (6 + 4 * a) (kI 1)) (9 + 4 * a) (kI 0)
theorem n2_eq {V : VT} {a k : Nat} (h : k ≠ 7 + 4 * a) : neverV V a k = nev2 V a k := upd_ne h
theorem n2_low {V : VT} {a k : Nat} (h : k < 6) : nev2 V a k = V k := (n2_eq (by omega)).symm.trans (nev_low h)
theorem n2_R {V : VT} {a m : Nat} : vR (nev2 V a) m = if m = a then kI 1 else vR V m := (n2_eq (show 6 + 4 * m ≠ 7 + 4 * a by omega)).symm.trans nev_R
theorem n2_N {V : VT} {a m : Nat} : vN (nev2 V a) m = vN V m := (upd_ne (by omega)).trans (upd_ne (by omega))
theorem n2_C {V : VT} {a m : Nat} : vC (nev2 V a) m = vC V m := (n2_eq (show 8 + 4 * m ≠ 7 + 4 * a by omega)).symm.trans nev_C
theorem n2_U {V : VT} {a m : Nat} : vU (nev2 V a) m = if m = a then kI 0 else vU V m := (n2_eq (show 9 + 4 * m ≠ 7 + 4 * a by omega)).symm.trans nev_U
theorem n2_S {V : VT} {a m : Nat} (ha : a < 12) : vS (nev2 V a) m = vS V m := (n2_eq (show 54 + m ≠ 7 + 4 * a by omega)).symm.trans (nev_S ha)
theorem n2_nm {V : VT} {a : Nat} : nm (nev2 V a) = nm V := by
  unfold nm
  rw [n2_low (by omega)]
theorem n2_wk {V : VT} {a : Nat} : wk (nev2 V a) = wk V := by
  unfold wk
  rw [n2_low (by omega)]
theorem VOK.nev2 {V : VT} {a : Nat} (hV : VOK V) (ha : a < 12) : VOK (nev2 V a) := by
  obtain ⟨⟨a0, a1, a2, a3, a4, a5⟩, hm, hj⟩ := hV
  refine ⟨⟨?_, ?_, ?_, ?_, ?_, ?_⟩, fun m hm9 => ?_, fun j hj9 => ?_⟩
  · rw [n2_low (by omega)]; exact a0
  · rw [n2_low (by omega)]; exact a1
  · rw [n2_low (by omega)]; exact a2
  · rw [n2_low (by omega)]; exact a3
  · rw [n2_low (by omega)]; exact a4
  · rw [n2_low (by omega)]; exact a5
  · rw [n2_nm] at hm9
    rw [n2_R, n2_N, n2_C, n2_U]
    by_cases h : m = a
    · simp only [if_pos h]
      refine ⟨by unfold btw; decide, (hm m hm9).2.1, (hm m hm9).2.2.1, Or.inl rfl, fun z => absurd z (by decide), fun z => absurd z (by decide)⟩
    · simp only [if_neg h]
      exact hm m hm9
  · rw [n2_wk] at hj9
    rw [n2_nm, n2_S ha]
    exact hj j hj9
theorem n2_met {V : VT} {a n : Nat} (ha : a < 12) : metV (neverV V a) n = metV (nev2 V a) n := offN_met ha (fun _ h => n2_eq h) (n2_R.trans (if_pos rfl)) n
theorem n2_back {V : VT} {a : Nat} : upd (upd (nev2 V a) (6 + 4 * a + 0) (V (6 + 4 * a + 0))) (6 + 4 * a + 3) (V (6 + 4 * a + 3)) = V := by
  funext k
  by_cases h1 : k = 6 + 4 * a + 3
  · rw [h1, upd_self]
  · rw [upd_ne h1]
    by_cases h2 : k = 6 + 4 * a + 0
    · rw [h2, upd_self]
    · rw [upd_ne h2]
      exact (upd_ne (by omega)).trans (upd_ne (by omega))
section B1
variable {ga : Nat → Nat} {L : Nat} {xs : Nat → Int32} {d : Nat} {h : ac_H} {P : ac_P} {ad : Nat → Nat} {w : Wst} {i : Nat} {V : VT}
theorem m_worth {x y : Int32} (W : WW ad w h) (hK : wa w 81 = V) (hV : VOK V) (kk : KQ ad P w (worthT V x y) (.int (worthV V x y))) : WP ga L xs (d + 9) 228 [.ref (ad 80), .int x, .int y] h P := by
  have hn := hV.n.2
  have hw := hV.w.2
  have wy : inV y 1 60 = decide ((Int64.ofNat 1).toInt ≤ y.toInt64.toInt ∧ y.toInt64.toInt ≤ (Int64.ofNat 60).toInt) := (inV_l (a := 1) (b := 60) (by omega) (by omega)).symm
  have yn : decide ((Int64.ofNat 1).toInt ≤ y.toInt64.toInt ∧ y.toInt64.toInt ≤ (Int64.ofNat 60).toInt) = true → y = kI (tN y : Int) ∧ 1 ≤ tN y ∧ tN y ≤ 60 := fun q => xnV (a := 1) (b := 60) (wy.trans q)
  have ixx : isMemV V x = true → ∀ t : Nat, kI 6 + kI 4 * x + kI (t : Int) = kI ((6 + 4 * tN x + t : Nat) : Int) := fun q t => by
    have h9 := of_ix (tN x) t
    rw [← (isMem_m q).1] at h9
    exact h9
  have hk5 : ∀ w3 : Wst, wa w3 81 = V → wa (sa (sa w3 81 (upd (wa w3 81) (6 + 4 * tN x + 0) (kI 1))) 81 (upd (wa (sa w3 81 (upd (wa w3 81) (6 + 4 * tN x + 0) (kI 1))) 81) (6 + 4 * tN x + 3) (kI 0))) 81 = nev2 V (tN x) := fun w3 h => by
    rw [wa_self, wa_self, h, show 6 + 4 * tN x + 3 = 9 + 4 * tN x by omega]
    rfl
  unfold worthT at kk
  refine WP.enter kX7_worth (Nat.le_of_ble_eq_true rfl) (fun J hJ => ?_)
  refine hJ 0 _ _ rfl _ _ _ _ (x_aload rfl (x_aload rfl (x_iload rfl (x_cv rfl (Nat.le_of_ble_eq_true rfl) (isO_W W (by decide) shp_80) (c7_isMember W hK hV (xk_go (x_br (fun q1 => have q1 := bI_ne0.mp q1; hJ 1 _ _ rfl _ _ _ _ (x_iload rfl (x_i2l (x_ldc2 (x_ldc2 (x_cs rfl (Nat.le_of_ble_eq_true rfl) (c7_within (xk_go (x_br (fun q2 => have q2 := bI_eq0.mp q2; hJ 2 _ _ rfl _ _ _ _ (x_sipush (x_goto (hJ 3 _ _ rfl _ _ _ _ (w_puti W 7 4 (by decide) shp_80 rfl rfl (okI rfl) (fun h1 W1 => x_aload rfl (w_geti W1 7 4 (by decide) shp_80 rfl rfl (x_br (fun q3 => absurd (show kI (2) ≤ 0 from q3) (by decide)) (fun q3 => x_sipush (x_iret (nrwI _) ?_)))))))))) (fun q2 => have q2 := bI_ne0.mp q2; x_sipush (x_goto (hJ 3 _ _ rfl _ _ _ _ (w_puti W 7 4 (by decide) shp_80 rfl rfl (okI rfl) (fun h2 W2 => x_aload rfl (w_geti W2 7 4 (by decide) shp_80 rfl rfl (x_br (fun q4 => hJ 4 _ _ rfl _ _ _ _ (x_aload rfl (x_iload rfl (x_cv rfl (Nat.le_of_ble_eq_true rfl) (isO_W W2 (by decide) shp_80) (c7_metAhead W2 hK hV (yn q2).1 (yn q2).2.2 (fun h3 w3 W3 e3 f3 => xk_go (x_istore rfl (x_aload rfl (x_iload rfl (x_sipush (x_cv rfl (Nat.le_of_ble_eq_true rfl) (isO_W W3 (by decide) shp_80) (c7_of W3 ((e3 81 (by simp)).2.2.1.trans hK) (isMem_m q1).1 rfl (by have := (isMem_m q1).2; omega) (by decide) (xk_go (x_istore rfl (x_aload rfl (x_iload rfl (x_sipush (x_cv rfl (Nat.le_of_ble_eq_true rfl) (isO_W W3 (by decide) shp_80) (c7_of W3 ((e3 81 (by simp)).2.2.1.trans hK) (isMem_m q1).1 rfl (by have := (isMem_m q1).2; omega) (by decide) (xk_go (x_istore rfl (x_aload rfl (w_getr W3 7 0 (t := 81) (by decide) shp_80 rfl rfl rfl (x_sipush (x_sipush (x_iload rfl (x_imul (x_iadd (x_sipush (x_iadd (x_sipush (w_iast W3 (6 + 4 * tN x + 0) (by decide) shp_81 (ixx q1 0) (by have := (isMem_m q1).2; omega) (by decide) (fun h4 W4 => x_aload rfl (w_getr W4 7 0 (t := 81) (by decide) shp_80 rfl rfl rfl (x_sipush (x_sipush (x_iload rfl (x_imul (x_iadd (x_sipush (x_iadd (x_sipush (w_iast W4 (6 + 4 * tN x + 3) (by decide) shp_81 (ixx q1 3) (by have := (isMem_m q1).2; omega) (by decide) (fun h5 W5 => x_aload rfl (x_iload rfl (x_cv rfl (Nat.le_of_ble_eq_true rfl) (isO_W W5 (by decide) shp_80) (c7_metAhead W5 (hk5 w3 ((e3 81 (by simp)).2.2.1.trans hK)) (hV.nev2 (by have := (isMem_m q1).2; omega)) (yn q2).1 (yn q2).2.2 (fun h6 w6 W6 e6 f6 => xk_go (x_istore rfl (x_aload rfl (w_getr W6 7 0 (t := 81) (by decide) shp_80 rfl rfl rfl (x_sipush (x_sipush (x_iload rfl (x_imul (x_iadd (x_sipush (x_iadd (x_iload rfl (w_iast W6 (6 + 4 * tN x + 0) (by decide) shp_81 (ixx q1 0) (by have := (isMem_m q1).2; omega) (by decide) (fun h7 W7 => x_aload rfl (w_getr W7 7 0 (t := 81) (by decide) shp_80 rfl rfl rfl (x_sipush (x_sipush (x_iload rfl (x_imul (x_iadd (x_sipush (x_iadd (x_iload rfl (w_iast W7 (6 + 4 * tN x + 3) (by decide) shp_81 (ixx q1 3) (by have := (isMem_m q1).2; omega) (by decide) (fun h8 W8 => x_iload rfl (x_iload rfl (x_isub (x_iret (nrwI _) ?_))))))))))))))))))))))))))))))))))))))))))))))))))))))))))))))))))))))))))) (fun q4 => absurd (show kI (0) ≤ 0 by decide) q4))))))))))))))))) (fun q1 => have q1 := bI_nn q1; x_sipush (x_goto (hJ 3 _ _ rfl _ _ _ _ (w_puti W 7 4 (by decide) shp_80 rfl rfl (okI rfl) (fun h9 W9 => x_aload rfl (w_geti W9 7 4 (by decide) shp_80 rfl rfl (x_br (fun q5 => absurd (show kI (1) ≤ 0 from q5) (by decide)) (fun q5 => x_sipush (x_iret (nrwI _) ?_))))))))))))))))
  · exact kk.go W1 kpM4 kfM4 (by rw [if_pos q1, if_neg (by rw [wy, q2]; decide)]) wn4 (fun h => by cases h)
  · have hw6 : wa w6 81 = nev2 V (tN x) := (e6 81 (by simp)).2.2.1.trans (hk5 w3 ((e3 81 (by simp)).2.2.1.trans hK))
    have e8 : upd (wa (sa w6 81 (upd (wa w6 81) (6 + 4 * tN x + 0) (V (6 + 4 * tN x + 0)))) 81) (6 + 4 * tN x + 3) (V (6 + 4 * tN x + 3)) = wa w 81 := by
      rw [wa_self, hw6, n2_back, hK]
    rw [e8] at W8
    have k3 : kq SM w w3 := kq.of (kpM4.trans (e3.mono l1786))
    have k6 : kq SM w w6 := (k3.sa.sa).step (e6.mono l1786)
    have f6' : kf FM w w6 := (((kfM4.trans (f3.mono f17)).trans kf_sa).trans kf_sa).trans (f6.mono f17)
    refine kk.go W8 k6.sa ((f6'.trans kf_sa).trans kf_sa) (by rw [if_pos q1, if_pos (wy.trans q2)]) ((f6 4 (by simp)).trans ((f3 4 (by simp)).trans wn4)) (fun _ => ?_)
    unfold worthV
    rw [n2_met (by have := (isMem_m q1).2; omega)]
  · exact kk.go W9 kpM4 kfM4 (if_neg (by rw [q1]; decide)) wn4 (fun h => by cases h)
end B1
