/-! ===== the law's cases ===== -/
section STL
variable {call : Nat → List Value → ac_H → ac_P → Prop} {cs : Nat → Nat × Nat} {ga : Nat → Nat} {L : Nat} {xs : Nat → Int32} {mb : Nat × Nat} {hands : List (Nat × Int)} {rt : Option FieldType} {Q : ac_P} {J : Nat → ac_X}
variable {is : ac_I} {ls : ac_L} {s : List Value} {h : ac_H} {bg : Nat × Nat} {z : Nat}
theorem x_fal {x : Int32} (j : Nat) (hx : x = kI (j : Int)) (hj : j < L) (hL : L ≤ 3072) (kk : xB call cs ga L xs sl mb hands rt Q J is ls (.int (xs j) :: s) h bg) : xB call cs ga L xs sl mb hands rt Q J ((.faload, z) :: is) ls (.int x :: .ref (ga 0) :: s) h bg := by
  subst hx
  have h1 : (kI (j : Int)).toInt = j := kN_toInt (by omega)
  have h2 : (kI (j : Int)).toNatClampNeg = j := by
    show (kI (j : Int)).toInt.toNat = j
    rw [h1]
    rfl
  simp only [xB]
  refine ⟨trivial, ?_, by rw [h2]; exact kk⟩
  unfold vp_in
  rw [h2, Int32.lt_iff_toInt_lt, h1]
  show ¬ ((j : Int) < (0 : Int32).toInt ∨ L ≤ j)
  have : (0 : Int32).toInt = 0 := rfl
  omega
theorem x_cal (kk : xB call cs ga L xs sl mb hands rt Q J is ls (.int (Int32.ofNat L) :: s) h bg) : xB call cs ga L xs sl mb hands rt Q J ((.caload, z) :: is) ls (.ref (ga 0) :: s) h bg := by
  simp only [xB]
  exact ⟨trivial, kk⟩
end STL
def LMB : Nat × Nat := (601024, 7293034)
def LQ : ac_P := fun o _ => o = .inl (some (.int (kI 1)))
def LJ (ga : Nat → Nat) (L : Nat) (xs : Nat → Int32) (D : Nat) (J : Nat → ac_X) : Prop := ∀ (b pb : Nat) (is : ac_I), (mS mL_law)[b]? = some (pb, is) → ∀ (ls : ac_L) (st : List Value) (h : ac_H) (bg : Nat × Nat), xB (WP ga L xs D) cst ga L xs sl LMB [] ret LQ J is ls st h bg → J b ls st h bg
def lwl (ga ad : Nat → Nat) (n : Nat) (z5 z6 z7 : Option Value) : ac_L := [some (.ref (ga 0)), some (.ref (ad 0)), some (.ref (ad 80)), some (.ref (ad 96)), some (.int (kI ((6 * n : Nat) : Int))), z5, z6, z7]
def bOK (bg : Nat × Nat) : Prop := bg.1 ≤ 600000 ∧ bg.2 ≤ 7000000
def LN (ga ad : Nat → Nat) (n : Nat) (J : Nat → ac_X) (bg : Nat × Nat) : Prop := ∀ (h' : ac_H) (w' : Wst) (S' : StT) (bg' : Nat × Nat) (z5 z6 z7 : Option Value), WW ad w' h' → RCl w' S' → RMo w' S' → SOK S' → bg'.1 ≤ bg.1 + 10 ∧ bg'.2 ≤ bg.2 + 60 → J 143 (lwl ga ad n z5 z6 z7) [] h' bg'
theorem lw_bg {bg : Nat × Nat} {k : Nat} (hb : bOK bg) (hk : (Nat.ble (cst k).1 10 && Nat.ble (cst k).2 60) = true) : bgle (bgad bg (cst k)) LMB := by
  rw [Bool.and_eq_true] at hk
  have h1 := Nat.le_of_ble_eq_true hk.1
  have h2 := Nat.le_of_ble_eq_true hk.2
  have h3 := hb.1
  have h4 := hb.2
  refine ⟨?_, ?_⟩
  · show bg.1 + (cst k).1 ≤ 601024
    omega
  · show bg.2 + (cst k).2 ≤ 7293034
    omega
theorem lw_bc {bg : Nat × Nat} {k : Nat} (hk : (Nat.ble (cst k).1 10 && Nat.ble (cst k).2 60) = true) : (bgad bg (cst k)).1 ≤ bg.1 + 10 ∧ (bgad bg (cst k)).2 ≤ bg.2 + 60 := by
  rw [Bool.and_eq_true] at hk
  have h1 := Nat.le_of_ble_eq_true hk.1
  have h2 := Nat.le_of_ble_eq_true hk.2
  exact ⟨Nat.add_le_add_left h1 _, Nat.add_le_add_left h2 _⟩
theorem lw_b0 {bg : Nat × Nat} : bg.1 ≤ bg.1 + 10 ∧ bg.2 ≤ bg.2 + 60 := ⟨Nat.le_add_right _ _, Nat.le_add_right _ _⟩
theorem RMo.kl {w w' : Wst} {S : StT} (h : RMo w S) (k : ∀ i, 80 ≤ i → i ≠ 96 → same w w' i) : RMo w' S := h.keep (by rw [(k 80 (by omega) (by omega)).1]) (by rw [(k 80 (by omega) (by omega)).1]) (by rw [(k 80 (by omega) (by omega)).1]) (fun i hi => k i (by omega) (by omega))
theorem T_ne {T : Nat} (h : ¬ kI (T : Int) = 0) : ¬ T = 0 := fun z => h (by rw [z]; rfl)
theorem T_eq {T n : Nat} (hn : T ≤ n) (h9 : n ≤ 1000) (h : kI (T : Int) = 0) : T = 0 := (kN_inj (b := 0) (by omega) (by omega)).mp h
section W1
variable {S : StT} {n : Nat} {bg : Nat × Nat} {z5 z6 z7 : Option Value} {J : Nat → ac_X}
variable {ga : Nat → Nat} {L : Nat} {xs : Nat → Int32} {d : Nat} {h : ac_H} {ad : Nat → Nat} {w : Wst}
theorem m_thrown {P : ac_P} (W : WW ad w h) (hP : P (.inl (some (.int (wn w 80 4)))) h) : WP ga L xs (d + 1) 138 [.ref (ad 80)] h P := by
  refine WP.enter kX7_thrown (Nat.le_of_ble_eq_true rfl) (fun J hJ => ?_)
  exact hJ 0 _ _ rfl _ _ _ _ (x_aload rfl (w_geti W 7 4 (by decide) shp_80 rfl rfl (x_iret (nrwI _) hP)))
theorem m_clubI {x : Int32} {P : ac_P} (W : WW ad w h) (hS : RMo w S) (hO : SOK S) (kk : KQm ad P w (clT S.2.2.2.1.2 x) (some (.int (clI S.2.2.2.1.1 (tN x)))) S (clSt S (tN x))) : WP ga L xs (d + 7) 157 [.ref (ad 80), .int x] h P := m_club W hS hO (by rw [clRes_eq]; exact kk)
theorem law_2 (hJ : LJ ga L xs (d + 16) J) (hn : 6 * n + 6 ≤ L) (hL : L ≤ 3072) (W : WW ad w h) (hC : RCl w S) (hM : RMo w S) (hO : SOK S) (hb : bOK bg) (hN : LN ga ad n J bg) : J 2 (lwl ga ad n z5 z6 z7) [] h bg := by
  obtain ⟨i, hcb, hcr⟩ := id hC.1
  refine hJ 2 _ _ rfl _ _ _ _ (x_aload rfl (x_aload rfl (x_iload rfl (x_sipush (x_iadd (x_fal (6 * n + 1) (kN_add _ 1) (by omega) hL (x_aload rfl (x_iload rfl (x_sipush (x_iadd (x_fal (6 * n + 2) (kN_add _ 2) (by omega) hL (x_aload rfl (x_iload rfl (x_sipush (x_iadd (x_fal (6 * n + 3) (kN_add _ 3) (by omega) hL (x_aload rfl (x_iload rfl (x_sipush (x_iadd (x_fal (6 * n + 4) (kN_add _ 4) (by omega) hL (x_aload rfl (x_iload rfl (x_sipush (x_iadd (x_fal (6 * n + 5) (kN_add _ 5) (by omega) hL (x_cv rfl (Nat.le_of_ble_eq_true rfl) (isO_W W (by decide) shp_0) (x_feed W hC hO ⟨fun hT h1 w1 W1 k1 hC1 => xk_go (x_aload rfl (x_aload rfl (x_iload rfl (x_sipush (x_iadd (x_fal (6 * n + 1) (kN_add _ 1) (by omega) hL (x_aload rfl (x_iload rfl (x_sipush (x_iadd (x_fal (6 * n + 2) (kN_add _ 2) (by omega) hL (x_aload rfl (x_iload rfl (x_sipush (x_iadd (x_fal (6 * n + 3) (kN_add _ 3) (by omega) hL (x_aload rfl (x_iload rfl (x_sipush (x_iadd (x_fal (6 * n + 4) (kN_add _ 4) (by omega) hL (x_aload rfl (x_iload rfl (x_sipush (x_iadd (x_fal (6 * n + 5) (kN_add _ 5) (by omega) hL (x_cv rfl (Nat.le_of_ble_eq_true rfl) (isO_W W1 (by decide) shp_80) (WP.shape kX7_feed rfl (m_feed W1 (hM.kc k1) hO (KQm.int (Or.inl rfl) (fun h2 w2 x2 W2 k2 y2 n2 f2 e2 => xk_go (x_br2 (fun q1 => have q1 := cy_eq q1; ?_) (fun q1 => have q1 := cn_eq q1; x_sipush (x_iret (by first | exact nrwB _ | rfl | decide) ?_)))))))))))))))))))))))))))))))))), fun j hT => absurd hT (by omega)⟩))))))))))))))))))))))))))))
  · exact hN _ _ _ _ _ _ _ W2 (hC1.km k2) (y2 rfl) (hO.feed) lw_b0
  · exact absurd (e2 rfl).symm q1
theorem law_3 (hJ : LJ ga L xs (d + 16) J) (hn : 6 * n + 6 ≤ L) (hL : L ≤ 3072) (W : WW ad w h) (hC : RCl w S) (hM : RMo w S) (hO : SOK S) (hb : bOK bg) (hN : LN ga ad n J bg) : J 3 (lwl ga ad n z5 z6 z7) [] h bg := by
  obtain ⟨i, hcb, hcr⟩ := id hC.1
  refine hJ 3 _ _ rfl _ _ _ _ (x_aload rfl (x_aload rfl (x_iload rfl (x_sipush (x_iadd (x_fal (6 * n + 1) (kN_add _ 1) (by omega) hL (x_aload rfl (x_csb rfl (Nat.le_of_ble_eq_true rfl) (lw_bg hb rfl) (w_club W hC hO clT_le (fun h1 w1 W1 k1 y1 n1 => xk_go (x_istore rfl (x_aload rfl (x_aload rfl (x_iload rfl (x_sipush (x_iadd (x_fal (6 * n + 1) (kN_add _ 1) (by omega) hL (x_cv rfl (Nat.le_of_ble_eq_true rfl) (isO_W W1 (by decide) shp_80) (WP.shape kX7_club rfl (m_clubI W1 (hM.kl k1) hO (KQm.int (Or.inl rfl) (fun h2 w2 x2 W2 k2 y2 n2 f2 e2 => xk_go (x_istore rfl (x_aload rfl (x_cv rfl (Nat.le_of_ble_eq_true rfl) (isO_W W2 (by decide) shp_80) (m_thrown W2 (xk_go (x_iload rfl (x_br2 (fun q1 => have q1 := cy_eq q1; hJ 4 _ _ rfl _ _ _ _ (x_iload rfl (x_br (fun q2 => have q2 := cy_ne q2; hJ 5 _ _ rfl _ _ _ _ (x_goto (?_))) (fun q2 => have q2 := cn_ne q2; x_aload rfl (x_sipush (w_lald W2 0 (by decide) shp_96 rfl (by decide) (by decide) (x_iload rfl (x_i2l (x_lcmp (x_br (fun q3 => have q3 := lg_eq.mp (cy_eq q3); hJ 5 _ _ rfl _ _ _ _ (x_goto (?_))) (fun q3 => have q3 := (fun z => cn_eq q3 (lg_eq.mpr z)); x_sipush (x_iret (by first | exact nrwB _ | rfl | decide) ?_)))))))))))) (fun q1 => absurd f2 (cn_eq q1)))))))))))))))))))))))))))))))
  · have hT := T_ne q2
    exact hN _ _ _ _ _ _ _ W2 ((n1 hT).km k2) (n2 hT) hO (lw_bc rfl)
  · have hT := T_eq clT_le (by omega) q2
    exact hN _ _ _ _ _ _ _ W2 ((y1 hT).1.km k2) (y2 hT) (hO.club hT) (lw_bc rfl)
  · have hT := T_eq clT_le (by omega) q2
    have e1 := (y1 hT).2 _ rfl
    refine absurd ?_ q3
    show wl w2 96 0 = _
    rw [(congrFun (k2 96 (Or.inr rfl)).2.2.2 0), e1, e2 hT]
theorem law_6 (hJ : LJ ga L xs (d + 16) J) (hn : 6 * n + 6 ≤ L) (hL : L ≤ 3072) (W : WW ad w h) (hC : RCl w S) (hM : RMo w S) (hO : SOK S) (hb : bOK bg) (hN : LN ga ad n J bg) : J 6 (lwl ga ad n z5 z6 z7) [] h bg := by
  obtain ⟨i, hcb, hcr⟩ := id hC.1
  refine hJ 6 _ _ rfl _ _ _ _ (x_aload rfl (x_aload rfl (x_iload rfl (x_sipush (x_iadd (x_fal (6 * n + 1) (kN_add _ 1) (by omega) hL (x_cv rfl (Nat.le_of_ble_eq_true rfl) (isO_W W (by decide) shp_0) (x_fault W hC hO ⟨fun hT h1 w1 W1 k1 hC1 => xk_go (x_aload rfl (x_aload rfl (x_iload rfl (x_sipush (x_iadd (x_fal (6 * n + 1) (kN_add _ 1) (by omega) hL (x_cv rfl (Nat.le_of_ble_eq_true rfl) (isO_W W1 (by decide) shp_80) (WP.shape kX7_fault rfl (m_fault W1 (hM.kc k1) hO (KQm.int (Or.inl rfl) (fun h2 w2 x2 W2 k2 y2 n2 f2 e2 => xk_go (x_br2 (fun q1 => have q1 := cy_eq q1; ?_) (fun q1 => have q1 := cn_eq q1; x_sipush (x_iret (by first | exact nrwB _ | rfl | decide) ?_)))))))))))))), fun j hT => absurd hT (by omega)⟩))))))))
  · exact hN _ _ _ _ _ _ _ W2 (hC1.km k2) (y2 rfl) (hO) lw_b0
  · exact absurd (e2 rfl).symm q1
theorem law_7 (hJ : LJ ga L xs (d + 16) J) (hn : 6 * n + 6 ≤ L) (hL : L ≤ 3072) (W : WW ad w h) (hC : RCl w S) (hM : RMo w S) (hO : SOK S) (hb : bOK bg) (hN : LN ga ad n J bg) : J 7 (lwl ga ad n z5 z6 z7) [] h bg := by
  obtain ⟨i, hcb, hcr⟩ := id hC.1
  refine hJ 7 _ _ rfl _ _ _ _ (x_aload rfl (x_aload rfl (x_iload rfl (x_sipush (x_iadd (x_fal (6 * n + 1) (kN_add _ 1) (by omega) hL (x_aload rfl (x_iload rfl (x_sipush (x_iadd (x_fal (6 * n + 2) (kN_add _ 2) (by omega) hL (x_aload rfl (x_csb rfl (Nat.le_of_ble_eq_true rfl) (lw_bg hb rfl) (w_member W hC hO membT_le (fun h1 w1 W1 k1 y1 n1 => xk_go (x_istore rfl (x_aload rfl (x_aload rfl (x_iload rfl (x_sipush (x_iadd (x_fal (6 * n + 1) (kN_add _ 1) (by omega) hL (x_aload rfl (x_iload rfl (x_sipush (x_iadd (x_fal (6 * n + 2) (kN_add _ 2) (by omega) hL (x_cv rfl (Nat.le_of_ble_eq_true rfl) (isO_W W1 (by decide) shp_80) (WP.shape kX7_member rfl (m_member W1 (hM.kl k1).1 hO.1 (KQm.query (hM.kl k1) (KQm.int (Or.inl rfl) (fun h2 w2 x2 W2 k2 y2 n2 f2 e2 => xk_go (x_istore rfl (x_aload rfl (x_cv rfl (Nat.le_of_ble_eq_true rfl) (isO_W W2 (by decide) shp_80) (m_thrown W2 (xk_go (x_iload rfl (x_br2 (fun q1 => have q1 := cy_eq q1; hJ 8 _ _ rfl _ _ _ _ (x_iload rfl (x_br (fun q2 => have q2 := cy_ne q2; hJ 9 _ _ rfl _ _ _ _ (x_goto (?_))) (fun q2 => have q2 := cn_ne q2; x_aload rfl (x_sipush (w_lald W2 0 (by decide) shp_96 rfl (by decide) (by decide) (x_iload rfl (x_i2l (x_lcmp (x_br (fun q3 => have q3 := lg_eq.mp (cy_eq q3); hJ 9 _ _ rfl _ _ _ _ (x_goto (?_))) (fun q3 => have q3 := (fun z => cn_eq q3 (lg_eq.mpr z)); x_sipush (x_iret (by first | exact nrwB _ | rfl | decide) ?_)))))))))))) (fun q1 => absurd f2 (cn_eq q1))))))))))))))))))))))))))))))))))))))))))
  · have hT := T_ne q2
    exact hN _ _ _ _ _ _ _ W2 ((n1 hT).km k2) (n2 hT) hO (lw_bc rfl)
  · have hT := T_eq membT_le (by omega) q2
    exact hN _ _ _ _ _ _ _ W2 ((y1 hT).1.km k2) (y2 hT) (hO) (lw_bc rfl)
  · have hT := T_eq membT_le (by omega) q2
    have e1 := (y1 hT).2 _ rfl
    refine absurd ?_ q3
    show wl w2 96 0 = _
    rw [(congrFun (k2 96 (Or.inr rfl)).2.2.2 0), e1, e2 hT]
theorem law_10 (hJ : LJ ga L xs (d + 16) J) (hn : 6 * n + 6 ≤ L) (hL : L ≤ 3072) (W : WW ad w h) (hC : RCl w S) (hM : RMo w S) (hO : SOK S) (hb : bOK bg) (hN : LN ga ad n J bg) : J 10 (lwl ga ad n z5 z6 z7) [] h bg := by
  obtain ⟨i, hcb, hcr⟩ := id hC.1
  refine hJ 10 _ _ rfl _ _ _ _ (x_aload rfl (x_aload rfl (x_iload rfl (x_sipush (x_iadd (x_fal (6 * n + 1) (kN_add _ 1) (by omega) hL (x_aload rfl (x_csb rfl (Nat.le_of_ble_eq_true rfl) (lw_bg hb rfl) (w_quota W hC hO quotT_le (fun h1 w1 W1 k1 y1 n1 => xk_go (x_istore rfl (x_aload rfl (x_aload rfl (x_iload rfl (x_sipush (x_iadd (x_fal (6 * n + 1) (kN_add _ 1) (by omega) hL (x_cv rfl (Nat.le_of_ble_eq_true rfl) (isO_W W1 (by decide) shp_80) (WP.shape kX7_quota rfl (m_quota W1 (hM.kl k1) hO (KQm.int (Or.inl rfl) (fun h2 w2 x2 W2 k2 y2 n2 f2 e2 => xk_go (x_istore rfl (x_aload rfl (x_cv rfl (Nat.le_of_ble_eq_true rfl) (isO_W W2 (by decide) shp_80) (m_thrown W2 (xk_go (x_iload rfl (x_br2 (fun q1 => have q1 := cy_eq q1; hJ 11 _ _ rfl _ _ _ _ (x_iload rfl (x_br (fun q2 => have q2 := cy_ne q2; hJ 12 _ _ rfl _ _ _ _ (x_goto (?_))) (fun q2 => have q2 := cn_ne q2; x_aload rfl (x_sipush (w_lald W2 0 (by decide) shp_96 rfl (by decide) (by decide) (x_iload rfl (x_i2l (x_lcmp (x_br (fun q3 => have q3 := lg_eq.mp (cy_eq q3); hJ 12 _ _ rfl _ _ _ _ (x_goto (?_))) (fun q3 => have q3 := (fun z => cn_eq q3 (lg_eq.mpr z)); x_sipush (x_iret (by first | exact nrwB _ | rfl | decide) ?_)))))))))))) (fun q1 => absurd f2 (cn_eq q1)))))))))))))))))))))))))))))))
  · have hT := T_ne q2
    exact hN _ _ _ _ _ _ _ W2 ((n1 hT).km k2) (n2 hT) hO (lw_bc rfl)
  · have hT := T_eq quotT_le (by omega) q2
    exact hN _ _ _ _ _ _ _ W2 ((y1 hT).1.km k2) (y2 hT) (hO.quota hT) (lw_bc rfl)
  · have hT := T_eq quotT_le (by omega) q2
    have e1 := (y1 hT).2 _ rfl
    refine absurd ?_ q3
    show wl w2 96 0 = _
    rw [(congrFun (k2 96 (Or.inr rfl)).2.2.2 0), e1, e2 hT]
theorem law_13 (hJ : LJ ga L xs (d + 16) J) (hn : 6 * n + 6 ≤ L) (hL : L ≤ 3072) (W : WW ad w h) (hC : RCl w S) (hM : RMo w S) (hO : SOK S) (hb : bOK bg) (hN : LN ga ad n J bg) : J 13 (lwl ga ad n z5 z6 z7) [] h bg := by
  obtain ⟨i, hcb, hcr⟩ := id hC.1
  refine hJ 13 _ _ rfl _ _ _ _ (x_aload rfl (x_aload rfl (x_iload rfl (x_sipush (x_iadd (x_fal (6 * n + 1) (kN_add _ 1) (by omega) hL (x_aload rfl (x_csb rfl (Nat.le_of_ble_eq_true rfl) (lw_bg hb rfl) (w_week W hC hO roomT_le (fun h1 w1 W1 k1 y1 n1 => xk_go (x_istore rfl (x_aload rfl (x_aload rfl (x_iload rfl (x_sipush (x_iadd (x_fal (6 * n + 1) (kN_add _ 1) (by omega) hL (x_cv rfl (Nat.le_of_ble_eq_true rfl) (isO_W W1 (by decide) shp_80) (WP.shape kX7_week rfl (m_week W1 (hM.kl k1) hO (KQm.int (Or.inl rfl) (fun h2 w2 x2 W2 k2 y2 n2 f2 e2 => xk_go (x_istore rfl (x_aload rfl (x_cv rfl (Nat.le_of_ble_eq_true rfl) (isO_W W2 (by decide) shp_80) (m_thrown W2 (xk_go (x_iload rfl (x_br2 (fun q1 => have q1 := cy_eq q1; hJ 14 _ _ rfl _ _ _ _ (x_iload rfl (x_br (fun q2 => have q2 := cy_ne q2; hJ 15 _ _ rfl _ _ _ _ (x_goto (?_))) (fun q2 => have q2 := cn_ne q2; x_aload rfl (x_sipush (w_lald W2 0 (by decide) shp_96 rfl (by decide) (by decide) (x_iload rfl (x_i2l (x_lcmp (x_br (fun q3 => have q3 := lg_eq.mp (cy_eq q3); hJ 15 _ _ rfl _ _ _ _ (x_goto (?_))) (fun q3 => have q3 := (fun z => cn_eq q3 (lg_eq.mpr z)); x_sipush (x_iret (by first | exact nrwB _ | rfl | decide) ?_)))))))))))) (fun q1 => absurd f2 (cn_eq q1)))))))))))))))))))))))))))))))
  · have hT := T_ne q2
    exact hN _ _ _ _ _ _ _ W2 ((n1 hT).km k2) (n2 hT) hO (lw_bc rfl)
  · have hT := T_eq roomT_le (by omega) q2
    exact hN _ _ _ _ _ _ _ W2 ((y1 hT).1.km k2) (y2 hT) (hO.week hT) (lw_bc rfl)
  · have hT := T_eq roomT_le (by omega) q2
    have e1 := (y1 hT).2 _ rfl
    refine absurd ?_ q3
    show wl w2 96 0 = _
    rw [(congrFun (k2 96 (Or.inr rfl)).2.2.2 0), e1, e2 hT]
theorem law_16 (hJ : LJ ga L xs (d + 16) J) (hn : 6 * n + 6 ≤ L) (hL : L ≤ 3072) (W : WW ad w h) (hC : RCl w S) (hM : RMo w S) (hO : SOK S) (hb : bOK bg) (hN : LN ga ad n J bg) : J 16 (lwl ga ad n z5 z6 z7) [] h bg := by
  obtain ⟨i, hcb, hcr⟩ := id hC.1
  refine hJ 16 _ _ rfl _ _ _ _ (x_aload rfl (x_aload rfl (x_iload rfl (x_sipush (x_iadd (x_fal (6 * n + 1) (kN_add _ 1) (by omega) hL (x_aload rfl (x_csb rfl (Nat.le_of_ble_eq_true rfl) (lw_bg hb rfl) (w_told W hC hO toldT_le (fun h1 w1 W1 k1 y1 n1 => xk_go (x_istore rfl (x_aload rfl (x_aload rfl (x_iload rfl (x_sipush (x_iadd (x_fal (6 * n + 1) (kN_add _ 1) (by omega) hL (x_cv rfl (Nat.le_of_ble_eq_true rfl) (isO_W W1 (by decide) shp_80) (WP.shape kX7_told rfl (m_told W1 (hM.kl k1) hO (KQm.int (Or.inr rfl) (fun h2 w2 x2 W2 k2 y2 n2 f2 e2 => xk_go (x_istore rfl (x_aload rfl (x_cv rfl (Nat.le_of_ble_eq_true rfl) (isO_W W2 (by decide) shp_80) (m_thrown W2 (xk_go (x_iload rfl (x_br2 (fun q1 => have q1 := cy_eq q1; hJ 17 _ _ rfl _ _ _ _ (x_iload rfl (x_br (fun q2 => have q2 := cy_ne q2; hJ 20 _ _ rfl _ _ _ _ (x_goto (?_))) (fun q2 => have q2 := cn_ne q2; x_aload rfl (x_sipush (w_lald W2 0 (by decide) shp_96 rfl (by decide) (by decide) (x_iload rfl (x_br (fun q3 => have q3 := cy_eq q3; hJ 18 _ _ rfl _ _ _ _ (x_ldc2 (x_goto (hJ 19 _ _ rfl _ _ _ _ (x_lcmp (x_br (fun q4 => have q4 := lg_eq.mp (cy_eq q4); hJ 20 _ _ rfl _ _ _ _ (x_goto (?_))) (fun q4 => have q4 := (fun z => cn_eq q4 (lg_eq.mpr z)); x_sipush (x_iret (by first | exact nrwB _ | rfl | decide) ?_)))))))) (fun q3 => have q3 := cn_eq q3; x_ldc2 (x_goto (hJ 19 _ _ rfl _ _ _ _ (x_lcmp (x_br (fun q5 => have q5 := lg_eq.mp (cy_eq q5); hJ 20 _ _ rfl _ _ _ _ (x_goto (?_))) (fun q5 => have q5 := (fun z => cn_eq q5 (lg_eq.mpr z)); x_sipush (x_iret (by first | exact nrwB _ | rfl | decide) ?_))))))))))))))) (fun q1 => absurd f2 (cn_eq q1)))))))))))))))))))))))))))))))
  · have hT := T_ne q2
    exact hN _ _ _ _ _ _ _ W2 ((n1 hT).km k2) (n2 hT) hO (lw_bc rfl)
  · have hT := T_eq toldT_le (by omega) q2
    exact hN _ _ _ _ _ _ _ W2 ((y1 hT).1.km k2) (y2 hT) (hO.told hT) (lw_bc rfl)
  · have hT := T_eq toldT_le (by omega) q2
    refine absurd ?_ q4
    show wl w2 96 0 = _
    rw [congrFun (k2 96 (Or.inr rfl)).2.2.2 0, (y1 hT).2 _ rfl, ← e2 hT, q3]
    rfl
  · have hT := T_eq toldT_le (by omega) q2
    exact hN _ _ _ _ _ _ _ W2 ((y1 hT).1.km k2) (y2 hT) (hO.told hT) (lw_bc rfl)
  · have hT := T_eq toldT_le (by omega) q2
    refine absurd ?_ q5
    rw [e2 hT] at q3
    show wl w2 96 0 = _
    rw [congrFun (k2 96 (Or.inr rfl)).2.2.2 0, (y1 hT).2 _ rfl, bI_ne0.mp q3]
    rfl
theorem law_21 (hJ : LJ ga L xs (d + 16) J) (hn : 6 * n + 6 ≤ L) (hL : L ≤ 3072) (W : WW ad w h) (hC : RCl w S) (hM : RMo w S) (hO : SOK S) (hb : bOK bg) (hN : LN ga ad n J bg) : J 21 (lwl ga ad n z5 z6 z7) [] h bg := by
  obtain ⟨i, hcb, hcr⟩ := id hC.1
  refine hJ 21 _ _ rfl _ _ _ _ (x_aload rfl (x_aload rfl (x_iload rfl (x_sipush (x_iadd (x_fal (6 * n + 1) (kN_add _ 1) (by omega) hL (x_aload rfl (x_csb rfl (Nat.le_of_ble_eq_true rfl) (lw_bg hb rfl) (w_back W hC hO backT_le (fun h1 w1 W1 k1 y1 n1 => xk_go (x_istore rfl (x_aload rfl (x_aload rfl (x_iload rfl (x_sipush (x_iadd (x_fal (6 * n + 1) (kN_add _ 1) (by omega) hL (x_cv rfl (Nat.le_of_ble_eq_true rfl) (isO_W W1 (by decide) shp_80) (WP.shape kX7_back rfl (m_back W1 (hM.kl k1) hO (KQm.int (Or.inl rfl) (fun h2 w2 x2 W2 k2 y2 n2 f2 e2 => xk_go (x_istore rfl (x_aload rfl (x_cv rfl (Nat.le_of_ble_eq_true rfl) (isO_W W2 (by decide) shp_80) (m_thrown W2 (xk_go (x_iload rfl (x_br2 (fun q1 => have q1 := cy_eq q1; hJ 22 _ _ rfl _ _ _ _ (x_iload rfl (x_br (fun q2 => have q2 := cy_ne q2; hJ 23 _ _ rfl _ _ _ _ (x_goto (?_))) (fun q2 => have q2 := cn_ne q2; x_aload rfl (x_sipush (w_lald W2 0 (by decide) shp_96 rfl (by decide) (by decide) (x_iload rfl (x_i2l (x_lcmp (x_br (fun q3 => have q3 := lg_eq.mp (cy_eq q3); hJ 23 _ _ rfl _ _ _ _ (x_goto (?_))) (fun q3 => have q3 := (fun z => cn_eq q3 (lg_eq.mpr z)); x_sipush (x_iret (by first | exact nrwB _ | rfl | decide) ?_)))))))))))) (fun q1 => absurd f2 (cn_eq q1)))))))))))))))))))))))))))))))
  · have hT := T_ne q2
    exact hN _ _ _ _ _ _ _ W2 ((n1 hT).km k2) (n2 hT) hO (lw_bc rfl)
  · have hT := T_eq backT_le (by omega) q2
    exact hN _ _ _ _ _ _ _ W2 ((y1 hT).1.km k2) (y2 hT) (hO.back) (lw_bc rfl)
  · have hT := T_eq backT_le (by omega) q2
    have e1 := (y1 hT).2 _ rfl
    refine absurd ?_ q3
    show wl w2 96 0 = _
    rw [(congrFun (k2 96 (Or.inr rfl)).2.2.2 0), e1, e2 hT]
theorem law_24 (hJ : LJ ga L xs (d + 16) J) (hn : 6 * n + 6 ≤ L) (hL : L ≤ 3072) (W : WW ad w h) (hC : RCl w S) (hM : RMo w S) (hO : SOK S) (hb : bOK bg) (hN : LN ga ad n J bg) : J 24 (lwl ga ad n z5 z6 z7) [] h bg := by
  obtain ⟨i, hcb, hcr⟩ := id hC.1
  refine hJ 24 _ _ rfl _ _ _ _ (x_aload rfl (x_aload rfl (x_iload rfl (x_sipush (x_iadd (x_fal (6 * n + 1) (kN_add _ 1) (by omega) hL (x_aload rfl (x_csb rfl (Nat.le_of_ble_eq_true rfl) (lw_bg hb rfl) (w_came W hC hO cameT_le (fun h1 w1 W1 k1 y1 n1 => xk_go (x_istore rfl (x_aload rfl (x_aload rfl (x_iload rfl (x_sipush (x_iadd (x_fal (6 * n + 1) (kN_add _ 1) (by omega) hL (x_cv rfl (Nat.le_of_ble_eq_true rfl) (isO_W W1 (by decide) shp_80) (WP.shape kX7_came rfl (m_came W1 (hM.kl k1).1 hO.1 (KQm.query (hM.kl k1) (KQm.int (Or.inl rfl) (fun h2 w2 x2 W2 k2 y2 n2 f2 e2 => xk_go (x_istore rfl (x_aload rfl (x_cv rfl (Nat.le_of_ble_eq_true rfl) (isO_W W2 (by decide) shp_80) (m_thrown W2 (xk_go (x_iload rfl (x_br2 (fun q1 => have q1 := cy_eq q1; hJ 25 _ _ rfl _ _ _ _ (x_iload rfl (x_br (fun q2 => have q2 := cy_ne q2; hJ 26 _ _ rfl _ _ _ _ (x_goto (?_))) (fun q2 => have q2 := cn_ne q2; x_aload rfl (x_sipush (w_lald W2 0 (by decide) shp_96 rfl (by decide) (by decide) (x_iload rfl (x_i2l (x_lcmp (x_br (fun q3 => have q3 := lg_eq.mp (cy_eq q3); hJ 26 _ _ rfl _ _ _ _ (x_goto (?_))) (fun q3 => have q3 := (fun z => cn_eq q3 (lg_eq.mpr z)); x_sipush (x_iret (by first | exact nrwB _ | rfl | decide) ?_)))))))))))) (fun q1 => absurd f2 (cn_eq q1))))))))))))))))))))))))))))))))
  · have hT := T_ne q2
    exact hN _ _ _ _ _ _ _ W2 ((n1 hT).km k2) (n2 hT) hO (lw_bc rfl)
  · have hT := T_eq cameT_le (by omega) q2
    exact hN _ _ _ _ _ _ _ W2 ((y1 hT).1.km k2) (y2 hT) (hO) (lw_bc rfl)
  · have hT := T_eq cameT_le (by omega) q2
    have e1 := (y1 hT).2 _ rfl
    refine absurd ?_ q3
    show wl w2 96 0 = _
    rw [(congrFun (k2 96 (Or.inr rfl)).2.2.2 0), e1, e2 hT]
theorem law_27 (hJ : LJ ga L xs (d + 16) J) (hn : 6 * n + 6 ≤ L) (hL : L ≤ 3072) (W : WW ad w h) (hC : RCl w S) (hM : RMo w S) (hO : SOK S) (hb : bOK bg) (hN : LN ga ad n J bg) : J 27 (lwl ga ad n z5 z6 z7) [] h bg := by
  obtain ⟨i, hcb, hcr⟩ := id hC.1
  refine hJ 27 _ _ rfl _ _ _ _ (x_aload rfl (x_aload rfl (x_iload rfl (x_sipush (x_iadd (x_fal (6 * n + 1) (kN_add _ 1) (by omega) hL (x_aload rfl (x_csb rfl (Nat.le_of_ble_eq_true rfl) (lw_bg hb rfl) (w_met W hC hO cameT_le (fun h1 w1 W1 k1 y1 n1 => xk_go (x_istore rfl (x_aload rfl (x_aload rfl (x_iload rfl (x_sipush (x_iadd (x_fal (6 * n + 1) (kN_add _ 1) (by omega) hL (x_cv rfl (Nat.le_of_ble_eq_true rfl) (isO_W W1 (by decide) shp_80) (WP.shape kX7_met rfl (m_met W1 (hM.kl k1).1 hO.1 (KQm.query (hM.kl k1) (KQm.int (Or.inr rfl) (fun h2 w2 x2 W2 k2 y2 n2 f2 e2 => xk_go (x_istore rfl (x_aload rfl (x_cv rfl (Nat.le_of_ble_eq_true rfl) (isO_W W2 (by decide) shp_80) (m_thrown W2 (xk_go (x_iload rfl (x_br2 (fun q1 => have q1 := cy_eq q1; hJ 28 _ _ rfl _ _ _ _ (x_iload rfl (x_br (fun q2 => have q2 := cy_ne q2; hJ 31 _ _ rfl _ _ _ _ (x_goto (?_))) (fun q2 => have q2 := cn_ne q2; x_aload rfl (x_sipush (w_lald W2 0 (by decide) shp_96 rfl (by decide) (by decide) (x_iload rfl (x_br (fun q3 => have q3 := cy_eq q3; hJ 29 _ _ rfl _ _ _ _ (x_ldc2 (x_goto (hJ 30 _ _ rfl _ _ _ _ (x_lcmp (x_br (fun q4 => have q4 := lg_eq.mp (cy_eq q4); hJ 31 _ _ rfl _ _ _ _ (x_goto (?_))) (fun q4 => have q4 := (fun z => cn_eq q4 (lg_eq.mpr z)); x_sipush (x_iret (by first | exact nrwB _ | rfl | decide) ?_)))))))) (fun q3 => have q3 := cn_eq q3; x_ldc2 (x_goto (hJ 30 _ _ rfl _ _ _ _ (x_lcmp (x_br (fun q5 => have q5 := lg_eq.mp (cy_eq q5); hJ 31 _ _ rfl _ _ _ _ (x_goto (?_))) (fun q5 => have q5 := (fun z => cn_eq q5 (lg_eq.mpr z)); x_sipush (x_iret (by first | exact nrwB _ | rfl | decide) ?_))))))))))))))) (fun q1 => absurd f2 (cn_eq q1))))))))))))))))))))))))))))))))
  · have hT := T_ne q2
    exact hN _ _ _ _ _ _ _ W2 ((n1 hT).km k2) (n2 hT) hO (lw_bc rfl)
  · have hT := T_eq cameT_le (by omega) q2
    exact hN _ _ _ _ _ _ _ W2 ((y1 hT).1.km k2) (y2 hT) (hO) (lw_bc rfl)
  · have hT := T_eq cameT_le (by omega) q2
    refine absurd ?_ q4
    show wl w2 96 0 = _
    rw [congrFun (k2 96 (Or.inr rfl)).2.2.2 0, (y1 hT).2 _ rfl, ← e2 hT, q3]
    rfl
  · have hT := T_eq cameT_le (by omega) q2
    exact hN _ _ _ _ _ _ _ W2 ((y1 hT).1.km k2) (y2 hT) (hO) (lw_bc rfl)
  · have hT := T_eq cameT_le (by omega) q2
    refine absurd ?_ q5
    rw [e2 hT] at q3
    show wl w2 96 0 = _
    rw [congrFun (k2 96 (Or.inr rfl)).2.2.2 0, (y1 hT).2 _ rfl, bI_ne0.mp q3]
    rfl
theorem law_32 (hJ : LJ ga L xs (d + 16) J) (hn : 6 * n + 6 ≤ L) (hL : L ≤ 3072) (W : WW ad w h) (hC : RCl w S) (hM : RMo w S) (hO : SOK S) (hb : bOK bg) (hN : LN ga ad n J bg) : J 32 (lwl ga ad n z5 z6 z7) [] h bg := by
  obtain ⟨i, hcb, hcr⟩ := id hC.1
  refine hJ 32 _ _ rfl _ _ _ _ (x_aload rfl (x_cv rfl (Nat.le_of_ble_eq_true rfl) (isO_W W (by decide) shp_0) (x_next W hcb.isC hcr hO.1 hcb.2.1 (KCm.query hC ⟨fun hT h1 w1 W1 k1 hC1 => xk_go (x_aload rfl (x_cv rfl (Nat.le_of_ble_eq_true rfl) (isO_W W1 (by decide) shp_80) (WP.shape kX7_next rfl (m_next W1 (hM.kc k1).1 hO.1 (KQm.query (hM.kc k1) (KQm.int (Or.inl rfl) (fun h2 w2 x2 W2 k2 y2 n2 f2 e2 => xk_go (x_br2 (fun q1 => have q1 := cy_eq q1; ?_) (fun q1 => have q1 := cn_eq q1; x_sipush (x_iret (by first | exact nrwB _ | rfl | decide) ?_)))))))))), fun j hT => absurd hT (by omega)⟩))))
  · exact hN _ _ _ _ _ _ _ W2 (hC1.km k2) (y2 rfl) (hO) lw_b0
  · exact absurd (e2 rfl).symm q1
theorem law_33 (hJ : LJ ga L xs (d + 16) J) (hn : 6 * n + 6 ≤ L) (hL : L ≤ 3072) (W : WW ad w h) (hC : RCl w S) (hM : RMo w S) (hO : SOK S) (hb : bOK bg) (hN : LN ga ad n J bg) : J 33 (lwl ga ad n z5 z6 z7) [] h bg := by
  obtain ⟨i, hcb, hcr⟩ := id hC.1
  refine hJ 33 _ _ rfl _ _ _ _ (x_aload rfl (x_aload rfl (x_iload rfl (x_sipush (x_iadd (x_fal (6 * n + 1) (kN_add _ 1) (by omega) hL (x_aload rfl (x_csb rfl (Nat.le_of_ble_eq_true rfl) (lw_bg hb rfl) (w_hats W hC hO memT1_le (fun h1 w1 W1 k1 y1 n1 => xk_go (x_istore rfl (x_aload rfl (x_aload rfl (x_iload rfl (x_sipush (x_iadd (x_fal (6 * n + 1) (kN_add _ 1) (by omega) hL (x_cv rfl (Nat.le_of_ble_eq_true rfl) (isO_W W1 (by decide) shp_80) (WP.shape kX7_hats rfl (m_hats W1 (hM.kl k1).1 hO.1 (KQm.query (hM.kl k1) (KQm.int (Or.inl rfl) (fun h2 w2 x2 W2 k2 y2 n2 f2 e2 => xk_go (x_istore rfl (x_aload rfl (x_cv rfl (Nat.le_of_ble_eq_true rfl) (isO_W W2 (by decide) shp_80) (m_thrown W2 (xk_go (x_iload rfl (x_br2 (fun q1 => have q1 := cy_eq q1; hJ 34 _ _ rfl _ _ _ _ (x_iload rfl (x_br (fun q2 => have q2 := cy_ne q2; hJ 35 _ _ rfl _ _ _ _ (x_goto (?_))) (fun q2 => have q2 := cn_ne q2; x_aload rfl (x_sipush (w_lald W2 0 (by decide) shp_96 rfl (by decide) (by decide) (x_iload rfl (x_i2l (x_lcmp (x_br (fun q3 => have q3 := lg_eq.mp (cy_eq q3); hJ 35 _ _ rfl _ _ _ _ (x_goto (?_))) (fun q3 => have q3 := (fun z => cn_eq q3 (lg_eq.mpr z)); x_sipush (x_iret (by first | exact nrwB _ | rfl | decide) ?_)))))))))))) (fun q1 => absurd f2 (cn_eq q1))))))))))))))))))))))))))))))))
  · have hT := T_ne q2
    exact hN _ _ _ _ _ _ _ W2 ((n1 hT).km k2) (n2 hT) hO (lw_bc rfl)
  · have hT := T_eq memT1_le (by omega) q2
    exact hN _ _ _ _ _ _ _ W2 ((y1 hT).1.km k2) (y2 hT) (hO) (lw_bc rfl)
  · have hT := T_eq memT1_le (by omega) q2
    have e1 := (y1 hT).2 _ rfl
    refine absurd ?_ q3
    show wl w2 96 0 = _
    rw [(congrFun (k2 96 (Or.inr rfl)).2.2.2 0), e1, e2 hT]
theorem law_36 (hJ : LJ ga L xs (d + 16) J) (hn : 6 * n + 6 ≤ L) (hL : L ≤ 3072) (W : WW ad w h) (hC : RCl w S) (hM : RMo w S) (hO : SOK S) (hb : bOK bg) (hN : LN ga ad n J bg) : J 36 (lwl ga ad n z5 z6 z7) [] h bg := by
  obtain ⟨i, hcb, hcr⟩ := id hC.1
  refine hJ 36 _ _ rfl _ _ _ _ (x_aload rfl (x_aload rfl (x_iload rfl (x_sipush (x_iadd (x_fal (6 * n + 1) (kN_add _ 1) (by omega) hL (x_aload rfl (x_iload rfl (x_sipush (x_iadd (x_fal (6 * n + 2) (kN_add _ 2) (by omega) hL (x_aload rfl (x_csb rfl (Nat.le_of_ble_eq_true rfl) (lw_bg hb rfl) (w_thought W hC hO thoughtT_le (fun h1 w1 W1 k1 y1 n1 => xk_go (x_istore rfl (x_aload rfl (x_aload rfl (x_iload rfl (x_sipush (x_iadd (x_fal (6 * n + 1) (kN_add _ 1) (by omega) hL (x_aload rfl (x_iload rfl (x_sipush (x_iadd (x_fal (6 * n + 2) (kN_add _ 2) (by omega) hL (x_cv rfl (Nat.le_of_ble_eq_true rfl) (isO_W W1 (by decide) shp_80) (WP.shape kX7_thought rfl (m_thought W1 (hM.kl k1).1 hO.1 (KQm.query (hM.kl k1) (KQm.int (Or.inr rfl) (fun h2 w2 x2 W2 k2 y2 n2 f2 e2 => xk_go (x_istore rfl (x_aload rfl (x_cv rfl (Nat.le_of_ble_eq_true rfl) (isO_W W2 (by decide) shp_80) (m_thrown W2 (xk_go (x_iload rfl (x_br2 (fun q1 => have q1 := cy_eq q1; hJ 37 _ _ rfl _ _ _ _ (x_iload rfl (x_br (fun q2 => have q2 := cy_ne q2; hJ 40 _ _ rfl _ _ _ _ (x_goto (?_))) (fun q2 => have q2 := cn_ne q2; x_aload rfl (x_sipush (w_lald W2 0 (by decide) shp_96 rfl (by decide) (by decide) (x_iload rfl (x_br (fun q3 => have q3 := cy_eq q3; hJ 38 _ _ rfl _ _ _ _ (x_ldc2 (x_goto (hJ 39 _ _ rfl _ _ _ _ (x_lcmp (x_br (fun q4 => have q4 := lg_eq.mp (cy_eq q4); hJ 40 _ _ rfl _ _ _ _ (x_goto (?_))) (fun q4 => have q4 := (fun z => cn_eq q4 (lg_eq.mpr z)); x_sipush (x_iret (by first | exact nrwB _ | rfl | decide) ?_)))))))) (fun q3 => have q3 := cn_eq q3; x_ldc2 (x_goto (hJ 39 _ _ rfl _ _ _ _ (x_lcmp (x_br (fun q5 => have q5 := lg_eq.mp (cy_eq q5); hJ 40 _ _ rfl _ _ _ _ (x_goto (?_))) (fun q5 => have q5 := (fun z => cn_eq q5 (lg_eq.mpr z)); x_sipush (x_iret (by first | exact nrwB _ | rfl | decide) ?_))))))))))))))) (fun q1 => absurd f2 (cn_eq q1))))))))))))))))))))))))))))))))))))))))))
  · have hT := T_ne q2
    exact hN _ _ _ _ _ _ _ W2 ((n1 hT).km k2) (n2 hT) hO (lw_bc rfl)
  · have hT := T_eq thoughtT_le (by omega) q2
    exact hN _ _ _ _ _ _ _ W2 ((y1 hT).1.km k2) (y2 hT) (hO) (lw_bc rfl)
  · have hT := T_eq thoughtT_le (by omega) q2
    refine absurd ?_ q4
    show wl w2 96 0 = _
    rw [congrFun (k2 96 (Or.inr rfl)).2.2.2 0, (y1 hT).2 _ rfl, ← e2 hT, q3]
    rfl
  · have hT := T_eq thoughtT_le (by omega) q2
    exact hN _ _ _ _ _ _ _ W2 ((y1 hT).1.km k2) (y2 hT) (hO) (lw_bc rfl)
  · have hT := T_eq thoughtT_le (by omega) q2
    refine absurd ?_ q5
    rw [e2 hT] at q3
    show wl w2 96 0 = _
    rw [congrFun (k2 96 (Or.inr rfl)).2.2.2 0, (y1 hT).2 _ rfl, bI_ne0.mp q3]
    rfl
theorem law_41 (hJ : LJ ga L xs (d + 16) J) (hn : 6 * n + 6 ≤ L) (hL : L ≤ 3072) (W : WW ad w h) (hC : RCl w S) (hM : RMo w S) (hO : SOK S) (hb : bOK bg) (hN : LN ga ad n J bg) : J 41 (lwl ga ad n z5 z6 z7) [] h bg := by
  obtain ⟨i, hcb, hcr⟩ := id hC.1
  refine hJ 41 _ _ rfl _ _ _ _ (x_aload rfl (x_cv rfl (Nat.le_of_ble_eq_true rfl) (isO_W W (by decide) shp_0) (x_settled W hcb.isC hcr hO.1 hcb.2.1 (KCm.query hC ⟨fun hT h1 w1 W1 k1 hC1 => xk_go (x_aload rfl (x_cv rfl (Nat.le_of_ble_eq_true rfl) (isO_W W1 (by decide) shp_80) (WP.shape kX7_settled rfl (m_settled W1 (hM.kc k1).1 hO.1 (KQm.query (hM.kc k1) (KQm.int (Or.inl rfl) (fun h2 w2 x2 W2 k2 y2 n2 f2 e2 => xk_go (x_br2 (fun q1 => have q1 := cy_eq q1; ?_) (fun q1 => have q1 := cn_eq q1; x_sipush (x_iret (by first | exact nrwB _ | rfl | decide) ?_)))))))))), fun j hT => absurd hT (by omega)⟩))))
  · exact hN _ _ _ _ _ _ _ W2 (hC1.km k2) (y2 rfl) (hO) lw_b0
  · exact absurd (e2 rfl).symm q1
theorem law_42 (hJ : LJ ga L xs (d + 16) J) (hn : 6 * n + 6 ≤ L) (hL : L ≤ 3072) (W : WW ad w h) (hC : RCl w S) (hM : RMo w S) (hO : SOK S) (hb : bOK bg) (hN : LN ga ad n J bg) : J 42 (lwl ga ad n z5 z6 z7) [] h bg := by
  obtain ⟨i, hcb, hcr⟩ := id hC.1
  refine hJ 42 _ _ rfl _ _ _ _ (x_aload rfl (x_aload rfl (x_iload rfl (x_sipush (x_iadd (x_fal (6 * n + 1) (kN_add _ 1) (by omega) hL (x_aload rfl (x_iload rfl (x_sipush (x_iadd (x_fal (6 * n + 2) (kN_add _ 2) (by omega) hL (x_aload rfl (x_csb rfl (Nat.le_of_ble_eq_true rfl) (lw_bg hb rfl) (w_judge W hC hO judgeT_le (fun h1 w1 W1 k1 y1 n1 => xk_go (x_istore rfl (x_aload rfl (x_aload rfl (x_iload rfl (x_sipush (x_iadd (x_fal (6 * n + 1) (kN_add _ 1) (by omega) hL (x_aload rfl (x_iload rfl (x_sipush (x_iadd (x_fal (6 * n + 2) (kN_add _ 2) (by omega) hL (x_cv rfl (Nat.le_of_ble_eq_true rfl) (isO_W W1 (by decide) shp_80) (WP.shape kX7_judge rfl (m_judge W1 (hM.kl k1).1 hO.1 (hM.kl k1).2.1 hO.2.1 (KQm.query (hM.kl k1) (KQm.int (Or.inl rfl) (fun h2 w2 x2 W2 k2 y2 n2 f2 e2 => xk_go (x_istore rfl (x_aload rfl (x_cv rfl (Nat.le_of_ble_eq_true rfl) (isO_W W2 (by decide) shp_80) (m_thrown W2 (xk_go (x_iload rfl (x_br2 (fun q1 => have q1 := cy_eq q1; hJ 43 _ _ rfl _ _ _ _ (x_iload rfl (x_br (fun q2 => have q2 := cy_ne q2; hJ 44 _ _ rfl _ _ _ _ (x_goto (?_))) (fun q2 => have q2 := cn_ne q2; x_aload rfl (x_sipush (w_lald W2 0 (by decide) shp_96 rfl (by decide) (by decide) (x_iload rfl (x_i2l (x_lcmp (x_br (fun q3 => have q3 := lg_eq.mp (cy_eq q3); hJ 44 _ _ rfl _ _ _ _ (x_goto (?_))) (fun q3 => have q3 := (fun z => cn_eq q3 (lg_eq.mpr z)); x_sipush (x_iret (by first | exact nrwB _ | rfl | decide) ?_)))))))))))) (fun q1 => absurd f2 (cn_eq q1))))))))))))))))))))))))))))))))))))))))))
  · have hT := T_ne q2
    exact hN _ _ _ _ _ _ _ W2 ((n1 hT).km k2) (n2 hT) hO (lw_bc rfl)
  · have hT := T_eq judgeT_le (by omega) q2
    exact hN _ _ _ _ _ _ _ W2 ((y1 hT).1.km k2) (y2 hT) (hO) (lw_bc rfl)
  · have hT := T_eq judgeT_le (by omega) q2
    have e1 := (y1 hT).2 _ rfl
    refine absurd ?_ q3
    show wl w2 96 0 = _
    rw [(congrFun (k2 96 (Or.inr rfl)).2.2.2 0), e1, e2 hT]
theorem law_45 (hJ : LJ ga L xs (d + 16) J) (hn : 6 * n + 6 ≤ L) (hL : L ≤ 3072) (W : WW ad w h) (hC : RCl w S) (hM : RMo w S) (hO : SOK S) (hb : bOK bg) (hN : LN ga ad n J bg) : J 45 (lwl ga ad n z5 z6 z7) [] h bg := by
  obtain ⟨i, hcb, hcr⟩ := id hC.1
  refine hJ 45 _ _ rfl _ _ _ _ (x_aload rfl (x_aload rfl (x_iload rfl (x_sipush (x_iadd (x_fal (6 * n + 1) (kN_add _ 1) (by omega) hL (x_aload rfl (x_iload rfl (x_sipush (x_iadd (x_fal (6 * n + 2) (kN_add _ 2) (by omega) hL (x_aload rfl (x_csb rfl (Nat.le_of_ble_eq_true rfl) (lw_bg hb rfl) (w_gain W hC hO gainT_le (fun h1 w1 W1 k1 y1 n1 => xk_go (x_istore rfl (x_aload rfl (x_aload rfl (x_iload rfl (x_sipush (x_iadd (x_fal (6 * n + 1) (kN_add _ 1) (by omega) hL (x_aload rfl (x_iload rfl (x_sipush (x_iadd (x_fal (6 * n + 2) (kN_add _ 2) (by omega) hL (x_cv rfl (Nat.le_of_ble_eq_true rfl) (isO_W W1 (by decide) shp_80) (WP.shape kX7_gain rfl (m_gain W1 (hM.kl k1).1 hO.1 (KQm.query (hM.kl k1) (KQm.int (Or.inl rfl) (fun h2 w2 x2 W2 k2 y2 n2 f2 e2 => xk_go (x_istore rfl (x_aload rfl (x_cv rfl (Nat.le_of_ble_eq_true rfl) (isO_W W2 (by decide) shp_80) (m_thrown W2 (xk_go (x_iload rfl (x_br2 (fun q1 => have q1 := cy_eq q1; hJ 46 _ _ rfl _ _ _ _ (x_iload rfl (x_br (fun q2 => have q2 := cy_ne q2; hJ 47 _ _ rfl _ _ _ _ (x_goto (?_))) (fun q2 => have q2 := cn_ne q2; x_aload rfl (x_sipush (w_lald W2 0 (by decide) shp_96 rfl (by decide) (by decide) (x_iload rfl (x_i2l (x_lcmp (x_br (fun q3 => have q3 := lg_eq.mp (cy_eq q3); hJ 47 _ _ rfl _ _ _ _ (x_goto (?_))) (fun q3 => have q3 := (fun z => cn_eq q3 (lg_eq.mpr z)); x_sipush (x_iret (by first | exact nrwB _ | rfl | decide) ?_)))))))))))) (fun q1 => absurd f2 (cn_eq q1))))))))))))))))))))))))))))))))))))))))))
  · have hT := T_ne q2
    exact hN _ _ _ _ _ _ _ W2 ((n1 hT).km k2) (n2 hT) hO (lw_bc rfl)
  · have hT := T_eq gainT_le (by omega) q2
    exact hN _ _ _ _ _ _ _ W2 ((y1 hT).1.km k2) (y2 hT) (hO) (lw_bc rfl)
  · have hT := T_eq gainT_le (by omega) q2
    have e1 := (y1 hT).2 _ rfl
    refine absurd ?_ q3
    show wl w2 96 0 = _
    rw [(congrFun (k2 96 (Or.inr rfl)).2.2.2 0), e1, e2 hT]
theorem law_48 (hJ : LJ ga L xs (d + 16) J) (hn : 6 * n + 6 ≤ L) (hL : L ≤ 3072) (W : WW ad w h) (hC : RCl w S) (hM : RMo w S) (hO : SOK S) (hb : bOK bg) (hN : LN ga ad n J bg) : J 48 (lwl ga ad n z5 z6 z7) [] h bg := by
  obtain ⟨i, hcb, hcr⟩ := id hC.1
  refine hJ 48 _ _ rfl _ _ _ _ (x_aload rfl (x_aload rfl (x_iload rfl (x_sipush (x_iadd (x_fal (6 * n + 1) (kN_add _ 1) (by omega) hL (x_aload rfl (x_csb rfl (Nat.le_of_ble_eq_true rfl) (lw_bg hb rfl) (w_rests W hC hO setT_le (fun h1 w1 W1 k1 y1 n1 => xk_go (x_istore rfl (x_aload rfl (x_aload rfl (x_iload rfl (x_sipush (x_iadd (x_fal (6 * n + 1) (kN_add _ 1) (by omega) hL (x_cv rfl (Nat.le_of_ble_eq_true rfl) (isO_W W1 (by decide) shp_80) (WP.shape kX7_rests rfl (m_rests W1 (hM.kl k1).1 hO.1 (KQm.query (hM.kl k1) (KQm.int (Or.inr rfl) (fun h2 w2 x2 W2 k2 y2 n2 f2 e2 => xk_go (x_istore rfl (x_aload rfl (x_cv rfl (Nat.le_of_ble_eq_true rfl) (isO_W W2 (by decide) shp_80) (m_thrown W2 (xk_go (x_iload rfl (x_br2 (fun q1 => have q1 := cy_eq q1; hJ 49 _ _ rfl _ _ _ _ (x_iload rfl (x_br (fun q2 => have q2 := cy_ne q2; hJ 52 _ _ rfl _ _ _ _ (x_goto (?_))) (fun q2 => have q2 := cn_ne q2; x_aload rfl (x_sipush (w_lald W2 0 (by decide) shp_96 rfl (by decide) (by decide) (x_iload rfl (x_br (fun q3 => have q3 := cy_eq q3; hJ 50 _ _ rfl _ _ _ _ (x_ldc2 (x_goto (hJ 51 _ _ rfl _ _ _ _ (x_lcmp (x_br (fun q4 => have q4 := lg_eq.mp (cy_eq q4); hJ 52 _ _ rfl _ _ _ _ (x_goto (?_))) (fun q4 => have q4 := (fun z => cn_eq q4 (lg_eq.mpr z)); x_sipush (x_iret (by first | exact nrwB _ | rfl | decide) ?_)))))))) (fun q3 => have q3 := cn_eq q3; x_ldc2 (x_goto (hJ 51 _ _ rfl _ _ _ _ (x_lcmp (x_br (fun q5 => have q5 := lg_eq.mp (cy_eq q5); hJ 52 _ _ rfl _ _ _ _ (x_goto (?_))) (fun q5 => have q5 := (fun z => cn_eq q5 (lg_eq.mpr z)); x_sipush (x_iret (by first | exact nrwB _ | rfl | decide) ?_))))))))))))))) (fun q1 => absurd f2 (cn_eq q1))))))))))))))))))))))))))))))))
  · have hT := T_ne q2
    exact hN _ _ _ _ _ _ _ W2 ((n1 hT).km k2) (n2 hT) hO (lw_bc rfl)
  · have hT := T_eq setT_le (by omega) q2
    exact hN _ _ _ _ _ _ _ W2 ((y1 hT).1.km k2) (y2 hT) (hO) (lw_bc rfl)
  · have hT := T_eq setT_le (by omega) q2
    refine absurd ?_ q4
    show wl w2 96 0 = _
    rw [congrFun (k2 96 (Or.inr rfl)).2.2.2 0, (y1 hT).2 _ rfl, ← e2 hT, q3]
    rfl
  · have hT := T_eq setT_le (by omega) q2
    exact hN _ _ _ _ _ _ _ W2 ((y1 hT).1.km k2) (y2 hT) (hO) (lw_bc rfl)
  · have hT := T_eq setT_le (by omega) q2
    refine absurd ?_ q5
    rw [e2 hT] at q3
    show wl w2 96 0 = _
    rw [congrFun (k2 96 (Or.inr rfl)).2.2.2 0, (y1 hT).2 _ rfl, bI_ne0.mp q3]
    rfl
theorem law_53 (hJ : LJ ga L xs (d + 16) J) (hn : 6 * n + 6 ≤ L) (hL : L ≤ 3072) (W : WW ad w h) (hC : RCl w S) (hM : RMo w S) (hO : SOK S) (hb : bOK bg) (hN : LN ga ad n J bg) : J 53 (lwl ga ad n z5 z6 z7) [] h bg := by
  obtain ⟨i, hcb, hcr⟩ := id hC.1
  refine hJ 53 _ _ rfl _ _ _ _ (x_aload rfl (x_aload rfl (x_iload rfl (x_sipush (x_iadd (x_fal (6 * n + 1) (kN_add _ 1) (by omega) hL (x_cv rfl (Nat.le_of_ble_eq_true rfl) (isO_W W (by decide) shp_0) (x_rest W hcb.isC hcr hO.1 hcb.2.1 (KCm.query hC ⟨fun hT h1 w1 W1 k1 hC1 => xk_go (x_aload rfl (x_aload rfl (x_iload rfl (x_sipush (x_iadd (x_fal (6 * n + 1) (kN_add _ 1) (by omega) hL (x_cv rfl (Nat.le_of_ble_eq_true rfl) (isO_W W1 (by decide) shp_80) (WP.shape kX7_rest rfl (m_rest W1 (hM.kc k1).1 hO.1 (KQm.query (hM.kc k1) (KQm.int (Or.inl rfl) (fun h2 w2 x2 W2 k2 y2 n2 f2 e2 => xk_go (x_br2 (fun q1 => have q1 := cy_eq q1; ?_) (fun q1 => have q1 := cn_eq q1; x_sipush (x_iret (by first | exact nrwB _ | rfl | decide) ?_))))))))))))))), fun j hT => absurd hT (by omega)⟩)))))))))
  · exact hN _ _ _ _ _ _ _ W2 (hC1.km k2) (y2 rfl) (hO) lw_b0
  · exact absurd (e2 rfl).symm q1
theorem law_54 (hJ : LJ ga L xs (d + 16) J) (hn : 6 * n + 6 ≤ L) (hL : L ≤ 3072) (W : WW ad w h) (hC : RCl w S) (hM : RMo w S) (hO : SOK S) (hb : bOK bg) (hN : LN ga ad n J bg) : J 54 (lwl ga ad n z5 z6 z7) [] h bg := by
  obtain ⟨i, hcb, hcr⟩ := id hC.1
  refine hJ 54 _ _ rfl _ _ _ _ (x_aload rfl (x_aload rfl (x_iload rfl (x_sipush (x_iadd (x_fal (6 * n + 1) (kN_add _ 1) (by omega) hL (x_aload rfl (x_csb rfl (Nat.le_of_ble_eq_true rfl) (lw_bg hb rfl) (w_strong W hC hO setT_le (fun h1 w1 W1 k1 y1 n1 => xk_go (x_istore rfl (x_aload rfl (x_aload rfl (x_iload rfl (x_sipush (x_iadd (x_fal (6 * n + 1) (kN_add _ 1) (by omega) hL (x_cv rfl (Nat.le_of_ble_eq_true rfl) (isO_W W1 (by decide) shp_80) (WP.shape kX7_strong rfl (m_strong W1 (hM.kl k1).1 hO.1 (KQm.query (hM.kl k1) (KQm.int (Or.inr rfl) (fun h2 w2 x2 W2 k2 y2 n2 f2 e2 => xk_go (x_istore rfl (x_aload rfl (x_cv rfl (Nat.le_of_ble_eq_true rfl) (isO_W W2 (by decide) shp_80) (m_thrown W2 (xk_go (x_iload rfl (x_br2 (fun q1 => have q1 := cy_eq q1; hJ 55 _ _ rfl _ _ _ _ (x_iload rfl (x_br (fun q2 => have q2 := cy_ne q2; hJ 58 _ _ rfl _ _ _ _ (x_goto (?_))) (fun q2 => have q2 := cn_ne q2; x_aload rfl (x_sipush (w_lald W2 0 (by decide) shp_96 rfl (by decide) (by decide) (x_iload rfl (x_br (fun q3 => have q3 := cy_eq q3; hJ 56 _ _ rfl _ _ _ _ (x_ldc2 (x_goto (hJ 57 _ _ rfl _ _ _ _ (x_lcmp (x_br (fun q4 => have q4 := lg_eq.mp (cy_eq q4); hJ 58 _ _ rfl _ _ _ _ (x_goto (?_))) (fun q4 => have q4 := (fun z => cn_eq q4 (lg_eq.mpr z)); x_sipush (x_iret (by first | exact nrwB _ | rfl | decide) ?_)))))))) (fun q3 => have q3 := cn_eq q3; x_ldc2 (x_goto (hJ 57 _ _ rfl _ _ _ _ (x_lcmp (x_br (fun q5 => have q5 := lg_eq.mp (cy_eq q5); hJ 58 _ _ rfl _ _ _ _ (x_goto (?_))) (fun q5 => have q5 := (fun z => cn_eq q5 (lg_eq.mpr z)); x_sipush (x_iret (by first | exact nrwB _ | rfl | decide) ?_))))))))))))))) (fun q1 => absurd f2 (cn_eq q1))))))))))))))))))))))))))))))))
  · have hT := T_ne q2
    exact hN _ _ _ _ _ _ _ W2 ((n1 hT).km k2) (n2 hT) hO (lw_bc rfl)
  · have hT := T_eq setT_le (by omega) q2
    exact hN _ _ _ _ _ _ _ W2 ((y1 hT).1.km k2) (y2 hT) (hO) (lw_bc rfl)
  · have hT := T_eq setT_le (by omega) q2
    refine absurd ?_ q4
    show wl w2 96 0 = _
    rw [congrFun (k2 96 (Or.inr rfl)).2.2.2 0, (y1 hT).2 _ rfl, ← e2 hT, q3]
    rfl
  · have hT := T_eq setT_le (by omega) q2
    exact hN _ _ _ _ _ _ _ W2 ((y1 hT).1.km k2) (y2 hT) (hO) (lw_bc rfl)
  · have hT := T_eq setT_le (by omega) q2
    refine absurd ?_ q5
    rw [e2 hT] at q3
    show wl w2 96 0 = _
    rw [congrFun (k2 96 (Or.inr rfl)).2.2.2 0, (y1 hT).2 _ rfl, bI_ne0.mp q3]
    rfl
theorem law_59 (hJ : LJ ga L xs (d + 16) J) (hn : 6 * n + 6 ≤ L) (hL : L ≤ 3072) (W : WW ad w h) (hC : RCl w S) (hM : RMo w S) (hO : SOK S) (hb : bOK bg) (hN : LN ga ad n J bg) : J 59 (lwl ga ad n z5 z6 z7) [] h bg := by
  obtain ⟨i, hcb, hcr⟩ := id hC.1
  refine hJ 59 _ _ rfl _ _ _ _ (x_aload rfl (x_aload rfl (x_iload rfl (x_sipush (x_iadd (x_fal (6 * n + 1) (kN_add _ 1) (by omega) hL (x_cv rfl (Nat.le_of_ble_eq_true rfl) (isO_W W (by decide) shp_0) (x_strongs W hcb.isC hcr hO.1 hcb.2.1 (KCm.query hC ⟨fun hT h1 w1 W1 k1 hC1 => xk_go (x_aload rfl (x_aload rfl (x_iload rfl (x_sipush (x_iadd (x_fal (6 * n + 1) (kN_add _ 1) (by omega) hL (x_cv rfl (Nat.le_of_ble_eq_true rfl) (isO_W W1 (by decide) shp_80) (WP.shape kX7_strongs rfl (m_strongs W1 (hM.kc k1).1 hO.1 (KQm.query (hM.kc k1) (KQm.int (Or.inl rfl) (fun h2 w2 x2 W2 k2 y2 n2 f2 e2 => xk_go (x_br2 (fun q1 => have q1 := cy_eq q1; ?_) (fun q1 => have q1 := cn_eq q1; x_sipush (x_iret (by first | exact nrwB _ | rfl | decide) ?_))))))))))))))), fun j hT => absurd hT (by omega)⟩)))))))))
  · exact hN _ _ _ _ _ _ _ W2 (hC1.km k2) (y2 rfl) (hO) lw_b0
  · exact absurd (e2 rfl).symm q1
theorem law_60 (hJ : LJ ga L xs (d + 16) J) (hn : 6 * n + 6 ≤ L) (hL : L ≤ 3072) (W : WW ad w h) (hC : RCl w S) (hM : RMo w S) (hO : SOK S) (hb : bOK bg) (hN : LN ga ad n J bg) : J 60 (lwl ga ad n z5 z6 z7) [] h bg := by
  obtain ⟨i, hcb, hcr⟩ := id hC.1
  refine hJ 60 _ _ rfl _ _ _ _ (x_aload rfl (x_cv rfl (Nat.le_of_ble_eq_true rfl) (isO_W W (by decide) shp_0) (x_inTurn W hcb.isC hcr hO.1 hcb.2.1 (KCm.query hC ⟨fun hT h1 w1 W1 k1 hC1 => xk_go (x_aload rfl (x_cv rfl (Nat.le_of_ble_eq_true rfl) (isO_W W1 (by decide) shp_80) (WP.shape kX7_inTurn rfl (m_inTurn W1 (hM.kc k1).1 hO.1 (KQm.query (hM.kc k1) (KQm.int (Or.inl rfl) (fun h2 w2 x2 W2 k2 y2 n2 f2 e2 => xk_go (x_br2 (fun q1 => have q1 := cy_eq q1; ?_) (fun q1 => have q1 := cn_eq q1; x_sipush (x_iret (by first | exact nrwB _ | rfl | decide) ?_)))))))))), fun j hT => absurd hT (by omega)⟩))))
  · exact hN _ _ _ _ _ _ _ W2 (hC1.km k2) (y2 rfl) (hO) lw_b0
  · exact absurd (e2 rfl).symm q1
theorem law_61 (hJ : LJ ga L xs (d + 16) J) (hn : 6 * n + 6 ≤ L) (hL : L ≤ 3072) (W : WW ad w h) (hC : RCl w S) (hM : RMo w S) (hO : SOK S) (hb : bOK bg) (hN : LN ga ad n J bg) : J 61 (lwl ga ad n z5 z6 z7) [] h bg := by
  obtain ⟨i, hcb, hcr⟩ := id hC.1
  refine hJ 61 _ _ rfl _ _ _ _ (x_aload rfl (x_aload rfl (x_iload rfl (x_sipush (x_iadd (x_fal (6 * n + 1) (kN_add _ 1) (by omega) hL (x_aload rfl (x_iload rfl (x_sipush (x_iadd (x_fal (6 * n + 2) (kN_add _ 2) (by omega) hL (x_aload rfl (x_csb rfl (Nat.le_of_ble_eq_true rfl) (lw_bg hb rfl) (w_turnsBy W hC hO tuT_le (fun h1 w1 W1 k1 y1 n1 => xk_go (x_istore rfl (x_aload rfl (x_aload rfl (x_iload rfl (x_sipush (x_iadd (x_fal (6 * n + 1) (kN_add _ 1) (by omega) hL (x_aload rfl (x_iload rfl (x_sipush (x_iadd (x_fal (6 * n + 2) (kN_add _ 2) (by omega) hL (x_cv rfl (Nat.le_of_ble_eq_true rfl) (isO_W W1 (by decide) shp_80) (WP.shape kX7_turnsBy rfl (m_turnsBy W1 (hM.kl k1).1 hO.1 (hM.kl k1).2.1 hO.2.1 (KQm.query (hM.kl k1) (KQm.int (Or.inl rfl) (fun h2 w2 x2 W2 k2 y2 n2 f2 e2 => xk_go (x_istore rfl (x_aload rfl (x_cv rfl (Nat.le_of_ble_eq_true rfl) (isO_W W2 (by decide) shp_80) (m_thrown W2 (xk_go (x_iload rfl (x_br2 (fun q1 => have q1 := cy_eq q1; hJ 62 _ _ rfl _ _ _ _ (x_iload rfl (x_br (fun q2 => have q2 := cy_ne q2; hJ 63 _ _ rfl _ _ _ _ (x_goto (?_))) (fun q2 => have q2 := cn_ne q2; x_aload rfl (x_sipush (w_lald W2 0 (by decide) shp_96 rfl (by decide) (by decide) (x_iload rfl (x_i2l (x_lcmp (x_br (fun q3 => have q3 := lg_eq.mp (cy_eq q3); hJ 63 _ _ rfl _ _ _ _ (x_goto (?_))) (fun q3 => have q3 := (fun z => cn_eq q3 (lg_eq.mpr z)); x_sipush (x_iret (by first | exact nrwB _ | rfl | decide) ?_)))))))))))) (fun q1 => absurd f2 (cn_eq q1))))))))))))))))))))))))))))))))))))))))))
  · have hT := T_ne q2
    exact hN _ _ _ _ _ _ _ W2 ((n1 hT).km k2) (n2 hT) hO (lw_bc rfl)
  · have hT := T_eq tuT_le (by omega) q2
    exact hN _ _ _ _ _ _ _ W2 ((y1 hT).1.km k2) (y2 hT) (hO) (lw_bc rfl)
  · have hT := T_eq tuT_le (by omega) q2
    have e1 := (y1 hT).2 _ rfl
    refine absurd ?_ q3
    show wl w2 96 0 = _
    rw [(congrFun (k2 96 (Or.inr rfl)).2.2.2 0), e1, e2 hT]
theorem law_64 (hJ : LJ ga L xs (d + 16) J) (hn : 6 * n + 6 ≤ L) (hL : L ≤ 3072) (W : WW ad w h) (hC : RCl w S) (hM : RMo w S) (hO : SOK S) (hb : bOK bg) (hN : LN ga ad n J bg) : J 64 (lwl ga ad n z5 z6 z7) [] h bg := by
  obtain ⟨i, hcb, hcr⟩ := id hC.1
  refine hJ 64 _ _ rfl _ _ _ _ (x_aload rfl (x_aload rfl (x_iload rfl (x_sipush (x_iadd (x_fal (6 * n + 1) (kN_add _ 1) (by omega) hL (x_aload rfl (x_iload rfl (x_sipush (x_iadd (x_fal (6 * n + 2) (kN_add _ 2) (by omega) hL (x_aload rfl (x_iload rfl (x_sipush (x_iadd (x_fal (6 * n + 3) (kN_add _ 3) (by omega) hL (x_aload rfl (x_csb rfl (Nat.le_of_ble_eq_true rfl) (lw_bg hb rfl) (w_two W hC hO twoT_le (fun h1 w1 W1 k1 y1 n1 => xk_go (x_istore rfl (x_aload rfl (x_aload rfl (x_iload rfl (x_sipush (x_iadd (x_fal (6 * n + 1) (kN_add _ 1) (by omega) hL (x_aload rfl (x_iload rfl (x_sipush (x_iadd (x_fal (6 * n + 2) (kN_add _ 2) (by omega) hL (x_aload rfl (x_iload rfl (x_sipush (x_iadd (x_fal (6 * n + 3) (kN_add _ 3) (by omega) hL (x_cv rfl (Nat.le_of_ble_eq_true rfl) (isO_W W1 (by decide) shp_80) (WP.shape kX7_two rfl (m_two W1 (hM.kl k1).1 hO.1 (KQm.query (hM.kl k1) (KQm.int (Or.inl rfl) (fun h2 w2 x2 W2 k2 y2 n2 f2 e2 => xk_go (x_istore rfl (x_aload rfl (x_cv rfl (Nat.le_of_ble_eq_true rfl) (isO_W W2 (by decide) shp_80) (m_thrown W2 (xk_go (x_iload rfl (x_br2 (fun q1 => have q1 := cy_eq q1; hJ 65 _ _ rfl _ _ _ _ (x_iload rfl (x_br (fun q2 => have q2 := cy_ne q2; hJ 66 _ _ rfl _ _ _ _ (x_goto (?_))) (fun q2 => have q2 := cn_ne q2; x_aload rfl (x_sipush (w_lald W2 0 (by decide) shp_96 rfl (by decide) (by decide) (x_iload rfl (x_i2l (x_lcmp (x_br (fun q3 => have q3 := lg_eq.mp (cy_eq q3); hJ 66 _ _ rfl _ _ _ _ (x_goto (?_))) (fun q3 => have q3 := (fun z => cn_eq q3 (lg_eq.mpr z)); x_sipush (x_iret (by first | exact nrwB _ | rfl | decide) ?_)))))))))))) (fun q1 => absurd f2 (cn_eq q1))))))))))))))))))))))))))))))))))))))))))))))))))))
  · have hT := T_ne q2
    exact hN _ _ _ _ _ _ _ W2 ((n1 hT).km k2) (n2 hT) hO (lw_bc rfl)
  · have hT := T_eq twoT_le (by omega) q2
    exact hN _ _ _ _ _ _ _ W2 ((y1 hT).1.km k2) (y2 hT) (hO) (lw_bc rfl)
  · have hT := T_eq twoT_le (by omega) q2
    have e1 := (y1 hT).2 _ rfl
    refine absurd ?_ q3
    show wl w2 96 0 = _
    rw [(congrFun (k2 96 (Or.inr rfl)).2.2.2 0), e1, e2 hT]
theorem law_67 (hJ : LJ ga L xs (d + 16) J) (hn : 6 * n + 6 ≤ L) (hL : L ≤ 3072) (W : WW ad w h) (hC : RCl w S) (hM : RMo w S) (hO : SOK S) (hb : bOK bg) (hN : LN ga ad n J bg) : J 67 (lwl ga ad n z5 z6 z7) [] h bg := by
  obtain ⟨i, hcb, hcr⟩ := id hC.1
  refine hJ 67 _ _ rfl _ _ _ _ (x_aload rfl (x_cv rfl (Nat.le_of_ble_eq_true rfl) (isO_W W (by decide) shp_0) (x_bestRest W hcb.isC hcr hO.1 hcb.2.1 (KCm.query hC ⟨fun hT h1 w1 W1 k1 hC1 => xk_go (x_aload rfl (x_cv rfl (Nat.le_of_ble_eq_true rfl) (isO_W W1 (by decide) shp_80) (WP.shape kX7_bestRest rfl (m_bestRest W1 (hM.kc k1).1 hO.1 (KQm.query (hM.kc k1) (KQm.int (Or.inl rfl) (fun h2 w2 x2 W2 k2 y2 n2 f2 e2 => xk_go (x_br2 (fun q1 => have q1 := cy_eq q1; ?_) (fun q1 => have q1 := cn_eq q1; x_sipush (x_iret (by first | exact nrwB _ | rfl | decide) ?_)))))))))), fun j hT => absurd hT (by omega)⟩))))
  · exact hN _ _ _ _ _ _ _ W2 (hC1.km k2) (y2 rfl) (hO) lw_b0
  · exact absurd (e2 rfl).symm q1
theorem law_68 (hJ : LJ ga L xs (d + 16) J) (hn : 6 * n + 6 ≤ L) (hL : L ≤ 3072) (W : WW ad w h) (hC : RCl w S) (hM : RMo w S) (hO : SOK S) (hb : bOK bg) (hN : LN ga ad n J bg) : J 68 (lwl ga ad n z5 z6 z7) [] h bg := by
  obtain ⟨i, hcb, hcr⟩ := id hC.1
  refine hJ 68 _ _ rfl _ _ _ _ (x_aload rfl (x_aload rfl (x_iload rfl (x_sipush (x_iadd (x_fal (6 * n + 1) (kN_add _ 1) (by omega) hL (x_aload rfl (x_csb rfl (Nat.le_of_ble_eq_true rfl) (lw_bg hb rfl) (w_pay W hC hO setT_le (fun h1 w1 W1 k1 y1 n1 => xk_go (x_istore rfl (x_aload rfl (x_aload rfl (x_iload rfl (x_sipush (x_iadd (x_fal (6 * n + 1) (kN_add _ 1) (by omega) hL (x_cv rfl (Nat.le_of_ble_eq_true rfl) (isO_W W1 (by decide) shp_80) (WP.shape kX7_pay rfl (m_pay W1 (hM.kl k1).1 hO.1 (KQm.query (hM.kl k1) (KQm.int (Or.inl rfl) (fun h2 w2 x2 W2 k2 y2 n2 f2 e2 => xk_go (x_istore rfl (x_aload rfl (x_cv rfl (Nat.le_of_ble_eq_true rfl) (isO_W W2 (by decide) shp_80) (m_thrown W2 (xk_go (x_iload rfl (x_br2 (fun q1 => have q1 := cy_eq q1; hJ 69 _ _ rfl _ _ _ _ (x_iload rfl (x_br (fun q2 => have q2 := cy_ne q2; hJ 70 _ _ rfl _ _ _ _ (x_goto (?_))) (fun q2 => have q2 := cn_ne q2; x_aload rfl (x_sipush (w_lald W2 0 (by decide) shp_96 rfl (by decide) (by decide) (x_iload rfl (x_i2l (x_lcmp (x_br (fun q3 => have q3 := lg_eq.mp (cy_eq q3); hJ 70 _ _ rfl _ _ _ _ (x_goto (?_))) (fun q3 => have q3 := (fun z => cn_eq q3 (lg_eq.mpr z)); x_sipush (x_iret (by first | exact nrwB _ | rfl | decide) ?_)))))))))))) (fun q1 => absurd f2 (cn_eq q1))))))))))))))))))))))))))))))))
  · have hT := T_ne q2
    exact hN _ _ _ _ _ _ _ W2 ((n1 hT).km k2) (n2 hT) hO (lw_bc rfl)
  · have hT := T_eq setT_le (by omega) q2
    exact hN _ _ _ _ _ _ _ W2 ((y1 hT).1.km k2) (y2 hT) (hO) (lw_bc rfl)
  · have hT := T_eq setT_le (by omega) q2
    have e1 := (y1 hT).2 _ rfl
    refine absurd ?_ q3
    show wl w2 96 0 = _
    rw [(congrFun (k2 96 (Or.inr rfl)).2.2.2 0), e1, e2 hT]
theorem law_71 (hJ : LJ ga L xs (d + 16) J) (hn : 6 * n + 6 ≤ L) (hL : L ≤ 3072) (W : WW ad w h) (hC : RCl w S) (hM : RMo w S) (hO : SOK S) (hb : bOK bg) (hN : LN ga ad n J bg) : J 71 (lwl ga ad n z5 z6 z7) [] h bg := by
  obtain ⟨i, hcb, hcr⟩ := id hC.1
  refine hJ 71 _ _ rfl _ _ _ _ (x_aload rfl (x_aload rfl (x_iload rfl (x_sipush (x_iadd (x_fal (6 * n + 1) (kN_add _ 1) (by omega) hL (x_aload rfl (x_csb rfl (Nat.le_of_ble_eq_true rfl) (lw_bg hb rfl) (w_pivots W hC hO setT_le (fun h1 w1 W1 k1 y1 n1 => xk_go (x_istore rfl (x_aload rfl (x_aload rfl (x_iload rfl (x_sipush (x_iadd (x_fal (6 * n + 1) (kN_add _ 1) (by omega) hL (x_cv rfl (Nat.le_of_ble_eq_true rfl) (isO_W W1 (by decide) shp_80) (WP.shape kX7_pivots rfl (m_pivots W1 (hM.kl k1).1 hO.1 (KQm.query (hM.kl k1) (KQm.int (Or.inl rfl) (fun h2 w2 x2 W2 k2 y2 n2 f2 e2 => xk_go (x_istore rfl (x_aload rfl (x_cv rfl (Nat.le_of_ble_eq_true rfl) (isO_W W2 (by decide) shp_80) (m_thrown W2 (xk_go (x_iload rfl (x_br2 (fun q1 => have q1 := cy_eq q1; hJ 72 _ _ rfl _ _ _ _ (x_iload rfl (x_br (fun q2 => have q2 := cy_ne q2; hJ 73 _ _ rfl _ _ _ _ (x_goto (?_))) (fun q2 => have q2 := cn_ne q2; x_aload rfl (x_sipush (w_lald W2 0 (by decide) shp_96 rfl (by decide) (by decide) (x_iload rfl (x_i2l (x_lcmp (x_br (fun q3 => have q3 := lg_eq.mp (cy_eq q3); hJ 73 _ _ rfl _ _ _ _ (x_goto (?_))) (fun q3 => have q3 := (fun z => cn_eq q3 (lg_eq.mpr z)); x_sipush (x_iret (by first | exact nrwB _ | rfl | decide) ?_)))))))))))) (fun q1 => absurd f2 (cn_eq q1))))))))))))))))))))))))))))))))
  · have hT := T_ne q2
    exact hN _ _ _ _ _ _ _ W2 ((n1 hT).km k2) (n2 hT) hO (lw_bc rfl)
  · have hT := T_eq setT_le (by omega) q2
    exact hN _ _ _ _ _ _ _ W2 ((y1 hT).1.km k2) (y2 hT) (hO) (lw_bc rfl)
  · have hT := T_eq setT_le (by omega) q2
    have e1 := (y1 hT).2 _ rfl
    refine absurd ?_ q3
    show wl w2 96 0 = _
    rw [(congrFun (k2 96 (Or.inr rfl)).2.2.2 0), e1, e2 hT]
theorem law_74 (hJ : LJ ga L xs (d + 16) J) (hn : 6 * n + 6 ≤ L) (hL : L ≤ 3072) (W : WW ad w h) (hC : RCl w S) (hM : RMo w S) (hO : SOK S) (hb : bOK bg) (hN : LN ga ad n J bg) : J 74 (lwl ga ad n z5 z6 z7) [] h bg := by
  obtain ⟨i, hcb, hcr⟩ := id hC.1
  refine hJ 74 _ _ rfl _ _ _ _ (x_aload rfl (x_aload rfl (x_iload rfl (x_sipush (x_iadd (x_fal (6 * n + 1) (kN_add _ 1) (by omega) hL (x_aload rfl (x_iload rfl (x_sipush (x_iadd (x_fal (6 * n + 2) (kN_add _ 2) (by omega) hL (x_aload rfl (x_csb rfl (Nat.le_of_ble_eq_true rfl) (lw_bg hb rfl) (w_replies W hC hO replT_le (fun h1 w1 W1 k1 y1 n1 => xk_go (x_istore rfl (x_aload rfl (x_aload rfl (x_iload rfl (x_sipush (x_iadd (x_fal (6 * n + 1) (kN_add _ 1) (by omega) hL (x_aload rfl (x_iload rfl (x_sipush (x_iadd (x_fal (6 * n + 2) (kN_add _ 2) (by omega) hL (x_cv rfl (Nat.le_of_ble_eq_true rfl) (isO_W W1 (by decide) shp_80) (WP.shape kX7_replies rfl (m_replies W1 (hM.kl k1).1 hO.1 (KQm.query (hM.kl k1) (KQm.int (Or.inl rfl) (fun h2 w2 x2 W2 k2 y2 n2 f2 e2 => xk_go (x_istore rfl (x_aload rfl (x_cv rfl (Nat.le_of_ble_eq_true rfl) (isO_W W2 (by decide) shp_80) (m_thrown W2 (xk_go (x_iload rfl (x_br2 (fun q1 => have q1 := cy_eq q1; hJ 75 _ _ rfl _ _ _ _ (x_iload rfl (x_br (fun q2 => have q2 := cy_ne q2; hJ 76 _ _ rfl _ _ _ _ (x_goto (?_))) (fun q2 => have q2 := cn_ne q2; x_aload rfl (x_sipush (w_lald W2 0 (by decide) shp_96 rfl (by decide) (by decide) (x_iload rfl (x_i2l (x_lcmp (x_br (fun q3 => have q3 := lg_eq.mp (cy_eq q3); hJ 76 _ _ rfl _ _ _ _ (x_goto (?_))) (fun q3 => have q3 := (fun z => cn_eq q3 (lg_eq.mpr z)); x_sipush (x_iret (by first | exact nrwB _ | rfl | decide) ?_)))))))))))) (fun q1 => absurd f2 (cn_eq q1))))))))))))))))))))))))))))))))))))))))))
  · have hT := T_ne q2
    exact hN _ _ _ _ _ _ _ W2 ((n1 hT).km k2) (n2 hT) hO (lw_bc rfl)
  · have hT := T_eq replT_le (by omega) q2
    exact hN _ _ _ _ _ _ _ W2 ((y1 hT).1.km k2) (y2 hT) (hO) (lw_bc rfl)
  · have hT := T_eq replT_le (by omega) q2
    have e1 := (y1 hT).2 _ rfl
    refine absurd ?_ q3
    show wl w2 96 0 = _
    rw [(congrFun (k2 96 (Or.inr rfl)).2.2.2 0), e1, e2 hT]
theorem law_77 (hJ : LJ ga L xs (d + 16) J) (hn : 6 * n + 6 ≤ L) (hL : L ≤ 3072) (W : WW ad w h) (hC : RCl w S) (hM : RMo w S) (hO : SOK S) (hb : bOK bg) (hN : LN ga ad n J bg) : J 77 (lwl ga ad n z5 z6 z7) [] h bg := by
  obtain ⟨i, hcb, hcr⟩ := id hC.1
  refine hJ 77 _ _ rfl _ _ _ _ (x_aload rfl (x_aload rfl (x_iload rfl (x_sipush (x_iadd (x_fal (6 * n + 1) (kN_add _ 1) (by omega) hL (x_aload rfl (x_csb rfl (Nat.le_of_ble_eq_true rfl) (lw_bg hb rfl) (w_bribe W hC hO setT_le (fun h1 w1 W1 k1 y1 n1 => xk_go (x_istore rfl (x_aload rfl (x_aload rfl (x_iload rfl (x_sipush (x_iadd (x_fal (6 * n + 1) (kN_add _ 1) (by omega) hL (x_cv rfl (Nat.le_of_ble_eq_true rfl) (isO_W W1 (by decide) shp_80) (WP.shape kX7_bribe rfl (m_bribe W1 (hM.kl k1).1 hO.1 (KQm.query (hM.kl k1) (KQm.int (Or.inl rfl) (fun h2 w2 x2 W2 k2 y2 n2 f2 e2 => xk_go (x_istore rfl (x_aload rfl (x_cv rfl (Nat.le_of_ble_eq_true rfl) (isO_W W2 (by decide) shp_80) (m_thrown W2 (xk_go (x_iload rfl (x_br2 (fun q1 => have q1 := cy_eq q1; hJ 78 _ _ rfl _ _ _ _ (x_iload rfl (x_br (fun q2 => have q2 := cy_ne q2; hJ 79 _ _ rfl _ _ _ _ (x_goto (?_))) (fun q2 => have q2 := cn_ne q2; x_aload rfl (x_sipush (w_lald W2 0 (by decide) shp_96 rfl (by decide) (by decide) (x_iload rfl (x_i2l (x_lcmp (x_br (fun q3 => have q3 := lg_eq.mp (cy_eq q3); hJ 79 _ _ rfl _ _ _ _ (x_goto (?_))) (fun q3 => have q3 := (fun z => cn_eq q3 (lg_eq.mpr z)); x_sipush (x_iret (by first | exact nrwB _ | rfl | decide) ?_)))))))))))) (fun q1 => absurd f2 (cn_eq q1))))))))))))))))))))))))))))))))
  · have hT := T_ne q2
    exact hN _ _ _ _ _ _ _ W2 ((n1 hT).km k2) (n2 hT) hO (lw_bc rfl)
  · have hT := T_eq setT_le (by omega) q2
    exact hN _ _ _ _ _ _ _ W2 ((y1 hT).1.km k2) (y2 hT) (hO) (lw_bc rfl)
  · have hT := T_eq setT_le (by omega) q2
    have e1 := (y1 hT).2 _ rfl
    refine absurd ?_ q3
    show wl w2 96 0 = _
    rw [(congrFun (k2 96 (Or.inr rfl)).2.2.2 0), e1, e2 hT]
theorem law_80 (hJ : LJ ga L xs (d + 16) J) (hn : 6 * n + 6 ≤ L) (hL : L ≤ 3072) (W : WW ad w h) (hC : RCl w S) (hM : RMo w S) (hO : SOK S) (hb : bOK bg) (hN : LN ga ad n J bg) : J 80 (lwl ga ad n z5 z6 z7) [] h bg := by
  obtain ⟨i, hcb, hcr⟩ := id hC.1
  refine hJ 80 _ _ rfl _ _ _ _ (x_aload rfl (x_aload rfl (x_iload rfl (x_sipush (x_iadd (x_fal (6 * n + 1) (kN_add _ 1) (by omega) hL (x_aload rfl (x_csb rfl (Nat.le_of_ble_eq_true rfl) (lw_bg hb rfl) (w_leastBribe W hC hO whatT_le (fun h1 w1 W1 k1 y1 n1 => xk_go (x_istore rfl (x_aload rfl (x_aload rfl (x_iload rfl (x_sipush (x_iadd (x_fal (6 * n + 1) (kN_add _ 1) (by omega) hL (x_cv rfl (Nat.le_of_ble_eq_true rfl) (isO_W W1 (by decide) shp_80) (WP.shape kX7_leastBribe rfl (m_leastBribe W1 (hM.kl k1).1 hO.1 (KQm.query (hM.kl k1) (KQm.int (Or.inl rfl) (fun h2 w2 x2 W2 k2 y2 n2 f2 e2 => xk_go (x_istore rfl (x_aload rfl (x_cv rfl (Nat.le_of_ble_eq_true rfl) (isO_W W2 (by decide) shp_80) (m_thrown W2 (xk_go (x_iload rfl (x_br2 (fun q1 => have q1 := cy_eq q1; hJ 81 _ _ rfl _ _ _ _ (x_iload rfl (x_br (fun q2 => have q2 := cy_ne q2; hJ 82 _ _ rfl _ _ _ _ (x_goto (?_))) (fun q2 => have q2 := cn_ne q2; x_aload rfl (x_sipush (w_lald W2 0 (by decide) shp_96 rfl (by decide) (by decide) (x_iload rfl (x_i2l (x_lcmp (x_br (fun q3 => have q3 := lg_eq.mp (cy_eq q3); hJ 82 _ _ rfl _ _ _ _ (x_goto (?_))) (fun q3 => have q3 := (fun z => cn_eq q3 (lg_eq.mpr z)); x_sipush (x_iret (by first | exact nrwB _ | rfl | decide) ?_)))))))))))) (fun q1 => absurd f2 (cn_eq q1))))))))))))))))))))))))))))))))
  · have hT := T_ne q2
    exact hN _ _ _ _ _ _ _ W2 ((n1 hT).km k2) (n2 hT) hO (lw_bc rfl)
  · have hT := T_eq whatT_le (by omega) q2
    exact hN _ _ _ _ _ _ _ W2 ((y1 hT).1.km k2) (y2 hT) (hO) (lw_bc rfl)
  · have hT := T_eq whatT_le (by omega) q2
    have e1 := (y1 hT).2 _ rfl
    refine absurd ?_ q3
    show wl w2 96 0 = _
    rw [(congrFun (k2 96 (Or.inr rfl)).2.2.2 0), e1, e2 hT]
theorem law_83 (hJ : LJ ga L xs (d + 16) J) (hn : 6 * n + 6 ≤ L) (hL : L ≤ 3072) (W : WW ad w h) (hC : RCl w S) (hM : RMo w S) (hO : SOK S) (hb : bOK bg) (hN : LN ga ad n J bg) : J 83 (lwl ga ad n z5 z6 z7) [] h bg := by
  obtain ⟨i, hcb, hcr⟩ := id hC.1
  refine hJ 83 _ _ rfl _ _ _ _ (x_aload rfl (x_aload rfl (x_iload rfl (x_sipush (x_iadd (x_fal (6 * n + 1) (kN_add _ 1) (by omega) hL (x_aload rfl (x_csb rfl (Nat.le_of_ble_eq_true rfl) (lw_bg hb rfl) (w_contract W hC hO whatT_le (fun h1 w1 W1 k1 y1 n1 => xk_go (x_istore rfl (x_aload rfl (x_aload rfl (x_iload rfl (x_sipush (x_iadd (x_fal (6 * n + 1) (kN_add _ 1) (by omega) hL (x_cv rfl (Nat.le_of_ble_eq_true rfl) (isO_W W1 (by decide) shp_80) (WP.shape kX7_contract rfl (m_contract W1 (hM.kl k1).1 hO.1 (KQm.query (hM.kl k1) (KQm.int (Or.inl rfl) (fun h2 w2 x2 W2 k2 y2 n2 f2 e2 => xk_go (x_istore rfl (x_aload rfl (x_cv rfl (Nat.le_of_ble_eq_true rfl) (isO_W W2 (by decide) shp_80) (m_thrown W2 (xk_go (x_iload rfl (x_br2 (fun q1 => have q1 := cy_eq q1; hJ 84 _ _ rfl _ _ _ _ (x_iload rfl (x_br (fun q2 => have q2 := cy_ne q2; hJ 85 _ _ rfl _ _ _ _ (x_goto (?_))) (fun q2 => have q2 := cn_ne q2; x_aload rfl (x_sipush (w_lald W2 0 (by decide) shp_96 rfl (by decide) (by decide) (x_iload rfl (x_i2l (x_lcmp (x_br (fun q3 => have q3 := lg_eq.mp (cy_eq q3); hJ 85 _ _ rfl _ _ _ _ (x_goto (?_))) (fun q3 => have q3 := (fun z => cn_eq q3 (lg_eq.mpr z)); x_sipush (x_iret (by first | exact nrwB _ | rfl | decide) ?_)))))))))))) (fun q1 => absurd f2 (cn_eq q1))))))))))))))))))))))))))))))))
  · have hT := T_ne q2
    exact hN _ _ _ _ _ _ _ W2 ((n1 hT).km k2) (n2 hT) hO (lw_bc rfl)
  · have hT := T_eq whatT_le (by omega) q2
    exact hN _ _ _ _ _ _ _ W2 ((y1 hT).1.km k2) (y2 hT) (hO) (lw_bc rfl)
  · have hT := T_eq whatT_le (by omega) q2
    have e1 := (y1 hT).2 _ rfl
    refine absurd ?_ q3
    show wl w2 96 0 = _
    rw [(congrFun (k2 96 (Or.inr rfl)).2.2.2 0), e1, e2 hT]
theorem law_86 (hJ : LJ ga L xs (d + 16) J) (hn : 6 * n + 6 ≤ L) (hL : L ≤ 3072) (W : WW ad w h) (hC : RCl w S) (hM : RMo w S) (hO : SOK S) (hb : bOK bg) (hN : LN ga ad n J bg) : J 86 (lwl ga ad n z5 z6 z7) [] h bg := by
  obtain ⟨i, hcb, hcr⟩ := id hC.1
  refine hJ 86 _ _ rfl _ _ _ _ (x_aload rfl (x_aload rfl (x_iload rfl (x_sipush (x_iadd (x_fal (6 * n + 1) (kN_add _ 1) (by omega) hL (x_aload rfl (x_iload rfl (x_sipush (x_iadd (x_fal (6 * n + 2) (kN_add _ 2) (by omega) hL (x_aload rfl (x_iload rfl (x_sipush (x_iadd (x_fal (6 * n + 3) (kN_add _ 3) (by omega) hL (x_aload rfl (x_csb rfl (Nat.le_of_ble_eq_true rfl) (lw_bg hb rfl) (w_odds W hC hO oddsT_le (fun h1 w1 W1 k1 y1 n1 => xk_go (x_istore rfl (x_aload rfl (x_aload rfl (x_iload rfl (x_sipush (x_iadd (x_fal (6 * n + 1) (kN_add _ 1) (by omega) hL (x_aload rfl (x_iload rfl (x_sipush (x_iadd (x_fal (6 * n + 2) (kN_add _ 2) (by omega) hL (x_aload rfl (x_iload rfl (x_sipush (x_iadd (x_fal (6 * n + 3) (kN_add _ 3) (by omega) hL (x_cv rfl (Nat.le_of_ble_eq_true rfl) (isO_W W1 (by decide) shp_80) (WP.shapeL kX7_odds rfl rfl rfl (m_odds W1 (hM.kl k1).1 hO.1 (KQm.query (hM.kl k1) (KQm.long (fun h2 w2 x2 W2 k2 y2 n2 f2 e2 => xk_go (x_lstore rfl (x_aload rfl (x_cv rfl (Nat.le_of_ble_eq_true rfl) (isO_W W2 (by decide) shp_80) (m_thrown W2 (xk_go (x_iload rfl (x_br2 (fun q1 => have q1 := cy_eq q1; hJ 87 _ _ rfl _ _ _ _ (x_iload rfl (x_br (fun q2 => have q2 := cy_ne q2; hJ 88 _ _ rfl _ _ _ _ (x_goto (?_))) (fun q2 => have q2 := cn_ne q2; x_aload rfl (x_sipush (w_lald W2 0 (by decide) shp_96 rfl (by decide) (by decide) (x_lload rfl (x_lcmp (x_br (fun q3 => have q3 := lg_eq.mp (cy_eq q3); hJ 88 _ _ rfl _ _ _ _ (x_goto (?_))) (fun q3 => have q3 := (fun z => cn_eq q3 (lg_eq.mpr z)); x_sipush (x_iret (by first | exact nrwB _ | rfl | decide) ?_))))))))))) (fun q1 => absurd f2 (cn_eq q1))))))))))))))))))))))))))))))))))))))))))))))))))))
  · have hT := T_ne q2
    exact hN _ _ _ _ _ _ _ W2 ((n1 hT).km k2) (n2 hT) hO (lw_bc rfl)
  · have hT := T_eq oddsT_le (by omega) q2
    exact hN _ _ _ _ _ _ _ W2 ((y1 hT).1.km k2) (y2 hT) (hO) (lw_bc rfl)
  · have hT := T_eq oddsT_le (by omega) q2
    have e1 := (y1 hT).2 _ rfl
    refine absurd ?_ q3
    show wl w2 96 0 = _
    rw [(congrFun (k2 96 (Or.inr rfl)).2.2.2 0), e1, e2 hT]
theorem law_89 (hJ : LJ ga L xs (d + 16) J) (hn : 6 * n + 6 ≤ L) (hL : L ≤ 3072) (W : WW ad w h) (hC : RCl w S) (hM : RMo w S) (hO : SOK S) (hb : bOK bg) (hN : LN ga ad n J bg) : J 89 (lwl ga ad n z5 z6 z7) [] h bg := by
  obtain ⟨i, hcb, hcr⟩ := id hC.1
  refine hJ 89 _ _ rfl _ _ _ _ (x_aload rfl (x_aload rfl (x_iload rfl (x_sipush (x_iadd (x_fal (6 * n + 1) (kN_add _ 1) (by omega) hL (x_aload rfl (x_csb rfl (Nat.le_of_ble_eq_true rfl) (lw_bg hb rfl) (w_bestOdds W hC hO bT_le (fun h1 w1 W1 k1 y1 n1 => xk_go (x_istore rfl (x_aload rfl (x_aload rfl (x_iload rfl (x_sipush (x_iadd (x_fal (6 * n + 1) (kN_add _ 1) (by omega) hL (x_cv rfl (Nat.le_of_ble_eq_true rfl) (isO_W W1 (by decide) shp_80) (WP.shape kX7_bestOdds rfl (m_bestOdds W1 (hM.kl k1).1 hO.1 (KQm.query (hM.kl k1) (KQm.int (Or.inl rfl) (fun h2 w2 x2 W2 k2 y2 n2 f2 e2 => xk_go (x_istore rfl (x_aload rfl (x_cv rfl (Nat.le_of_ble_eq_true rfl) (isO_W W2 (by decide) shp_80) (m_thrown W2 (xk_go (x_iload rfl (x_br2 (fun q1 => have q1 := cy_eq q1; hJ 90 _ _ rfl _ _ _ _ (x_iload rfl (x_br (fun q2 => have q2 := cy_ne q2; hJ 91 _ _ rfl _ _ _ _ (x_goto (?_))) (fun q2 => have q2 := cn_ne q2; x_aload rfl (x_sipush (w_lald W2 0 (by decide) shp_96 rfl (by decide) (by decide) (x_iload rfl (x_i2l (x_lcmp (x_br (fun q3 => have q3 := lg_eq.mp (cy_eq q3); hJ 91 _ _ rfl _ _ _ _ (x_goto (?_))) (fun q3 => have q3 := (fun z => cn_eq q3 (lg_eq.mpr z)); x_sipush (x_iret (by first | exact nrwB _ | rfl | decide) ?_)))))))))))) (fun q1 => absurd f2 (cn_eq q1))))))))))))))))))))))))))))))))
  · have hT := T_ne q2
    exact hN _ _ _ _ _ _ _ W2 ((n1 hT).km k2) (n2 hT) hO (lw_bc rfl)
  · have hT := T_eq bT_le (by omega) q2
    exact hN _ _ _ _ _ _ _ W2 ((y1 hT).1.km k2) (y2 hT) (hO) (lw_bc rfl)
  · have hT := T_eq bT_le (by omega) q2
    have e1 := (y1 hT).2 _ rfl
    refine absurd ?_ q3
    show wl w2 96 0 = _
    rw [(congrFun (k2 96 (Or.inr rfl)).2.2.2 0), e1, e2 hT]
theorem law_92 (hJ : LJ ga L xs (d + 16) J) (hn : 6 * n + 6 ≤ L) (hL : L ≤ 3072) (W : WW ad w h) (hC : RCl w S) (hM : RMo w S) (hO : SOK S) (hb : bOK bg) (hN : LN ga ad n J bg) : J 92 (lwl ga ad n z5 z6 z7) [] h bg := by
  obtain ⟨i, hcb, hcr⟩ := id hC.1
  refine hJ 92 _ _ rfl _ _ _ _ (x_aload rfl (x_aload rfl (x_iload rfl (x_sipush (x_iadd (x_fal (6 * n + 1) (kN_add _ 1) (by omega) hL (x_aload rfl (x_iload rfl (x_sipush (x_iadd (x_fal (6 * n + 2) (kN_add _ 2) (by omega) hL (x_aload rfl (x_iload rfl (x_sipush (x_iadd (x_fal (6 * n + 3) (kN_add _ 3) (by omega) hL (x_aload rfl (x_csb rfl (Nat.le_of_ble_eq_true rfl) (lw_bg hb rfl) (w_chances W hC hO chanT_le (fun h1 w1 W1 k1 y1 n1 => xk_go (x_istore rfl (x_aload rfl (x_aload rfl (x_iload rfl (x_sipush (x_iadd (x_fal (6 * n + 1) (kN_add _ 1) (by omega) hL (x_aload rfl (x_iload rfl (x_sipush (x_iadd (x_fal (6 * n + 2) (kN_add _ 2) (by omega) hL (x_aload rfl (x_iload rfl (x_sipush (x_iadd (x_fal (6 * n + 3) (kN_add _ 3) (by omega) hL (x_cv rfl (Nat.le_of_ble_eq_true rfl) (isO_W W1 (by decide) shp_80) (WP.shapeL kX7_chances rfl rfl rfl (m_chances W1 (hM.kl k1).1 hO.1 (hM.kl k1).2.1 hO.2.1 (KQm.query (hM.kl k1) (KQm.long (fun h2 w2 x2 W2 k2 y2 n2 f2 e2 => xk_go (x_lstore rfl (x_aload rfl (x_cv rfl (Nat.le_of_ble_eq_true rfl) (isO_W W2 (by decide) shp_80) (m_thrown W2 (xk_go (x_iload rfl (x_br2 (fun q1 => have q1 := cy_eq q1; hJ 93 _ _ rfl _ _ _ _ (x_iload rfl (x_br (fun q2 => have q2 := cy_ne q2; hJ 94 _ _ rfl _ _ _ _ (x_goto (?_))) (fun q2 => have q2 := cn_ne q2; x_aload rfl (x_sipush (w_lald W2 0 (by decide) shp_96 rfl (by decide) (by decide) (x_lload rfl (x_lcmp (x_br (fun q3 => have q3 := lg_eq.mp (cy_eq q3); hJ 94 _ _ rfl _ _ _ _ (x_goto (?_))) (fun q3 => have q3 := (fun z => cn_eq q3 (lg_eq.mpr z)); x_sipush (x_iret (by first | exact nrwB _ | rfl | decide) ?_))))))))))) (fun q1 => absurd f2 (cn_eq q1))))))))))))))))))))))))))))))))))))))))))))))))))))
  · have hT := T_ne q2
    exact hN _ _ _ _ _ _ _ W2 ((n1 hT).km k2) (n2 hT) hO (lw_bc rfl)
  · have hT := T_eq chanT_le (by omega) q2
    exact hN _ _ _ _ _ _ _ W2 ((y1 hT).1.km k2) (y2 hT) (hO) (lw_bc rfl)
  · have hT := T_eq chanT_le (by omega) q2
    have e1 := (y1 hT).2 _ rfl
    refine absurd ?_ q3
    show wl w2 96 0 = _
    rw [(congrFun (k2 96 (Or.inr rfl)).2.2.2 0), e1, e2 hT]
theorem law_95 (hJ : LJ ga L xs (d + 16) J) (hn : 6 * n + 6 ≤ L) (hL : L ≤ 3072) (W : WW ad w h) (hC : RCl w S) (hM : RMo w S) (hO : SOK S) (hb : bOK bg) (hN : LN ga ad n J bg) : J 95 (lwl ga ad n z5 z6 z7) [] h bg := by
  obtain ⟨i, hcb, hcr⟩ := id hC.1
  refine hJ 95 _ _ rfl _ _ _ _ (x_aload rfl (x_aload rfl (x_iload rfl (x_sipush (x_iadd (x_fal (6 * n + 1) (kN_add _ 1) (by omega) hL (x_aload rfl (x_iload rfl (x_sipush (x_iadd (x_fal (6 * n + 2) (kN_add _ 2) (by omega) hL (x_aload rfl (x_iload rfl (x_sipush (x_iadd (x_fal (6 * n + 3) (kN_add _ 3) (by omega) hL (x_aload rfl (x_iload rfl (x_sipush (x_iadd (x_fal (6 * n + 4) (kN_add _ 4) (by omega) hL (x_aload rfl (x_csb rfl (Nat.le_of_ble_eq_true rfl) (lw_bg hb rfl) (w_hope W hC hO hopeT_le (fun h1 w1 W1 k1 y1 n1 => xk_go (x_istore rfl (x_aload rfl (x_aload rfl (x_iload rfl (x_sipush (x_iadd (x_fal (6 * n + 1) (kN_add _ 1) (by omega) hL (x_aload rfl (x_iload rfl (x_sipush (x_iadd (x_fal (6 * n + 2) (kN_add _ 2) (by omega) hL (x_aload rfl (x_iload rfl (x_sipush (x_iadd (x_fal (6 * n + 3) (kN_add _ 3) (by omega) hL (x_aload rfl (x_iload rfl (x_sipush (x_iadd (x_fal (6 * n + 4) (kN_add _ 4) (by omega) hL (x_cv rfl (Nat.le_of_ble_eq_true rfl) (isO_W W1 (by decide) shp_80) (WP.shapeL kX7_hope rfl rfl rfl (m_hope W1 (hM.kl k1).1 hO.1 (KQm.query (hM.kl k1) (KQm.long (fun h2 w2 x2 W2 k2 y2 n2 f2 e2 => xk_go (x_lstore rfl (x_aload rfl (x_cv rfl (Nat.le_of_ble_eq_true rfl) (isO_W W2 (by decide) shp_80) (m_thrown W2 (xk_go (x_iload rfl (x_br2 (fun q1 => have q1 := cy_eq q1; hJ 96 _ _ rfl _ _ _ _ (x_iload rfl (x_br (fun q2 => have q2 := cy_ne q2; hJ 97 _ _ rfl _ _ _ _ (x_goto (?_))) (fun q2 => have q2 := cn_ne q2; x_aload rfl (x_sipush (w_lald W2 0 (by decide) shp_96 rfl (by decide) (by decide) (x_lload rfl (x_lcmp (x_br (fun q3 => have q3 := lg_eq.mp (cy_eq q3); hJ 97 _ _ rfl _ _ _ _ (x_goto (?_))) (fun q3 => have q3 := (fun z => cn_eq q3 (lg_eq.mpr z)); x_sipush (x_iret (by first | exact nrwB _ | rfl | decide) ?_))))))))))) (fun q1 => absurd f2 (cn_eq q1))))))))))))))))))))))))))))))))))))))))))))))))))))))))))))))
  · have hT := T_ne q2
    exact hN _ _ _ _ _ _ _ W2 ((n1 hT).km k2) (n2 hT) hO (lw_bc rfl)
  · have hT := T_eq hopeT_le (by omega) q2
    exact hN _ _ _ _ _ _ _ W2 ((y1 hT).1.km k2) (y2 hT) (hO) (lw_bc rfl)
  · have hT := T_eq hopeT_le (by omega) q2
    have e1 := (y1 hT).2 _ rfl
    refine absurd ?_ q3
    show wl w2 96 0 = _
    rw [(congrFun (k2 96 (Or.inr rfl)).2.2.2 0), e1, e2 hT]
theorem law_98 (hJ : LJ ga L xs (d + 16) J) (hn : 6 * n + 6 ≤ L) (hL : L ≤ 3072) (W : WW ad w h) (hC : RCl w S) (hM : RMo w S) (hO : SOK S) (hb : bOK bg) (hN : LN ga ad n J bg) : J 98 (lwl ga ad n z5 z6 z7) [] h bg := by
  obtain ⟨i, hcb, hcr⟩ := id hC.1
  refine hJ 98 _ _ rfl _ _ _ _ (x_aload rfl (x_aload rfl (x_iload rfl (x_sipush (x_iadd (x_fal (6 * n + 1) (kN_add _ 1) (by omega) hL (x_aload rfl (x_iload rfl (x_sipush (x_iadd (x_fal (6 * n + 2) (kN_add _ 2) (by omega) hL (x_aload rfl (x_csb rfl (Nat.le_of_ble_eq_true rfl) (lw_bg hb rfl) (w_ahead W hC hO aheadT_le (fun h1 w1 W1 k1 y1 n1 => xk_go (x_istore rfl (x_aload rfl (x_aload rfl (x_iload rfl (x_sipush (x_iadd (x_fal (6 * n + 1) (kN_add _ 1) (by omega) hL (x_aload rfl (x_iload rfl (x_sipush (x_iadd (x_fal (6 * n + 2) (kN_add _ 2) (by omega) hL (x_cv rfl (Nat.le_of_ble_eq_true rfl) (isO_W W1 (by decide) shp_80) (WP.shape kX7_ahead rfl (m_ahead W1 (hM.kl k1).1 hO.1 (KQm.query (hM.kl k1) (KQm.int (Or.inl rfl) (fun h2 w2 x2 W2 k2 y2 n2 f2 e2 => xk_go (x_istore rfl (x_aload rfl (x_cv rfl (Nat.le_of_ble_eq_true rfl) (isO_W W2 (by decide) shp_80) (m_thrown W2 (xk_go (x_iload rfl (x_br2 (fun q1 => have q1 := cy_eq q1; hJ 99 _ _ rfl _ _ _ _ (x_iload rfl (x_br (fun q2 => have q2 := cy_ne q2; hJ 100 _ _ rfl _ _ _ _ (x_goto (?_))) (fun q2 => have q2 := cn_ne q2; x_aload rfl (x_sipush (w_lald W2 0 (by decide) shp_96 rfl (by decide) (by decide) (x_iload rfl (x_i2l (x_lcmp (x_br (fun q3 => have q3 := lg_eq.mp (cy_eq q3); hJ 100 _ _ rfl _ _ _ _ (x_goto (?_))) (fun q3 => have q3 := (fun z => cn_eq q3 (lg_eq.mpr z)); x_sipush (x_iret (by first | exact nrwB _ | rfl | decide) ?_)))))))))))) (fun q1 => absurd f2 (cn_eq q1))))))))))))))))))))))))))))))))))))))))))
  · have hT := T_ne q2
    exact hN _ _ _ _ _ _ _ W2 ((n1 hT).km k2) (n2 hT) hO (lw_bc rfl)
  · have hT := T_eq aheadT_le (by omega) q2
    exact hN _ _ _ _ _ _ _ W2 ((y1 hT).1.km k2) (y2 hT) (hO) (lw_bc rfl)
  · have hT := T_eq aheadT_le (by omega) q2
    have e1 := (y1 hT).2 _ rfl
    refine absurd ?_ q3
    show wl w2 96 0 = _
    rw [(congrFun (k2 96 (Or.inr rfl)).2.2.2 0), e1, e2 hT]
theorem law_101 (hJ : LJ ga L xs (d + 16) J) (hn : 6 * n + 6 ≤ L) (hL : L ≤ 3072) (W : WW ad w h) (hC : RCl w S) (hM : RMo w S) (hO : SOK S) (hb : bOK bg) (hN : LN ga ad n J bg) : J 101 (lwl ga ad n z5 z6 z7) [] h bg := by
  obtain ⟨i, hcb, hcr⟩ := id hC.1
  obtain ⟨R, hRr⟩ := ringR_ex S.1 (xs (6 * n + 1))
  refine hJ 101 _ _ rfl _ _ _ _ (x_aload rfl (x_aload rfl (x_iload rfl (x_sipush (x_iadd (x_fal (6 * n + 1) (kN_add _ 1) (by omega) hL (x_aload rfl (x_csb rfl (Nat.le_of_ble_eq_true rfl) (lw_bg hb rfl) (w_ring W hC hO hRr whatT_le (fun h1 w1 W1 k1 y1 n1 => xk_go (x_istore rfl (x_aload rfl (x_aload rfl (x_iload rfl (x_sipush (x_iadd (x_fal (6 * n + 1) (kN_add _ 1) (by omega) hL (x_cv rfl (Nat.le_of_ble_eq_true rfl) (isO_W W1 (by decide) shp_80) (WP.shape kX7_ring rfl (m_ring W1 (hM.kl k1).1 hO.1 hRr (KQm.query (hM.kl k1) (KQm.int (Or.inl rfl) (fun h2 w2 x2 W2 k2 y2 n2 f2 e2 => xk_go (x_istore rfl (x_aload rfl (x_cv rfl (Nat.le_of_ble_eq_true rfl) (isO_W W2 (by decide) shp_80) (m_thrown W2 (xk_go (x_iload rfl (x_br2 (fun q1 => have q1 := cy_eq q1; hJ 102 _ _ rfl _ _ _ _ (x_iload rfl (x_br (fun q2 => have q2 := cy_ne q2; hJ 103 _ _ rfl _ _ _ _ (x_goto (?_))) (fun q2 => have q2 := cn_ne q2; x_aload rfl (x_sipush (w_lald W2 0 (by decide) shp_96 rfl (by decide) (by decide) (x_iload rfl (x_i2l (x_lcmp (x_br (fun q3 => have q3 := lg_eq.mp (cy_eq q3); hJ 103 _ _ rfl _ _ _ _ (x_goto (?_))) (fun q3 => have q3 := (fun z => cn_eq q3 (lg_eq.mpr z)); x_sipush (x_iret (by first | exact nrwB _ | rfl | decide) ?_)))))))))))) (fun q1 => absurd f2 (cn_eq q1))))))))))))))))))))))))))))))))
  · have hT := T_ne q2
    exact hN _ _ _ _ _ _ _ W2 ((n1 hT).km k2) (n2 hT) hO (lw_bc rfl)
  · have hT := T_eq whatT_le (by omega) q2
    exact hN _ _ _ _ _ _ _ W2 ((y1 hT).1.km k2) (y2 hT) (hO) (lw_bc rfl)
  · have hT := T_eq whatT_le (by omega) q2
    have e1 := (y1 hT).2 _ rfl
    refine absurd ?_ q3
    show wl w2 96 0 = _
    rw [(congrFun (k2 96 (Or.inr rfl)).2.2.2 0), e1, e2 hT]
theorem law_104 (hJ : LJ ga L xs (d + 16) J) (hn : 6 * n + 6 ≤ L) (hL : L ≤ 3072) (W : WW ad w h) (hC : RCl w S) (hM : RMo w S) (hO : SOK S) (hb : bOK bg) (hN : LN ga ad n J bg) : J 104 (lwl ga ad n z5 z6 z7) [] h bg := by
  obtain ⟨i, hcb, hcr⟩ := id hC.1
  refine hJ 104 _ _ rfl _ _ _ _ (x_aload rfl (x_aload rfl (x_iload rfl (x_sipush (x_iadd (x_fal (6 * n + 1) (kN_add _ 1) (by omega) hL (x_aload rfl (x_iload rfl (x_sipush (x_iadd (x_fal (6 * n + 2) (kN_add _ 2) (by omega) hL (x_aload rfl (x_csb rfl (Nat.le_of_ble_eq_true rfl) (lw_bg hb rfl) (w_worth W hC hO worthT_le (fun h1 w1 W1 k1 y1 n1 => xk_go (x_istore rfl (x_aload rfl (x_aload rfl (x_iload rfl (x_sipush (x_iadd (x_fal (6 * n + 1) (kN_add _ 1) (by omega) hL (x_aload rfl (x_iload rfl (x_sipush (x_iadd (x_fal (6 * n + 2) (kN_add _ 2) (by omega) hL (x_cv rfl (Nat.le_of_ble_eq_true rfl) (isO_W W1 (by decide) shp_80) (WP.shape kX7_worth rfl (m_worth W1 (hM.kl k1).1 hO.1 (KQm.query (hM.kl k1) (KQm.int (Or.inl rfl) (fun h2 w2 x2 W2 k2 y2 n2 f2 e2 => xk_go (x_istore rfl (x_aload rfl (x_cv rfl (Nat.le_of_ble_eq_true rfl) (isO_W W2 (by decide) shp_80) (m_thrown W2 (xk_go (x_iload rfl (x_br2 (fun q1 => have q1 := cy_eq q1; hJ 105 _ _ rfl _ _ _ _ (x_iload rfl (x_br (fun q2 => have q2 := cy_ne q2; hJ 106 _ _ rfl _ _ _ _ (x_goto (?_))) (fun q2 => have q2 := cn_ne q2; x_aload rfl (x_sipush (w_lald W2 0 (by decide) shp_96 rfl (by decide) (by decide) (x_iload rfl (x_i2l (x_lcmp (x_br (fun q3 => have q3 := lg_eq.mp (cy_eq q3); hJ 106 _ _ rfl _ _ _ _ (x_goto (?_))) (fun q3 => have q3 := (fun z => cn_eq q3 (lg_eq.mpr z)); x_sipush (x_iret (by first | exact nrwB _ | rfl | decide) ?_)))))))))))) (fun q1 => absurd f2 (cn_eq q1))))))))))))))))))))))))))))))))))))))))))
  · have hT := T_ne q2
    exact hN _ _ _ _ _ _ _ W2 ((n1 hT).km k2) (n2 hT) hO (lw_bc rfl)
  · have hT := T_eq worthT_le (by omega) q2
    exact hN _ _ _ _ _ _ _ W2 ((y1 hT).1.km k2) (y2 hT) (hO) (lw_bc rfl)
  · have hT := T_eq worthT_le (by omega) q2
    have e1 := (y1 hT).2 _ rfl
    refine absurd ?_ q3
    show wl w2 96 0 = _
    rw [(congrFun (k2 96 (Or.inr rfl)).2.2.2 0), e1, e2 hT]
theorem law_107 (hJ : LJ ga L xs (d + 16) J) (hn : 6 * n + 6 ≤ L) (hL : L ≤ 3072) (W : WW ad w h) (hC : RCl w S) (hM : RMo w S) (hO : SOK S) (hb : bOK bg) (hN : LN ga ad n J bg) : J 107 (lwl ga ad n z5 z6 z7) [] h bg := by
  obtain ⟨i, hcb, hcr⟩ := id hC.1
  refine hJ 107 _ _ rfl _ _ _ _ (x_aload rfl (x_aload rfl (x_iload rfl (x_sipush (x_iadd (x_fal (6 * n + 1) (kN_add _ 1) (by omega) hL (x_aload rfl (x_csb rfl (Nat.le_of_ble_eq_true rfl) (lw_bg hb rfl) (w_bestQuota W hC hO weeksT_le (fun h1 w1 W1 k1 y1 n1 => xk_go (x_istore rfl (x_aload rfl (x_aload rfl (x_iload rfl (x_sipush (x_iadd (x_fal (6 * n + 1) (kN_add _ 1) (by omega) hL (x_cv rfl (Nat.le_of_ble_eq_true rfl) (isO_W W1 (by decide) shp_80) (WP.shape kX7_bestQuota rfl (m_bestQuota W1 (hM.kl k1).1 hO.1 (KQm.query (hM.kl k1) (KQm.int (Or.inl rfl) (fun h2 w2 x2 W2 k2 y2 n2 f2 e2 => xk_go (x_istore rfl (x_aload rfl (x_cv rfl (Nat.le_of_ble_eq_true rfl) (isO_W W2 (by decide) shp_80) (m_thrown W2 (xk_go (x_iload rfl (x_br2 (fun q1 => have q1 := cy_eq q1; hJ 108 _ _ rfl _ _ _ _ (x_iload rfl (x_br (fun q2 => have q2 := cy_ne q2; hJ 109 _ _ rfl _ _ _ _ (x_goto (?_))) (fun q2 => have q2 := cn_ne q2; x_aload rfl (x_sipush (w_lald W2 0 (by decide) shp_96 rfl (by decide) (by decide) (x_iload rfl (x_i2l (x_lcmp (x_br (fun q3 => have q3 := lg_eq.mp (cy_eq q3); hJ 109 _ _ rfl _ _ _ _ (x_goto (?_))) (fun q3 => have q3 := (fun z => cn_eq q3 (lg_eq.mpr z)); x_sipush (x_iret (by first | exact nrwB _ | rfl | decide) ?_)))))))))))) (fun q1 => absurd f2 (cn_eq q1))))))))))))))))))))))))))))))))
  · have hT := T_ne q2
    exact hN _ _ _ _ _ _ _ W2 ((n1 hT).km k2) (n2 hT) hO (lw_bc rfl)
  · have hT := T_eq weeksT_le (by omega) q2
    exact hN _ _ _ _ _ _ _ W2 ((y1 hT).1.km k2) (y2 hT) (hO) (lw_bc rfl)
  · have hT := T_eq weeksT_le (by omega) q2
    have e1 := (y1 hT).2 _ rfl
    refine absurd ?_ q3
    show wl w2 96 0 = _
    rw [(congrFun (k2 96 (Or.inr rfl)).2.2.2 0), e1, e2 hT]
theorem law_110 (hJ : LJ ga L xs (d + 16) J) (hn : 6 * n + 6 ≤ L) (hL : L ≤ 3072) (W : WW ad w h) (hC : RCl w S) (hM : RMo w S) (hO : SOK S) (hb : bOK bg) (hN : LN ga ad n J bg) : J 110 (lwl ga ad n z5 z6 z7) [] h bg := by
  obtain ⟨i, hcb, hcr⟩ := id hC.1
  refine hJ 110 _ _ rfl _ _ _ _ (x_aload rfl (x_aload rfl (x_iload rfl (x_sipush (x_iadd (x_fal (6 * n + 1) (kN_add _ 1) (by omega) hL (x_aload rfl (x_iload rfl (x_sipush (x_iadd (x_fal (6 * n + 2) (kN_add _ 2) (by omega) hL (x_aload rfl (x_iload rfl (x_sipush (x_iadd (x_fal (6 * n + 3) (kN_add _ 3) (by omega) hL (x_aload rfl (x_csb rfl (Nat.le_of_ble_eq_true rfl) (lw_bg hb rfl) (w_bestRule W hC hO bestRuleT_le (fun h1 w1 W1 k1 y1 n1 => xk_go (x_istore rfl (x_aload rfl (x_aload rfl (x_iload rfl (x_sipush (x_iadd (x_fal (6 * n + 1) (kN_add _ 1) (by omega) hL (x_aload rfl (x_iload rfl (x_sipush (x_iadd (x_fal (6 * n + 2) (kN_add _ 2) (by omega) hL (x_aload rfl (x_iload rfl (x_sipush (x_iadd (x_fal (6 * n + 3) (kN_add _ 3) (by omega) hL (x_cv rfl (Nat.le_of_ble_eq_true rfl) (isO_W W1 (by decide) shp_80) (WP.shape kX7_bestRule rfl (m_bestRule W1 (hM.kl k1).1 hO.1 (KQm.query (hM.kl k1) (KQm.int (Or.inl rfl) (fun h2 w2 x2 W2 k2 y2 n2 f2 e2 => xk_go (x_istore rfl (x_aload rfl (x_cv rfl (Nat.le_of_ble_eq_true rfl) (isO_W W2 (by decide) shp_80) (m_thrown W2 (xk_go (x_iload rfl (x_br2 (fun q1 => have q1 := cy_eq q1; hJ 111 _ _ rfl _ _ _ _ (x_iload rfl (x_br (fun q2 => have q2 := cy_ne q2; hJ 112 _ _ rfl _ _ _ _ (x_goto (?_))) (fun q2 => have q2 := cn_ne q2; x_aload rfl (x_sipush (w_lald W2 0 (by decide) shp_96 rfl (by decide) (by decide) (x_iload rfl (x_i2l (x_lcmp (x_br (fun q3 => have q3 := lg_eq.mp (cy_eq q3); hJ 112 _ _ rfl _ _ _ _ (x_goto (?_))) (fun q3 => have q3 := (fun z => cn_eq q3 (lg_eq.mpr z)); x_sipush (x_iret (by first | exact nrwB _ | rfl | decide) ?_)))))))))))) (fun q1 => absurd f2 (cn_eq q1))))))))))))))))))))))))))))))))))))))))))))))))))))
  · have hT := T_ne q2
    exact hN _ _ _ _ _ _ _ W2 ((n1 hT).km k2) (n2 hT) hO (lw_bc rfl)
  · have hT := T_eq bestRuleT_le (by omega) q2
    exact hN _ _ _ _ _ _ _ W2 ((y1 hT).1.km k2) (y2 hT) (hO) (lw_bc rfl)
  · have hT := T_eq bestRuleT_le (by omega) q2
    have e1 := (y1 hT).2 _ rfl
    refine absurd ?_ q3
    show wl w2 96 0 = _
    rw [(congrFun (k2 96 (Or.inr rfl)).2.2.2 0), e1, e2 hT]
theorem law_113 (hJ : LJ ga L xs (d + 16) J) (hn : 6 * n + 6 ≤ L) (hL : L ≤ 3072) (W : WW ad w h) (hC : RCl w S) (hM : RMo w S) (hO : SOK S) (hb : bOK bg) (hN : LN ga ad n J bg) : J 113 (lwl ga ad n z5 z6 z7) [] h bg := by
  obtain ⟨i, hcb, hcr⟩ := id hC.1
  refine hJ 113 _ _ rfl _ _ _ _ (x_aload rfl (x_aload rfl (x_iload rfl (x_sipush (x_iadd (x_fal (6 * n + 1) (kN_add _ 1) (by omega) hL (x_aload rfl (x_csb rfl (Nat.le_of_ble_eq_true rfl) (lw_bg hb rfl) (w_streak W hC hO whatT_le (fun h1 w1 W1 k1 y1 n1 => xk_go (x_istore rfl (x_aload rfl (x_aload rfl (x_iload rfl (x_sipush (x_iadd (x_fal (6 * n + 1) (kN_add _ 1) (by omega) hL (x_cv rfl (Nat.le_of_ble_eq_true rfl) (isO_W W1 (by decide) shp_80) (WP.shape kX7_streak rfl (m_streak W1 (hM.kl k1).1 hO.1 (KQm.query (hM.kl k1) (KQm.int (Or.inl rfl) (fun h2 w2 x2 W2 k2 y2 n2 f2 e2 => xk_go (x_istore rfl (x_aload rfl (x_cv rfl (Nat.le_of_ble_eq_true rfl) (isO_W W2 (by decide) shp_80) (m_thrown W2 (xk_go (x_iload rfl (x_br2 (fun q1 => have q1 := cy_eq q1; hJ 114 _ _ rfl _ _ _ _ (x_iload rfl (x_br (fun q2 => have q2 := cy_ne q2; hJ 115 _ _ rfl _ _ _ _ (x_goto (?_))) (fun q2 => have q2 := cn_ne q2; x_aload rfl (x_sipush (w_lald W2 0 (by decide) shp_96 rfl (by decide) (by decide) (x_iload rfl (x_i2l (x_lcmp (x_br (fun q3 => have q3 := lg_eq.mp (cy_eq q3); hJ 115 _ _ rfl _ _ _ _ (x_goto (?_))) (fun q3 => have q3 := (fun z => cn_eq q3 (lg_eq.mpr z)); x_sipush (x_iret (by first | exact nrwB _ | rfl | decide) ?_)))))))))))) (fun q1 => absurd f2 (cn_eq q1))))))))))))))))))))))))))))))))
  · have hT := T_ne q2
    exact hN _ _ _ _ _ _ _ W2 ((n1 hT).km k2) (n2 hT) hO (lw_bc rfl)
  · have hT := T_eq whatT_le (by omega) q2
    exact hN _ _ _ _ _ _ _ W2 ((y1 hT).1.km k2) (y2 hT) (hO) (lw_bc rfl)
  · have hT := T_eq whatT_le (by omega) q2
    have e1 := (y1 hT).2 _ rfl
    refine absurd ?_ q3
    show wl w2 96 0 = _
    rw [(congrFun (k2 96 (Or.inr rfl)).2.2.2 0), e1, e2 hT]
theorem law_116 (hJ : LJ ga L xs (d + 16) J) (hn : 6 * n + 6 ≤ L) (hL : L ≤ 3072) (W : WW ad w h) (hC : RCl w S) (hM : RMo w S) (hO : SOK S) (hb : bOK bg) (hN : LN ga ad n J bg) : J 116 (lwl ga ad n z5 z6 z7) [] h bg := by
  obtain ⟨i, hcb, hcr⟩ := id hC.1
  refine hJ 116 _ _ rfl _ _ _ _ (x_aload rfl (x_aload rfl (x_iload rfl (x_sipush (x_iadd (x_fal (6 * n + 1) (kN_add _ 1) (by omega) hL (x_cv rfl (Nat.le_of_ble_eq_true rfl) (isO_W W (by decide) shp_0) (x_tally W hcb.isC hcr hO.1 hcb.2.1 (KCm.query hC ⟨fun hT h1 w1 W1 k1 hC1 => xk_go (x_aload rfl (x_aload rfl (x_iload rfl (x_sipush (x_iadd (x_fal (6 * n + 1) (kN_add _ 1) (by omega) hL (x_cv rfl (Nat.le_of_ble_eq_true rfl) (isO_W W1 (by decide) shp_80) (WP.shape kX7_tally rfl (m_tally W1 (hM.kc k1).1 hO.1 (KQm.query (hM.kc k1) (KQm.int (Or.inl rfl) (fun h2 w2 x2 W2 k2 y2 n2 f2 e2 => xk_go (x_br2 (fun q1 => have q1 := cy_eq q1; ?_) (fun q1 => have q1 := cn_eq q1; x_sipush (x_iret (by first | exact nrwB _ | rfl | decide) ?_))))))))))))))), fun j hT => absurd hT (by omega)⟩)))))))))
  · exact hN _ _ _ _ _ _ _ W2 (hC1.km k2) (y2 rfl) (hO) lw_b0
  · exact absurd (e2 rfl).symm q1
theorem law_117 (hJ : LJ ga L xs (d + 16) J) (hn : 6 * n + 6 ≤ L) (hL : L ≤ 3072) (W : WW ad w h) (hC : RCl w S) (hM : RMo w S) (hO : SOK S) (hb : bOK bg) (hN : LN ga ad n J bg) : J 117 (lwl ga ad n z5 z6 z7) [] h bg := by
  obtain ⟨i, hcb, hcr⟩ := id hC.1
  refine hJ 117 _ _ rfl _ _ _ _ (x_aload rfl (x_aload rfl (x_iload rfl (x_sipush (x_iadd (x_fal (6 * n + 1) (kN_add _ 1) (by omega) hL (x_aload rfl (x_iload rfl (x_sipush (x_iadd (x_fal (6 * n + 2) (kN_add _ 2) (by omega) hL (x_aload rfl (x_csb rfl (Nat.le_of_ble_eq_true rfl) (lw_bg hb rfl) (w_together W hC hO togT_le (fun h1 w1 W1 k1 y1 n1 => xk_go (x_istore rfl (x_aload rfl (x_aload rfl (x_iload rfl (x_sipush (x_iadd (x_fal (6 * n + 1) (kN_add _ 1) (by omega) hL (x_aload rfl (x_iload rfl (x_sipush (x_iadd (x_fal (6 * n + 2) (kN_add _ 2) (by omega) hL (x_cv rfl (Nat.le_of_ble_eq_true rfl) (isO_W W1 (by decide) shp_80) (WP.shape kX7_together rfl (m_together W1 (hM.kl k1).1 hO.1 (KQm.query (hM.kl k1) (KQm.int (Or.inl rfl) (fun h2 w2 x2 W2 k2 y2 n2 f2 e2 => xk_go (x_istore rfl (x_aload rfl (x_cv rfl (Nat.le_of_ble_eq_true rfl) (isO_W W2 (by decide) shp_80) (m_thrown W2 (xk_go (x_iload rfl (x_br2 (fun q1 => have q1 := cy_eq q1; hJ 118 _ _ rfl _ _ _ _ (x_iload rfl (x_br (fun q2 => have q2 := cy_ne q2; hJ 119 _ _ rfl _ _ _ _ (x_goto (?_))) (fun q2 => have q2 := cn_ne q2; x_aload rfl (x_sipush (w_lald W2 0 (by decide) shp_96 rfl (by decide) (by decide) (x_iload rfl (x_i2l (x_lcmp (x_br (fun q3 => have q3 := lg_eq.mp (cy_eq q3); hJ 119 _ _ rfl _ _ _ _ (x_goto (?_))) (fun q3 => have q3 := (fun z => cn_eq q3 (lg_eq.mpr z)); x_sipush (x_iret (by first | exact nrwB _ | rfl | decide) ?_)))))))))))) (fun q1 => absurd f2 (cn_eq q1))))))))))))))))))))))))))))))))))))))))))
  · have hT := T_ne q2
    exact hN _ _ _ _ _ _ _ W2 ((n1 hT).km k2) (n2 hT) hO (lw_bc rfl)
  · have hT := T_eq togT_le (by omega) q2
    exact hN _ _ _ _ _ _ _ W2 ((y1 hT).1.km k2) (y2 hT) (hO) (lw_bc rfl)
  · have hT := T_eq togT_le (by omega) q2
    have e1 := (y1 hT).2 _ rfl
    refine absurd ?_ q3
    show wl w2 96 0 = _
    rw [(congrFun (k2 96 (Or.inr rfl)).2.2.2 0), e1, e2 hT]
theorem law_120 (hJ : LJ ga L xs (d + 16) J) (hn : 6 * n + 6 ≤ L) (hL : L ≤ 3072) (W : WW ad w h) (hC : RCl w S) (hM : RMo w S) (hO : SOK S) (hb : bOK bg) (hN : LN ga ad n J bg) : J 120 (lwl ga ad n z5 z6 z7) [] h bg := by
  obtain ⟨i, hcb, hcr⟩ := id hC.1
  refine hJ 120 _ _ rfl _ _ _ _ (x_aload rfl (x_cv rfl (Nat.le_of_ble_eq_true rfl) (isO_W W (by decide) shp_0) (x_friends W hcb.isC hcr hO.1 hcb.2.1 (KCm.query hC ⟨fun hT h1 w1 W1 k1 hC1 => xk_go (x_aload rfl (x_cv rfl (Nat.le_of_ble_eq_true rfl) (isO_W W1 (by decide) shp_80) (WP.shape kX7_friends rfl (m_friends W1 (hM.kc k1).1 hO.1 (KQm.query (hM.kc k1) (KQm.int (Or.inl rfl) (fun h2 w2 x2 W2 k2 y2 n2 f2 e2 => xk_go (x_br2 (fun q1 => have q1 := cy_eq q1; ?_) (fun q1 => have q1 := cn_eq q1; x_sipush (x_iret (by first | exact nrwB _ | rfl | decide) ?_)))))))))), fun j hT => absurd hT (by omega)⟩))))
  · exact hN _ _ _ _ _ _ _ W2 (hC1.km k2) (y2 rfl) (hO) lw_b0
  · exact absurd (e2 rfl).symm q1
theorem law_121 (hJ : LJ ga L xs (d + 16) J) (hn : 6 * n + 6 ≤ L) (hL : L ≤ 3072) (W : WW ad w h) (hC : RCl w S) (hM : RMo w S) (hO : SOK S) (hb : bOK bg) (hN : LN ga ad n J bg) : J 121 (lwl ga ad n z5 z6 z7) [] h bg := by
  obtain ⟨i, hcb, hcr⟩ := id hC.1
  refine hJ 121 _ _ rfl _ _ _ _ (x_aload rfl (x_aload rfl (x_iload rfl (x_sipush (x_iadd (x_fal (6 * n + 1) (kN_add _ 1) (by omega) hL (x_aload rfl (x_iload rfl (x_sipush (x_iadd (x_fal (6 * n + 2) (kN_add _ 2) (by omega) hL (x_aload rfl (x_csb rfl (Nat.le_of_ble_eq_true rfl) (lw_bg hb rfl) (w_doubts W hC hO doubtT_le (fun h1 w1 W1 k1 y1 n1 => xk_go (x_istore rfl (x_aload rfl (x_aload rfl (x_iload rfl (x_sipush (x_iadd (x_fal (6 * n + 1) (kN_add _ 1) (by omega) hL (x_aload rfl (x_iload rfl (x_sipush (x_iadd (x_fal (6 * n + 2) (kN_add _ 2) (by omega) hL (x_cv rfl (Nat.le_of_ble_eq_true rfl) (isO_W W1 (by decide) shp_80) (WP.shape kX7_doubts rfl (m_doubts W1 (hM.kl k1).1 hO.1 (KQm.query (hM.kl k1) (KQm.int (Or.inl rfl) (fun h2 w2 x2 W2 k2 y2 n2 f2 e2 => xk_go (x_istore rfl (x_aload rfl (x_cv rfl (Nat.le_of_ble_eq_true rfl) (isO_W W2 (by decide) shp_80) (m_thrown W2 (xk_go (x_iload rfl (x_br2 (fun q1 => have q1 := cy_eq q1; hJ 122 _ _ rfl _ _ _ _ (x_iload rfl (x_br (fun q2 => have q2 := cy_ne q2; hJ 123 _ _ rfl _ _ _ _ (x_goto (?_))) (fun q2 => have q2 := cn_ne q2; x_aload rfl (x_sipush (w_lald W2 0 (by decide) shp_96 rfl (by decide) (by decide) (x_iload rfl (x_i2l (x_lcmp (x_br (fun q3 => have q3 := lg_eq.mp (cy_eq q3); hJ 123 _ _ rfl _ _ _ _ (x_goto (?_))) (fun q3 => have q3 := (fun z => cn_eq q3 (lg_eq.mpr z)); x_sipush (x_iret (by first | exact nrwB _ | rfl | decide) ?_)))))))))))) (fun q1 => absurd f2 (cn_eq q1))))))))))))))))))))))))))))))))))))))))))
  · have hT := T_ne q2
    exact hN _ _ _ _ _ _ _ W2 ((n1 hT).km k2) (n2 hT) hO (lw_bc rfl)
  · have hT := T_eq doubtT_le (by omega) q2
    exact hN _ _ _ _ _ _ _ W2 ((y1 hT).1.km k2) (y2 hT) (hO) (lw_bc rfl)
  · have hT := T_eq doubtT_le (by omega) q2
    have e1 := (y1 hT).2 _ rfl
    refine absurd ?_ q3
    show wl w2 96 0 = _
    rw [(congrFun (k2 96 (Or.inr rfl)).2.2.2 0), e1, e2 hT]
theorem law_124 (hJ : LJ ga L xs (d + 16) J) (hn : 6 * n + 6 ≤ L) (hL : L ≤ 3072) (W : WW ad w h) (hC : RCl w S) (hM : RMo w S) (hO : SOK S) (hb : bOK bg) (hN : LN ga ad n J bg) : J 124 (lwl ga ad n z5 z6 z7) [] h bg := by
  obtain ⟨i, hcb, hcr⟩ := id hC.1
  refine hJ 124 _ _ rfl _ _ _ _ (x_aload rfl (x_aload rfl (x_iload rfl (x_sipush (x_iadd (x_fal (6 * n + 1) (kN_add _ 1) (by omega) hL (x_aload rfl (x_csb rfl (Nat.le_of_ble_eq_true rfl) (lw_bg hb rfl) (w_cook W hC hO cookT_le (fun h1 w1 W1 k1 y1 n1 => xk_go (x_istore rfl (x_aload rfl (x_aload rfl (x_iload rfl (x_sipush (x_iadd (x_fal (6 * n + 1) (kN_add _ 1) (by omega) hL (x_cv rfl (Nat.le_of_ble_eq_true rfl) (isO_W W1 (by decide) shp_80) (WP.shape kX7_cook rfl (m_cook W1 (hM.kl k1).1 hO.1 (KQm.query (hM.kl k1) (KQm.int (Or.inl rfl) (fun h2 w2 x2 W2 k2 y2 n2 f2 e2 => xk_go (x_istore rfl (x_aload rfl (x_cv rfl (Nat.le_of_ble_eq_true rfl) (isO_W W2 (by decide) shp_80) (m_thrown W2 (xk_go (x_iload rfl (x_br2 (fun q1 => have q1 := cy_eq q1; hJ 125 _ _ rfl _ _ _ _ (x_iload rfl (x_br (fun q2 => have q2 := cy_ne q2; hJ 126 _ _ rfl _ _ _ _ (x_goto (?_))) (fun q2 => have q2 := cn_ne q2; x_aload rfl (x_sipush (w_lald W2 0 (by decide) shp_96 rfl (by decide) (by decide) (x_iload rfl (x_i2l (x_lcmp (x_br (fun q3 => have q3 := lg_eq.mp (cy_eq q3); hJ 126 _ _ rfl _ _ _ _ (x_goto (?_))) (fun q3 => have q3 := (fun z => cn_eq q3 (lg_eq.mpr z)); x_sipush (x_iret (by first | exact nrwB _ | rfl | decide) ?_)))))))))))) (fun q1 => absurd f2 (cn_eq q1))))))))))))))))))))))))))))))))
  · have hT := T_ne q2
    exact hN _ _ _ _ _ _ _ W2 ((n1 hT).km k2) (n2 hT) hO (lw_bc rfl)
  · have hT := T_eq cookT_le (by omega) q2
    exact hN _ _ _ _ _ _ _ W2 ((y1 hT).1.km k2) (y2 hT) (hO) (lw_bc rfl)
  · have hT := T_eq cookT_le (by omega) q2
    have e1 := (y1 hT).2 _ rfl
    refine absurd ?_ q3
    show wl w2 96 0 = _
    rw [(congrFun (k2 96 (Or.inr rfl)).2.2.2 0), e1, e2 hT]
theorem law_127 (hJ : LJ ga L xs (d + 16) J) (hn : 6 * n + 6 ≤ L) (hL : L ≤ 3072) (W : WW ad w h) (hC : RCl w S) (hM : RMo w S) (hO : SOK S) (hb : bOK bg) (hN : LN ga ad n J bg) : J 127 (lwl ga ad n z5 z6 z7) [] h bg := by
  obtain ⟨i, hcb, hcr⟩ := id hC.1
  refine hJ 127 _ _ rfl _ _ _ _ (x_aload rfl (x_aload rfl (x_iload rfl (x_sipush (x_iadd (x_fal (6 * n + 1) (kN_add _ 1) (by omega) hL (x_aload rfl (x_csb rfl (Nat.le_of_ble_eq_true rfl) (lw_bg hb rfl) (w_guess W hC hO cookT_le (fun h1 w1 W1 k1 y1 n1 => xk_go (x_istore rfl (x_aload rfl (x_aload rfl (x_iload rfl (x_sipush (x_iadd (x_fal (6 * n + 1) (kN_add _ 1) (by omega) hL (x_cv rfl (Nat.le_of_ble_eq_true rfl) (isO_W W1 (by decide) shp_80) (WP.shape kX7_guess rfl (m_guess W1 (hM.kl k1).1 hO.1 (KQm.query (hM.kl k1) (KQm.int (Or.inl rfl) (fun h2 w2 x2 W2 k2 y2 n2 f2 e2 => xk_go (x_istore rfl (x_aload rfl (x_cv rfl (Nat.le_of_ble_eq_true rfl) (isO_W W2 (by decide) shp_80) (m_thrown W2 (xk_go (x_iload rfl (x_br2 (fun q1 => have q1 := cy_eq q1; hJ 128 _ _ rfl _ _ _ _ (x_iload rfl (x_br (fun q2 => have q2 := cy_ne q2; hJ 129 _ _ rfl _ _ _ _ (x_goto (?_))) (fun q2 => have q2 := cn_ne q2; x_aload rfl (x_sipush (w_lald W2 0 (by decide) shp_96 rfl (by decide) (by decide) (x_iload rfl (x_i2l (x_lcmp (x_br (fun q3 => have q3 := lg_eq.mp (cy_eq q3); hJ 129 _ _ rfl _ _ _ _ (x_goto (?_))) (fun q3 => have q3 := (fun z => cn_eq q3 (lg_eq.mpr z)); x_sipush (x_iret (by first | exact nrwB _ | rfl | decide) ?_)))))))))))) (fun q1 => absurd f2 (cn_eq q1))))))))))))))))))))))))))))))))
  · have hT := T_ne q2
    exact hN _ _ _ _ _ _ _ W2 ((n1 hT).km k2) (n2 hT) hO (lw_bc rfl)
  · have hT := T_eq cookT_le (by omega) q2
    exact hN _ _ _ _ _ _ _ W2 ((y1 hT).1.km k2) (y2 hT) (hO) (lw_bc rfl)
  · have hT := T_eq cookT_le (by omega) q2
    have e1 := (y1 hT).2 _ rfl
    refine absurd ?_ q3
    show wl w2 96 0 = _
    rw [(congrFun (k2 96 (Or.inr rfl)).2.2.2 0), e1, e2 hT]
theorem law_130 (hJ : LJ ga L xs (d + 16) J) (hn : 6 * n + 6 ≤ L) (hL : L ≤ 3072) (W : WW ad w h) (hC : RCl w S) (hM : RMo w S) (hO : SOK S) (hb : bOK bg) (hN : LN ga ad n J bg) : J 130 (lwl ga ad n z5 z6 z7) [] h bg := by
  obtain ⟨i, hcb, hcr⟩ := id hC.1
  refine hJ 130 _ _ rfl _ _ _ _ (x_aload rfl (x_aload rfl (x_iload rfl (x_sipush (x_iadd (x_fal (6 * n + 1) (kN_add _ 1) (by omega) hL (x_aload rfl (x_iload rfl (x_sipush (x_iadd (x_fal (6 * n + 2) (kN_add _ 2) (by omega) hL (x_aload rfl (x_iload rfl (x_sipush (x_iadd (x_fal (6 * n + 3) (kN_add _ 3) (by omega) hL (x_csb rfl (Nat.le_of_ble_eq_true rfl) (lw_bg hb rfl) (w_tray W hC hO trayT_le (fun h1 w1 W1 k1 y1 n1 => xk_go (x_istore rfl (x_aload rfl (x_aload rfl (x_iload rfl (x_sipush (x_iadd (x_fal (6 * n + 1) (kN_add _ 1) (by omega) hL (x_aload rfl (x_iload rfl (x_sipush (x_iadd (x_fal (6 * n + 2) (kN_add _ 2) (by omega) hL (x_aload rfl (x_iload rfl (x_sipush (x_iadd (x_fal (6 * n + 3) (kN_add _ 3) (by omega) hL (x_cv rfl (Nat.le_of_ble_eq_true rfl) (isO_W W1 (by decide) shp_80) (WP.shape kX7_tray rfl (m_tray W1 (hM.kl k1) hO (KQm.void rfl (fun h2 w2 W2 k2 y2 n2 f2 => xk_v (x_aload rfl (x_cv rfl (Nat.le_of_ble_eq_true rfl) (isO_W W2 (by decide) shp_80) (m_thrown W2 (xk_go (x_iload rfl (x_br2 (fun q1 => have q1 := cy_eq q1; hJ 131 _ _ rfl _ _ _ _ (x_goto (?_))) (fun q1 => absurd f2 (cn_eq q1)))))))))))))))))))))))))))))))))))))))))))))))))
  · by_cases hT : (trayT (xs (6 * n + 1)) (xs (6 * n + 2)) (xs (6 * n + 3))) = 0
    · exact hN _ _ _ _ _ _ _ W2 ((y1 hT).1.km k2) (y2 hT) (hO.tray hT) (lw_bc rfl)
    · exact hN _ _ _ _ _ _ _ W2 ((n1 hT).km k2) (n2 hT) hO (lw_bc rfl)
theorem law_132 (hJ : LJ ga L xs (d + 16) J) (hn : 6 * n + 6 ≤ L) (hL : L ≤ 3072) (W : WW ad w h) (hC : RCl w S) (hM : RMo w S) (hO : SOK S) (hb : bOK bg) (hN : LN ga ad n J bg) : J 132 (lwl ga ad n z5 z6 z7) [] h bg := by
  obtain ⟨i, hcb, hcr⟩ := id hC.1
  refine hJ 132 _ _ rfl _ _ _ _ (x_aload rfl (x_aload rfl (x_iload rfl (x_sipush (x_iadd (x_fal (6 * n + 1) (kN_add _ 1) (by omega) hL (x_aload rfl (x_iload rfl (x_sipush (x_iadd (x_fal (6 * n + 2) (kN_add _ 2) (by omega) hL (x_aload rfl (x_iload rfl (x_sipush (x_iadd (x_fal (6 * n + 3) (kN_add _ 3) (by omega) hL (x_i2l (x_sipush (x_lshl (x_aload rfl (x_iload rfl (x_sipush (x_iadd (x_fal (6 * n + 4) (kN_add _ 4) (by omega) hL (x_i2l (x_ldc2 (x_land (x_lor (x_aload rfl (x_csb rfl (Nat.le_of_ble_eq_true rfl) (lw_bg hb rfl) (w_write W hC hO writT_le (fun h1 w1 W1 k1 y1 n1 => xk_go (x_istore rfl (x_aload rfl (x_aload rfl (x_iload rfl (x_sipush (x_iadd (x_fal (6 * n + 1) (kN_add _ 1) (by omega) hL (x_aload rfl (x_iload rfl (x_sipush (x_iadd (x_fal (6 * n + 2) (kN_add _ 2) (by omega) hL (x_aload rfl (x_iload rfl (x_sipush (x_iadd (x_fal (6 * n + 3) (kN_add _ 3) (by omega) hL (x_i2l (x_sipush (x_lshl (x_aload rfl (x_iload rfl (x_sipush (x_iadd (x_fal (6 * n + 4) (kN_add _ 4) (by omega) hL (x_i2l (x_ldc2 (x_land (x_lor (x_cv rfl (Nat.le_of_ble_eq_true rfl) (isO_W W1 (by decide) shp_80) (WP.shapeL kX7_write rfl rfl rfl (m_write W1 (hM.kl k1) hO (KQm.long (fun h2 w2 x2 W2 k2 y2 n2 f2 e2 => xk_go (x_lstore rfl (x_aload rfl (x_cv rfl (Nat.le_of_ble_eq_true rfl) (isO_W W2 (by decide) shp_80) (m_thrown W2 (xk_go (x_iload rfl (x_br2 (fun q1 => have q1 := cy_eq q1; hJ 133 _ _ rfl _ _ _ _ (x_iload rfl (x_br (fun q2 => have q2 := cy_ne q2; hJ 134 _ _ rfl _ _ _ _ (x_goto (?_))) (fun q2 => have q2 := cn_ne q2; x_aload rfl (x_sipush (w_lald W2 0 (by decide) shp_96 rfl (by decide) (by decide) (x_lload rfl (x_lcmp (x_br (fun q3 => have q3 := lg_eq.mp (cy_eq q3); hJ 134 _ _ rfl _ _ _ _ (x_goto (?_))) (fun q3 => have q3 := (fun z => cn_eq q3 (lg_eq.mpr z)); x_sipush (x_iret (by first | exact nrwB _ | rfl | decide) ?_))))))))))) (fun q1 => absurd f2 (cn_eq q1)))))))))))))))))))))))))))))))))))))))))))))))))))))))))))))))))))))))))))
  · have hT := T_ne q2
    exact hN _ _ _ _ _ _ _ W2 ((n1 hT).km k2) (n2 hT) hO (lw_bc rfl)
  · have hT := T_eq writT_le (by omega) q2
    exact hN _ _ _ _ _ _ _ W2 ((y1 hT).1.km k2) (y2 hT) (hO.write) (lw_bc rfl)
  · have hT := T_eq writT_le (by omega) q2
    have e1 := (y1 hT).2 _ rfl
    refine absurd ?_ q3
    show wl w2 96 0 = _
    rw [(congrFun (k2 96 (Or.inr rfl)).2.2.2 0), e1, e2 hT]
theorem law_135 (hJ : LJ ga L xs (d + 16) J) (hn : 6 * n + 6 ≤ L) (hL : L ≤ 3072) (W : WW ad w h) (hC : RCl w S) (hM : RMo w S) (hO : SOK S) (hb : bOK bg) (hN : LN ga ad n J bg) : J 135 (lwl ga ad n z5 z6 z7) [] h bg := by
  obtain ⟨i, hcb, hcr⟩ := id hC.1
  refine hJ 135 _ _ rfl _ _ _ _ (x_aload rfl (x_aload rfl (x_iload rfl (x_sipush (x_iadd (x_fal (6 * n + 1) (kN_add _ 1) (by omega) hL (x_aload rfl (x_csb rfl (Nat.le_of_ble_eq_true rfl) (lw_bg hb rfl) (w_pour W hC hO laidT_le (fun h1 w1 W1 k1 y1 n1 => xk_go (x_istore rfl (x_aload rfl (x_aload rfl (x_iload rfl (x_sipush (x_iadd (x_fal (6 * n + 1) (kN_add _ 1) (by omega) hL (x_cv rfl (Nat.le_of_ble_eq_true rfl) (isO_W W1 (by decide) shp_80) (WP.shape kX7_pour rfl (m_pour W1 (hM.kl k1) hO (KQm.int (Or.inl rfl) (fun h2 w2 x2 W2 k2 y2 n2 f2 e2 => xk_go (x_istore rfl (x_aload rfl (x_cv rfl (Nat.le_of_ble_eq_true rfl) (isO_W W2 (by decide) shp_80) (m_thrown W2 (xk_go (x_iload rfl (x_br2 (fun q1 => have q1 := cy_eq q1; hJ 136 _ _ rfl _ _ _ _ (x_iload rfl (x_br (fun q2 => have q2 := cy_ne q2; hJ 137 _ _ rfl _ _ _ _ (x_goto (?_))) (fun q2 => have q2 := cn_ne q2; x_aload rfl (x_sipush (w_lald W2 0 (by decide) shp_96 rfl (by decide) (by decide) (x_iload rfl (x_i2l (x_lcmp (x_br (fun q3 => have q3 := lg_eq.mp (cy_eq q3); hJ 137 _ _ rfl _ _ _ _ (x_goto (?_))) (fun q3 => have q3 := (fun z => cn_eq q3 (lg_eq.mpr z)); x_sipush (x_iret (by first | exact nrwB _ | rfl | decide) ?_)))))))))))) (fun q1 => absurd f2 (cn_eq q1)))))))))))))))))))))))))))))))
  · have hT := T_ne q2
    exact hN _ _ _ _ _ _ _ W2 ((n1 hT).km k2) (n2 hT) hO (lw_bc rfl)
  · have hT := T_eq laidT_le (by omega) q2
    exact hN _ _ _ _ _ _ _ W2 ((y1 hT).1.km k2) (y2 hT) (hO.pour) (lw_bc rfl)
  · have hT := T_eq laidT_le (by omega) q2
    have e1 := (y1 hT).2 _ rfl
    refine absurd ?_ q3
    show wl w2 96 0 = _
    rw [(congrFun (k2 96 (Or.inr rfl)).2.2.2 0), e1, e2 hT]
theorem law_138 (hJ : LJ ga L xs (d + 16) J) (hn : 6 * n + 6 ≤ L) (hL : L ≤ 3072) (W : WW ad w h) (hC : RCl w S) (hM : RMo w S) (hO : SOK S) (hb : bOK bg) (hN : LN ga ad n J bg) : J 138 (lwl ga ad n z5 z6 z7) [] h bg := by
  obtain ⟨i, hcb, hcr⟩ := id hC.1
  refine hJ 138 _ _ rfl _ _ _ _ (x_aload rfl (x_aload rfl (x_iload rfl (x_sipush (x_iadd (x_fal (6 * n + 1) (kN_add _ 1) (by omega) hL (x_csb rfl (Nat.le_of_ble_eq_true rfl) (lw_bg hb rfl) (w_image W hC hO imgT_le (fun h1 w1 W1 k1 y1 n1 => xk_go (x_istore rfl (x_aload rfl (x_aload rfl (x_iload rfl (x_sipush (x_iadd (x_fal (6 * n + 1) (kN_add _ 1) (by omega) hL (x_cv rfl (Nat.le_of_ble_eq_true rfl) (isO_W W1 (by decide) shp_80) (WP.shape kX7_image rfl (m_image W1 (hM.kl k1) hO (KQm.void rfl (fun h2 w2 W2 k2 y2 n2 f2 => xk_v (x_aload rfl (x_cv rfl (Nat.le_of_ble_eq_true rfl) (isO_W W2 (by decide) shp_80) (m_thrown W2 (xk_go (x_iload rfl (x_br2 (fun q1 => have q1 := cy_eq q1; hJ 139 _ _ rfl _ _ _ _ (x_goto (?_))) (fun q1 => absurd f2 (cn_eq q1)))))))))))))))))))))))))))))
  · by_cases hT : (imgT (xs (6 * n + 1))) = 0
    · exact hN _ _ _ _ _ _ _ W2 ((y1 hT).1.km k2) (y2 hT) (hO.image) (lw_bc rfl)
    · exact hN _ _ _ _ _ _ _ W2 ((n1 hT).km k2) (n2 hT) hO (lw_bc rfl)
theorem law_140 (hJ : LJ ga L xs (d + 16) J) (hn : 6 * n + 6 ≤ L) (hL : L ≤ 3072) (W : WW ad w h) (hC : RCl w S) (hM : RMo w S) (hO : SOK S) (hb : bOK bg) (hN : LN ga ad n J bg) : J 140 (lwl ga ad n z5 z6 z7) [] h bg := by
  obtain ⟨i, hcb, hcr⟩ := id hC.1
  refine hJ 140 _ _ rfl _ _ _ _ (x_aload rfl (x_aload rfl (x_iload rfl (x_sipush (x_iadd (x_fal (6 * n + 1) (kN_add _ 1) (by omega) hL (x_csb rfl (Nat.le_of_ble_eq_true rfl) (lw_bg hb rfl) (w_restore W hC hO resT_le (fun h1 w1 W1 k1 y1 n1 => xk_go (x_istore rfl (x_aload rfl (x_aload rfl (x_iload rfl (x_sipush (x_iadd (x_fal (6 * n + 1) (kN_add _ 1) (by omega) hL (x_cv rfl (Nat.le_of_ble_eq_true rfl) (isO_W W1 (by decide) shp_80) (WP.shape kX7_restore rfl (m_restore W1 (hM.kl k1) hO (KQm.void rfl (fun h2 w2 W2 k2 y2 n2 f2 => xk_v (x_aload rfl (x_cv rfl (Nat.le_of_ble_eq_true rfl) (isO_W W2 (by decide) shp_80) (m_thrown W2 (xk_go (x_iload rfl (x_br2 (fun q1 => have q1 := cy_eq q1; hJ 141 _ _ rfl _ _ _ _ (x_goto (?_))) (fun q1 => absurd f2 (cn_eq q1)))))))))))))))))))))))))))))
  · by_cases hT : (resT S.2.2.1 (xs (6 * n + 1))) = 0
    · exact hN _ _ _ _ _ _ _ W2 ((y1 hT).1.km k2) (y2 hT) (hO.restore hT) (lw_bc rfl)
    · exact hN _ _ _ _ _ _ _ W2 ((n1 hT).km k2) (n2 hT) hO (lw_bc rfl)
theorem law_142 (hJ : LJ ga L xs (d + 16) J) (hn : 6 * n + 6 ≤ L) (hL : L ≤ 3072) (W : WW ad w h) (hC : RCl w S) (hM : RMo w S) (hO : SOK S) (hb : bOK bg) (hN : LN ga ad n J bg) : J 142 (lwl ga ad n z5 z6 z7) [] h bg := by
  obtain ⟨i, hcb, hcr⟩ := id hC.1
  refine hJ 142 _ _ rfl _ _ _ _ (x_aload rfl (x_aload rfl (x_iload rfl (x_sipush (x_iadd (x_fal (6 * n + 1) (kN_add _ 1) (by omega) hL (x_cv rfl (Nat.le_of_ble_eq_true rfl) (isO_W W (by decide) shp_0) (x_count W hcb.isC hcr hO.1 hcb.2.1 hC.2.2.2.1.1 (KCm.query hC ⟨fun hT h1 w1 W1 k1 hC1 => xk_go (x_aload rfl (x_aload rfl (x_iload rfl (x_sipush (x_iadd (x_fal (6 * n + 1) (kN_add _ 1) (by omega) hL (x_cv rfl (Nat.le_of_ble_eq_true rfl) (isO_W W1 (by decide) shp_80) (WP.shape kX7_count rfl (m_count W1 (hM.kc k1).1 hO.1 (hM.kc k1).2.2.2.1.1 (KQm.query (hM.kc k1) (KQm.int (Or.inl rfl) (fun h2 w2 x2 W2 k2 y2 n2 f2 e2 => xk_go (x_br2 (fun q1 => have q1 := cy_eq q1; ?_) (fun q1 => have q1 := cn_eq q1; x_sipush (x_iret (by first | exact nrwB _ | rfl | decide) ?_))))))))))))))), fun j hT => absurd hT (by omega)⟩)))))))))
  · exact hN _ _ _ _ _ _ _ W2 (hC1.km k2) (y2 rfl) (hO) lw_b0
  · exact absurd (e2 rfl).symm q1
end W1
