/-! ===== the law's cases ===== -/
section STL
variable {call : Nat → List Value → ac_H → ac_P → Prop} {cs : Nat → Nat × Nat} {ga : Nat → Nat} {L : Nat} {xs : Nat → Int32} {mb : Nat × Nat} {hands : List (Nat × Int)} {rt : Option FieldType} {Q : ac_P} {J : Nat → ac_X}
variable {is : ac_I} {ls : ac_L} {s : List Value} {h : ac_H} {bg : Nat × Nat} {z : Nat}
theorem x_fal {x : Int32} (j : Nat) (hx : x = kI (j : Int)) (hj : j < L) (hL : L ≤ 3072) (kk : xB call cs ga L xs sl mb hands rt Q J is ls (.int (xs j) :: s) h bg) : xB call cs ga L xs sl mb hands rt Q J ((.faload, z) :: is) ls (.int x :: .ref (ga 0) :: s) h bg := by
  subst hx
  have h1 : (kI (j : Int)).toInt = j := kN_toInt (by omega)
  have h2 : (kI (j : Int)).toNatClampNeg = j := by
    show (kI (j : Int)).toInt.toNat = j
    rw [h1]
    rfl
  simp only [xB]
  refine ⟨trivial, ?_, by rw [h2]; exact kk⟩
  unfold vp_in
  rw [h2, Int32.lt_iff_toInt_lt, h1]
  show ¬ ((j : Int) < (0 : Int32).toInt ∨ L ≤ j)
  have : (0 : Int32).toInt = 0 := rfl
  omega
theorem x_cal (kk : xB call cs ga L xs sl mb hands rt Q J is ls (.int (Int32.ofNat L) :: s) h bg) : xB call cs ga L xs sl mb hands rt Q J ((.caload, z) :: is) ls (.ref (ga 0) :: s) h bg := by
  simp only [xB]
  exact ⟨trivial, kk⟩
end STL
def LMB : Nat × Nat := (601024, 7293034)
def LQ : ac_P := fun o _ => o = .inl (some (.int (kI 1)))
def LJ (ga : Nat → Nat) (L : Nat) (xs : Nat → Int32) (D : Nat) (J : Nat → ac_X) : Prop := ∀ (b pb : Nat) (is : ac_I), (mS mL_law)[b]? = some (pb, is) → ∀ (ls : ac_L) (st : List Value) (h : ac_H) (bg : Nat × Nat), xB (WP ga L xs D) cst ga L xs sl LMB [] ret LQ J is ls st h bg → J b ls st h bg
def lwl (ga ad : Nat → Nat) (n : Nat) (z5 z6 z7 : Option Value) : ac_L := [some (.ref (ga 0)), some (.ref (ad 0)), some (.ref (ad 80)), some (.ref (ad 96)), some (.int (kI ((6 * n : Nat) : Int))), z5, z6, z7]
def bOK (bg : Nat × Nat) : Prop := bg.1 ≤ 600000 ∧ bg.2 ≤ 7000000
def LN (ga ad : Nat → Nat) (n : Nat) (J : Nat → ac_X) (bg : Nat × Nat) : Prop := ∀ (h' : ac_H) (w' : Wst) (S' : StT) (bg' : Nat × Nat) (z5 z6 z7 : Option Value), WW ad w' h' → RCl w' S' → RMo w' S' → SOK S' → bg'.1 ≤ bg.1 + 10 ∧ bg'.2 ≤ bg.2 + 60 → J 143 (lwl ga ad n z5 z6 z7) [] h' bg'
theorem lw_bg {bg : Nat × Nat} {k : Nat} (hb : bOK bg) (hk : (Nat.ble (cst k).1 10 && Nat.ble (cst k).2 60) = true) : bgle (bgad bg (cst k)) LMB := by
  rw [Bool.and_eq_true] at hk
  have h1 := Nat.le_of_ble_eq_true hk.1
  have h2 := Nat.le_of_ble_eq_true hk.2
  have h3 := hb.1
  have h4 := hb.2
  refine ⟨?_, ?_⟩
  · show bg.1 + (cst k).1 ≤ 601024
    omega
  · show bg.2 + (cst k).2 ≤ 7293034
    omega
theorem lw_bc {bg : Nat × Nat} {k : Nat} (hk : (Nat.ble (cst k).1 10 && Nat.ble (cst k).2 60) = true) : (bgad bg (cst k)).1 ≤ bg.1 + 10 ∧ (bgad bg (cst k)).2 ≤ bg.2 + 60 := by
  rw [Bool.and_eq_true] at hk
  have h1 := Nat.le_of_ble_eq_true hk.1
  have h2 := Nat.le_of_ble_eq_true hk.2
  exact ⟨Nat.add_le_add_left h1 _, Nat.add_le_add_left h2 _⟩
theorem lw_b0 {bg : Nat × Nat} : bg.1 ≤ bg.1 + 10 ∧ bg.2 ≤ bg.2 + 60 := ⟨Nat.le_add_right _ _, Nat.le_add_right _ _⟩
theorem RMo.kl {w w' : Wst} {S : StT} (h : RMo w S) (k : ∀ i, 80 ≤ i → i ≠ 96 → same w w' i) : RMo w' S := h.keep (by rw [(k 80 (by omega) (by omega)).1]) (by rw [(k 80 (by omega) (by omega)).1]) (by rw [(k 80 (by omega) (by omega)).1]) (fun i hi => k i (by omega) (by omega))
theorem T_ne {T : Nat} (h : ¬ kI (T : Int) = 0) : ¬ T = 0 := fun z => h (by rw [z]; rfl)
theorem T_eq {T n : Nat} (hn : T ≤ n) (h9 : n ≤ 1000) (h : kI (T : Int) = 0) : T = 0 := (kN_inj (b := 0) (by omega) (by omega)).mp h
section W1
variable {S : StT} {n : Nat} {bg : Nat × Nat} {z5 z6 z7 : Option Value} {J : Nat → ac_X}
variable {ga : Nat → Nat} {L : Nat} {xs : Nat → Int32} {d : Nat} {h : ac_H} {ad : Nat → Nat} {w : Wst}
theorem m_thrown {P : ac_P} (W : WW ad w h) (hP : P (.inl (some (.int (wn w 80 4)))) h) : WP ga L xs (d + 1) 138 [.ref (ad 80)] h P := by
  refine WP.enter kX7_thrown (Nat.le_of_ble_eq_true rfl) (fun J hJ => ?_)
  exact hJ 0 _ _ rfl _ _ _ _ (x_aload rfl (w_geti W 7 4 (by decide) shp_80 rfl rfl (x_iret (nrwI _) hP)))
theorem law_2 (hJ : LJ ga L xs (d + 16) J) (hn : 6 * n + 6 ≤ L) (hL : L ≤ 3072) (W : WW ad w h) (hC : RCl w S) (hM : RMo w S) (hO : SOK S) (hb : bOK bg) (hN : LN ga ad n J bg) : J 2 (lwl ga ad n z5 z6 z7) [] h bg := by
  obtain ⟨i, hcb, hcr⟩ := id hC.1
  refine hJ 2 _ _ rfl _ _ _ _ (x_aload rfl (x_aload rfl (x_iload rfl (x_sipush (x_iadd (x_fal (6 * n + 1) (kN_add _ 1) (by omega) hL (x_aload rfl (x_iload rfl (x_sipush (x_iadd (x_fal (6 * n + 2) (kN_add _ 2) (by omega) hL (x_aload rfl (x_iload rfl (x_sipush (x_iadd (x_fal (6 * n + 3) (kN_add _ 3) (by omega) hL (x_aload rfl (x_iload rfl (x_sipush (x_iadd (x_fal (6 * n + 4) (kN_add _ 4) (by omega) hL (x_aload rfl (x_iload rfl (x_sipush (x_iadd (x_fal (6 * n + 5) (kN_add _ 5) (by omega) hL (x_cv rfl (Nat.le_of_ble_eq_true rfl) (isO_W W (by decide) shp_0) (x_feed W hC hO ⟨fun hT h1 w1 W1 k1 hC1 => xk_go (x_aload rfl (x_aload rfl (x_iload rfl (x_sipush (x_iadd (x_fal (6 * n + 1) (kN_add _ 1) (by omega) hL (x_aload rfl (x_iload rfl (x_sipush (x_iadd (x_fal (6 * n + 2) (kN_add _ 2) (by omega) hL (x_aload rfl (x_iload rfl (x_sipush (x_iadd (x_fal (6 * n + 3) (kN_add _ 3) (by omega) hL (x_aload rfl (x_iload rfl (x_sipush (x_iadd (x_fal (6 * n + 4) (kN_add _ 4) (by omega) hL (x_aload rfl (x_iload rfl (x_sipush (x_iadd (x_fal (6 * n + 5) (kN_add _ 5) (by omega) hL (x_cv rfl (Nat.le_of_ble_eq_true rfl) (isO_W W1 (by decide) shp_80) (WP.shape kX7_feed rfl (m_feed W1 (hM.kc k1) hO (KQm.int (Or.inl rfl) (fun h2 w2 x2 W2 k2 y2 n2 f2 e2 => xk_go (x_br2 (fun q1 => have q1 := cy_eq q1; ?_) (fun q1 => have q1 := cn_eq q1; x_sipush (x_iret (by first | exact nrwB _ | rfl | decide) ?_)))))))))))))))))))))))))))))))))), fun j hT => absurd hT (by omega)⟩))))))))))))))))))))))))))))
  · exact hN _ _ _ _ _ _ _ W2 (hC1.km k2) (y2 rfl) (hO.feed) lw_b0
  · exact absurd (e2 rfl).symm q1
theorem law_27 (hJ : LJ ga L xs (d + 16) J) (hn : 6 * n + 6 ≤ L) (hL : L ≤ 3072) (W : WW ad w h) (hC : RCl w S) (hM : RMo w S) (hO : SOK S) (hb : bOK bg) (hN : LN ga ad n J bg) : J 27 (lwl ga ad n z5 z6 z7) [] h bg := by
  obtain ⟨i, hcb, hcr⟩ := id hC.1
  refine hJ 27 _ _ rfl _ _ _ _ (x_aload rfl (x_aload rfl (x_iload rfl (x_sipush (x_iadd (x_fal (6 * n + 1) (kN_add _ 1) (by omega) hL (x_aload rfl (x_csb rfl (Nat.le_of_ble_eq_true rfl) (lw_bg hb rfl) (w_met W hC hO cameT_le (fun h1 w1 W1 k1 y1 n1 => xk_go (x_istore rfl (x_aload rfl (x_aload rfl (x_iload rfl (x_sipush (x_iadd (x_fal (6 * n + 1) (kN_add _ 1) (by omega) hL (x_cv rfl (Nat.le_of_ble_eq_true rfl) (isO_W W1 (by decide) shp_80) (WP.shape kX7_met rfl (m_met W1 (hM.kl k1).1 hO.1 (KQm.query (hM.kl k1) (KQm.int (Or.inr rfl) (fun h2 w2 x2 W2 k2 y2 n2 f2 e2 => xk_go (x_istore rfl (x_aload rfl (x_cv rfl (Nat.le_of_ble_eq_true rfl) (isO_W W2 (by decide) shp_80) (m_thrown W2 (xk_go (x_iload rfl (x_br2 (fun q1 => have q1 := cy_eq q1; hJ 28 _ _ rfl _ _ _ _ (x_iload rfl (x_br (fun q2 => have q2 := cy_ne q2; hJ 31 _ _ rfl _ _ _ _ (x_goto (?_))) (fun q2 => have q2 := cn_ne q2; x_aload rfl (x_sipush (w_lald W2 0 (by decide) shp_96 rfl (by decide) (by decide) (x_iload rfl (x_br (fun q3 => have q3 := cy_eq q3; hJ 29 _ _ rfl _ _ _ _ (x_ldc2 (x_goto (hJ 30 _ _ rfl _ _ _ _ (x_lcmp (x_br (fun q4 => have q4 := lg_eq.mp (cy_eq q4); hJ 31 _ _ rfl _ _ _ _ (x_goto (?_))) (fun q4 => have q4 := (fun z => cn_eq q4 (lg_eq.mpr z)); x_sipush (x_iret (by first | exact nrwB _ | rfl | decide) ?_)))))))) (fun q3 => have q3 := cn_eq q3; x_ldc2 (x_goto (hJ 30 _ _ rfl _ _ _ _ (x_lcmp (x_br (fun q5 => have q5 := lg_eq.mp (cy_eq q5); hJ 31 _ _ rfl _ _ _ _ (x_goto (?_))) (fun q5 => have q5 := (fun z => cn_eq q5 (lg_eq.mpr z)); x_sipush (x_iret (by first | exact nrwB _ | rfl | decide) ?_))))))))))))))) (fun q1 => absurd f2 (cn_eq q1))))))))))))))))))))))))))))))))
  · have hT := T_ne q2
    exact hN _ _ _ _ _ _ _ W2 ((n1 hT).km k2) (n2 hT) hO (lw_bc rfl)
  · have hT := T_eq cameT_le (by omega) q2
    exact hN _ _ _ _ _ _ _ W2 ((y1 hT).1.km k2) (y2 hT) (hO) (lw_bc rfl)
  · have hT := T_eq cameT_le (by omega) q2
    refine absurd ?_ q4
    show wl w2 96 0 = _
    rw [congrFun (k2 96 (Or.inr rfl)).2.2.2 0, (y1 hT).2 _ rfl, ← e2 hT, q3]
    rfl
  · have hT := T_eq cameT_le (by omega) q2
    exact hN _ _ _ _ _ _ _ W2 ((y1 hT).1.km k2) (y2 hT) (hO) (lw_bc rfl)
  · have hT := T_eq cameT_le (by omega) q2
    refine absurd ?_ q5
    rw [e2 hT] at q3
    show wl w2 96 0 = _
    rw [congrFun (k2 96 (Or.inr rfl)).2.2.2 0, (y1 hT).2 _ rfl, bI_ne0.mp q3]
    rfl
theorem law_32 (hJ : LJ ga L xs (d + 16) J) (hn : 6 * n + 6 ≤ L) (hL : L ≤ 3072) (W : WW ad w h) (hC : RCl w S) (hM : RMo w S) (hO : SOK S) (hb : bOK bg) (hN : LN ga ad n J bg) : J 32 (lwl ga ad n z5 z6 z7) [] h bg := by
  obtain ⟨i, hcb, hcr⟩ := id hC.1
  refine hJ 32 _ _ rfl _ _ _ _ (x_aload rfl (x_cv rfl (Nat.le_of_ble_eq_true rfl) (isO_W W (by decide) shp_0) (x_next W hcb.isC hcr hO.1 hcb.2.1 (KCm.query hC ⟨fun hT h1 w1 W1 k1 hC1 => xk_go (x_aload rfl (x_cv rfl (Nat.le_of_ble_eq_true rfl) (isO_W W1 (by decide) shp_80) (WP.shape kX7_next rfl (m_next W1 (hM.kc k1).1 hO.1 (KQm.query (hM.kc k1) (KQm.int (Or.inl rfl) (fun h2 w2 x2 W2 k2 y2 n2 f2 e2 => xk_go (x_br2 (fun q1 => have q1 := cy_eq q1; ?_) (fun q1 => have q1 := cn_eq q1; x_sipush (x_iret (by first | exact nrwB _ | rfl | decide) ?_)))))))))), fun j hT => absurd hT (by omega)⟩))))
  · exact hN _ _ _ _ _ _ _ W2 (hC1.km k2) (y2 rfl) (hO) lw_b0
  · exact absurd (e2 rfl).symm q1
theorem law_42 (hJ : LJ ga L xs (d + 16) J) (hn : 6 * n + 6 ≤ L) (hL : L ≤ 3072) (W : WW ad w h) (hC : RCl w S) (hM : RMo w S) (hO : SOK S) (hb : bOK bg) (hN : LN ga ad n J bg) : J 42 (lwl ga ad n z5 z6 z7) [] h bg := by
  obtain ⟨i, hcb, hcr⟩ := id hC.1
  refine hJ 42 _ _ rfl _ _ _ _ (x_aload rfl (x_aload rfl (x_iload rfl (x_sipush (x_iadd (x_fal (6 * n + 1) (kN_add _ 1) (by omega) hL (x_aload rfl (x_iload rfl (x_sipush (x_iadd (x_fal (6 * n + 2) (kN_add _ 2) (by omega) hL (x_aload rfl (x_csb rfl (Nat.le_of_ble_eq_true rfl) (lw_bg hb rfl) (w_judge W hC hO judgeT_le (fun h1 w1 W1 k1 y1 n1 => xk_go (x_istore rfl (x_aload rfl (x_aload rfl (x_iload rfl (x_sipush (x_iadd (x_fal (6 * n + 1) (kN_add _ 1) (by omega) hL (x_aload rfl (x_iload rfl (x_sipush (x_iadd (x_fal (6 * n + 2) (kN_add _ 2) (by omega) hL (x_cv rfl (Nat.le_of_ble_eq_true rfl) (isO_W W1 (by decide) shp_80) (WP.shape kX7_judge rfl (m_judge W1 (hM.kl k1).1 hO.1 (hM.kl k1).2.1 hO.2.1 (KQm.query (hM.kl k1) (KQm.int (Or.inl rfl) (fun h2 w2 x2 W2 k2 y2 n2 f2 e2 => xk_go (x_istore rfl (x_aload rfl (x_cv rfl (Nat.le_of_ble_eq_true rfl) (isO_W W2 (by decide) shp_80) (m_thrown W2 (xk_go (x_iload rfl (x_br2 (fun q1 => have q1 := cy_eq q1; hJ 43 _ _ rfl _ _ _ _ (x_iload rfl (x_br (fun q2 => have q2 := cy_ne q2; hJ 44 _ _ rfl _ _ _ _ (x_goto (?_))) (fun q2 => have q2 := cn_ne q2; x_aload rfl (x_sipush (w_lald W2 0 (by decide) shp_96 rfl (by decide) (by decide) (x_iload rfl (x_i2l (x_lcmp (x_br (fun q3 => have q3 := lg_eq.mp (cy_eq q3); hJ 44 _ _ rfl _ _ _ _ (x_goto (?_))) (fun q3 => have q3 := (fun z => cn_eq q3 (lg_eq.mpr z)); x_sipush (x_iret (by first | exact nrwB _ | rfl | decide) ?_)))))))))))) (fun q1 => absurd f2 (cn_eq q1))))))))))))))))))))))))))))))))))))))))))
  · have hT := T_ne q2
    exact hN _ _ _ _ _ _ _ W2 ((n1 hT).km k2) (n2 hT) hO (lw_bc rfl)
  · have hT := T_eq judgeT_le (by omega) q2
    exact hN _ _ _ _ _ _ _ W2 ((y1 hT).1.km k2) (y2 hT) (hO) (lw_bc rfl)
  · have hT := T_eq judgeT_le (by omega) q2
    have e1 := (y1 hT).2 _ rfl
    refine absurd ?_ q3
    show wl w2 96 0 = _
    rw [(congrFun (k2 96 (Or.inr rfl)).2.2.2 0), e1, e2 hT]
theorem law_92 (hJ : LJ ga L xs (d + 16) J) (hn : 6 * n + 6 ≤ L) (hL : L ≤ 3072) (W : WW ad w h) (hC : RCl w S) (hM : RMo w S) (hO : SOK S) (hb : bOK bg) (hN : LN ga ad n J bg) : J 92 (lwl ga ad n z5 z6 z7) [] h bg := by
  obtain ⟨i, hcb, hcr⟩ := id hC.1
  refine hJ 92 _ _ rfl _ _ _ _ (x_aload rfl (x_aload rfl (x_iload rfl (x_sipush (x_iadd (x_fal (6 * n + 1) (kN_add _ 1) (by omega) hL (x_aload rfl (x_iload rfl (x_sipush (x_iadd (x_fal (6 * n + 2) (kN_add _ 2) (by omega) hL (x_aload rfl (x_iload rfl (x_sipush (x_iadd (x_fal (6 * n + 3) (kN_add _ 3) (by omega) hL (x_aload rfl (x_csb rfl (Nat.le_of_ble_eq_true rfl) (lw_bg hb rfl) (w_chances W hC hO chanT_le (fun h1 w1 W1 k1 y1 n1 => xk_go (x_istore rfl (x_aload rfl (x_aload rfl (x_iload rfl (x_sipush (x_iadd (x_fal (6 * n + 1) (kN_add _ 1) (by omega) hL (x_aload rfl (x_iload rfl (x_sipush (x_iadd (x_fal (6 * n + 2) (kN_add _ 2) (by omega) hL (x_aload rfl (x_iload rfl (x_sipush (x_iadd (x_fal (6 * n + 3) (kN_add _ 3) (by omega) hL (x_cv rfl (Nat.le_of_ble_eq_true rfl) (isO_W W1 (by decide) shp_80) (WP.shapeL kX7_chances rfl rfl rfl (m_chances W1 (hM.kl k1).1 hO.1 (hM.kl k1).2.1 hO.2.1 (KQm.query (hM.kl k1) (KQm.long (fun h2 w2 x2 W2 k2 y2 n2 f2 e2 => xk_go (x_lstore rfl (x_aload rfl (x_cv rfl (Nat.le_of_ble_eq_true rfl) (isO_W W2 (by decide) shp_80) (m_thrown W2 (xk_go (x_iload rfl (x_br2 (fun q1 => have q1 := cy_eq q1; hJ 93 _ _ rfl _ _ _ _ (x_iload rfl (x_br (fun q2 => have q2 := cy_ne q2; hJ 94 _ _ rfl _ _ _ _ (x_goto (?_))) (fun q2 => have q2 := cn_ne q2; x_aload rfl (x_sipush (w_lald W2 0 (by decide) shp_96 rfl (by decide) (by decide) (x_lload rfl (x_lcmp (x_br (fun q3 => have q3 := lg_eq.mp (cy_eq q3); hJ 94 _ _ rfl _ _ _ _ (x_goto (?_))) (fun q3 => have q3 := (fun z => cn_eq q3 (lg_eq.mpr z)); x_sipush (x_iret (by first | exact nrwB _ | rfl | decide) ?_))))))))))) (fun q1 => absurd f2 (cn_eq q1))))))))))))))))))))))))))))))))))))))))))))))))))))
  · have hT := T_ne q2
    exact hN _ _ _ _ _ _ _ W2 ((n1 hT).km k2) (n2 hT) hO (lw_bc rfl)
  · have hT := T_eq chanT_le (by omega) q2
    exact hN _ _ _ _ _ _ _ W2 ((y1 hT).1.km k2) (y2 hT) (hO) (lw_bc rfl)
  · have hT := T_eq chanT_le (by omega) q2
    have e1 := (y1 hT).2 _ rfl
    refine absurd ?_ q3
    show wl w2 96 0 = _
    rw [(congrFun (k2 96 (Or.inr rfl)).2.2.2 0), e1, e2 hT]
theorem law_101 (hJ : LJ ga L xs (d + 16) J) (hn : 6 * n + 6 ≤ L) (hL : L ≤ 3072) (W : WW ad w h) (hC : RCl w S) (hM : RMo w S) (hO : SOK S) (hb : bOK bg) (hN : LN ga ad n J bg) : J 101 (lwl ga ad n z5 z6 z7) [] h bg := by
  obtain ⟨i, hcb, hcr⟩ := id hC.1
  obtain ⟨R, hRr⟩ := ringR_ex S.1 (xs (6 * n + 1))
  refine hJ 101 _ _ rfl _ _ _ _ (x_aload rfl (x_aload rfl (x_iload rfl (x_sipush (x_iadd (x_fal (6 * n + 1) (kN_add _ 1) (by omega) hL (x_aload rfl (x_csb rfl (Nat.le_of_ble_eq_true rfl) (lw_bg hb rfl) (w_ring W hC hO hRr whatT_le (fun h1 w1 W1 k1 y1 n1 => xk_go (x_istore rfl (x_aload rfl (x_aload rfl (x_iload rfl (x_sipush (x_iadd (x_fal (6 * n + 1) (kN_add _ 1) (by omega) hL (x_cv rfl (Nat.le_of_ble_eq_true rfl) (isO_W W1 (by decide) shp_80) (WP.shape kX7_ring rfl (m_ring W1 (hM.kl k1).1 hO.1 hRr (KQm.query (hM.kl k1) (KQm.int (Or.inl rfl) (fun h2 w2 x2 W2 k2 y2 n2 f2 e2 => xk_go (x_istore rfl (x_aload rfl (x_cv rfl (Nat.le_of_ble_eq_true rfl) (isO_W W2 (by decide) shp_80) (m_thrown W2 (xk_go (x_iload rfl (x_br2 (fun q1 => have q1 := cy_eq q1; hJ 102 _ _ rfl _ _ _ _ (x_iload rfl (x_br (fun q2 => have q2 := cy_ne q2; hJ 103 _ _ rfl _ _ _ _ (x_goto (?_))) (fun q2 => have q2 := cn_ne q2; x_aload rfl (x_sipush (w_lald W2 0 (by decide) shp_96 rfl (by decide) (by decide) (x_iload rfl (x_i2l (x_lcmp (x_br (fun q3 => have q3 := lg_eq.mp (cy_eq q3); hJ 103 _ _ rfl _ _ _ _ (x_goto (?_))) (fun q3 => have q3 := (fun z => cn_eq q3 (lg_eq.mpr z)); x_sipush (x_iret (by first | exact nrwB _ | rfl | decide) ?_)))))))))))) (fun q1 => absurd f2 (cn_eq q1))))))))))))))))))))))))))))))))
  · have hT := T_ne q2
    exact hN _ _ _ _ _ _ _ W2 ((n1 hT).km k2) (n2 hT) hO (lw_bc rfl)
  · have hT := T_eq whatT_le (by omega) q2
    exact hN _ _ _ _ _ _ _ W2 ((y1 hT).1.km k2) (y2 hT) (hO) (lw_bc rfl)
  · have hT := T_eq whatT_le (by omega) q2
    have e1 := (y1 hT).2 _ rfl
    refine absurd ?_ q3
    show wl w2 96 0 = _
    rw [(congrFun (k2 96 (Or.inr rfl)).2.2.2 0), e1, e2 hT]
theorem law_132 (hJ : LJ ga L xs (d + 16) J) (hn : 6 * n + 6 ≤ L) (hL : L ≤ 3072) (W : WW ad w h) (hC : RCl w S) (hM : RMo w S) (hO : SOK S) (hb : bOK bg) (hN : LN ga ad n J bg) : J 132 (lwl ga ad n z5 z6 z7) [] h bg := by
  obtain ⟨i, hcb, hcr⟩ := id hC.1
  refine hJ 132 _ _ rfl _ _ _ _ (x_aload rfl (x_aload rfl (x_iload rfl (x_sipush (x_iadd (x_fal (6 * n + 1) (kN_add _ 1) (by omega) hL (x_aload rfl (x_iload rfl (x_sipush (x_iadd (x_fal (6 * n + 2) (kN_add _ 2) (by omega) hL (x_aload rfl (x_iload rfl (x_sipush (x_iadd (x_fal (6 * n + 3) (kN_add _ 3) (by omega) hL (x_i2l (x_sipush (x_lshl (x_aload rfl (x_iload rfl (x_sipush (x_iadd (x_fal (6 * n + 4) (kN_add _ 4) (by omega) hL (x_i2l (x_ldc2 (x_land (x_lor (x_aload rfl (x_csb rfl (Nat.le_of_ble_eq_true rfl) (lw_bg hb rfl) (w_write W hC hO writT_le (fun h1 w1 W1 k1 y1 n1 => xk_go (x_istore rfl (x_aload rfl (x_aload rfl (x_iload rfl (x_sipush (x_iadd (x_fal (6 * n + 1) (kN_add _ 1) (by omega) hL (x_aload rfl (x_iload rfl (x_sipush (x_iadd (x_fal (6 * n + 2) (kN_add _ 2) (by omega) hL (x_aload rfl (x_iload rfl (x_sipush (x_iadd (x_fal (6 * n + 3) (kN_add _ 3) (by omega) hL (x_i2l (x_sipush (x_lshl (x_aload rfl (x_iload rfl (x_sipush (x_iadd (x_fal (6 * n + 4) (kN_add _ 4) (by omega) hL (x_i2l (x_ldc2 (x_land (x_lor (x_cv rfl (Nat.le_of_ble_eq_true rfl) (isO_W W1 (by decide) shp_80) (WP.shapeL kX7_write rfl rfl rfl (m_write W1 (hM.kl k1) hO (KQm.long (fun h2 w2 x2 W2 k2 y2 n2 f2 e2 => xk_go (x_lstore rfl (x_aload rfl (x_cv rfl (Nat.le_of_ble_eq_true rfl) (isO_W W2 (by decide) shp_80) (m_thrown W2 (xk_go (x_iload rfl (x_br2 (fun q1 => have q1 := cy_eq q1; hJ 133 _ _ rfl _ _ _ _ (x_iload rfl (x_br (fun q2 => have q2 := cy_ne q2; hJ 134 _ _ rfl _ _ _ _ (x_goto (?_))) (fun q2 => have q2 := cn_ne q2; x_aload rfl (x_sipush (w_lald W2 0 (by decide) shp_96 rfl (by decide) (by decide) (x_lload rfl (x_lcmp (x_br (fun q3 => have q3 := lg_eq.mp (cy_eq q3); hJ 134 _ _ rfl _ _ _ _ (x_goto (?_))) (fun q3 => have q3 := (fun z => cn_eq q3 (lg_eq.mpr z)); x_sipush (x_iret (by first | exact nrwB _ | rfl | decide) ?_))))))))))) (fun q1 => absurd f2 (cn_eq q1)))))))))))))))))))))))))))))))))))))))))))))))))))))))))))))))))))))))))))
  · have hT := T_ne q2
    exact hN _ _ _ _ _ _ _ W2 ((n1 hT).km k2) (n2 hT) hO (lw_bc rfl)
  · have hT := T_eq writT_le (by omega) q2
    exact hN _ _ _ _ _ _ _ W2 ((y1 hT).1.km k2) (y2 hT) (hO.write) (lw_bc rfl)
  · have hT := T_eq writT_le (by omega) q2
    have e1 := (y1 hT).2 _ rfl
    refine absurd ?_ q3
    show wl w2 96 0 = _
    rw [(congrFun (k2 96 (Or.inr rfl)).2.2.2 0), e1, e2 hT]
theorem law_138 (hJ : LJ ga L xs (d + 16) J) (hn : 6 * n + 6 ≤ L) (hL : L ≤ 3072) (W : WW ad w h) (hC : RCl w S) (hM : RMo w S) (hO : SOK S) (hb : bOK bg) (hN : LN ga ad n J bg) : J 138 (lwl ga ad n z5 z6 z7) [] h bg := by
  obtain ⟨i, hcb, hcr⟩ := id hC.1
  refine hJ 138 _ _ rfl _ _ _ _ (x_aload rfl (x_aload rfl (x_iload rfl (x_sipush (x_iadd (x_fal (6 * n + 1) (kN_add _ 1) (by omega) hL (x_csb rfl (Nat.le_of_ble_eq_true rfl) (lw_bg hb rfl) (w_image W hC hO imgT_le (fun h1 w1 W1 k1 y1 n1 => xk_go (x_istore rfl (x_aload rfl (x_aload rfl (x_iload rfl (x_sipush (x_iadd (x_fal (6 * n + 1) (kN_add _ 1) (by omega) hL (x_cv rfl (Nat.le_of_ble_eq_true rfl) (isO_W W1 (by decide) shp_80) (WP.shape kX7_image rfl (m_image W1 (hM.kl k1) hO (KQm.void rfl (fun h2 w2 W2 k2 y2 n2 f2 => xk_v (x_aload rfl (x_cv rfl (Nat.le_of_ble_eq_true rfl) (isO_W W2 (by decide) shp_80) (m_thrown W2 (xk_go (x_iload rfl (x_br2 (fun q1 => have q1 := cy_eq q1; hJ 139 _ _ rfl _ _ _ _ (x_goto (?_))) (fun q1 => absurd f2 (cn_eq q1)))))))))))))))))))))))))))))
  · by_cases hT : (imgT (xs (6 * n + 1))) = 0
    · exact hN _ _ _ _ _ _ _ W2 ((y1 hT).1.km k2) (y2 hT) (hO.image) (lw_bc rfl)
    · exact hN _ _ _ _ _ _ _ W2 ((n1 hT).km k2) (n2 hT) hO (lw_bc rfl)
theorem law_142 (hJ : LJ ga L xs (d + 16) J) (hn : 6 * n + 6 ≤ L) (hL : L ≤ 3072) (W : WW ad w h) (hC : RCl w S) (hM : RMo w S) (hO : SOK S) (hb : bOK bg) (hN : LN ga ad n J bg) : J 142 (lwl ga ad n z5 z6 z7) [] h bg := by
  obtain ⟨i, hcb, hcr⟩ := id hC.1
  refine hJ 142 _ _ rfl _ _ _ _ (x_aload rfl (x_aload rfl (x_iload rfl (x_sipush (x_iadd (x_fal (6 * n + 1) (kN_add _ 1) (by omega) hL (x_cv rfl (Nat.le_of_ble_eq_true rfl) (isO_W W (by decide) shp_0) (x_count W hcb.isC hcr hO.1 hcb.2.1 (KCm.query hC ⟨fun hT h1 w1 W1 k1 hC1 => xk_go (x_aload rfl (x_aload rfl (x_iload rfl (x_sipush (x_iadd (x_fal (6 * n + 1) (kN_add _ 1) (by omega) hL (x_cv rfl (Nat.le_of_ble_eq_true rfl) (isO_W W1 (by decide) shp_80) (WP.shape kX7_count rfl (m_count W1 (hM.kc k1).1 hO.1 HTC (KQm.query (hM.kc k1) (KQm.int (Or.inl rfl) (fun h2 w2 x2 W2 k2 y2 n2 f2 e2 => xk_go (x_br2 (fun q1 => have q1 := cy_eq q1; ?_) (fun q1 => have q1 := cn_eq q1; x_sipush (x_iret (by first | exact nrwB _ | rfl | decide) ?_))))))))))))))), fun j hT => absurd hT (by omega)⟩)))))))))
  · exact hN _ _ _ _ _ _ _ W2 (hC1.km k2) (y2 rfl) (hO) lw_b0
  · exact absurd (e2 rfl).symm q1
end W1
