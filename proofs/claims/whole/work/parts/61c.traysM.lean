/-! ===== trays: the model ===== -/
theorem RMo.tray {w w' : Wst} {S : StT} {T' : TT} (h : RMo w S) (hn : ∀ j, j ≠ 4 → wn w' 80 j = wn w 80 j) (hs : ∀ a, a ≠ 80 → a ≠ 93 → a ≠ 94 → a ≠ 95 → same w w' a) (hT : TmR w' T') : RMo w' (S.1, T', S.2.2) := by
  obtain ⟨hK, -, hI, hP, hF⟩ := h
  refine ⟨?_, hT, fun j hj => ?_, ⟨?_, fun k hk => ?_⟩, ?_, ?_⟩
  · rw [(hs 81 (by omega) (by omega) (by omega) (by omega)).2.2.1]; exact hK
  · rw [(hs 84 (by omega) (by omega) (by omega) (by omega)).2.2.1, (hs 83 (by omega) (by omega) (by omega) (by omega)).2.2.1]; exact hI j hj
  · rw [hn 6 (by omega)]; exact hP.1
  · rw [(hs 85 (by omega) (by omega) (by omega) (by omega)).2.2.1]; exact hP.2 k hk
  · rw [hn 14 (by omega)]; exact hF.1
  · rw [hn 15 (by omega)]; exact hF.2
theorem kml_t {w w' : Wst} (hs : ∀ a, a ≠ 80 → a ≠ 93 → a ≠ 94 → a ≠ 95 → same w w' a) : kml w w' := fun a ha => hs a (by omega) (by omega) (by omega) (by omega)
theorem wn4n {w : Wst} {x : Int32} : ∀ j, j ≠ 4 → wn (sn w 80 4 x) 80 j = wn w 80 j := fun j h => by rw [wn_sn, if_neg (fun z => h z.2)]
theorem KQm.no2 {ad : Nat → Nat} {P : ac_P} {w w' : Wst} {h' : ac_H} {T t : Nat} {R v : Option Value} {S S' : StT} (kk : KQm ad P w T R S S') (hT : T = t) (ht : 1 ≤ t) (W' : WW ad w' h') (k1 : kml w w') (hS : RMo w' S) (h4 : wn w' 80 4 = kI (t : Int)) : P (.inl v) h' := kk h' w' v W' k1 (fun h => by omega) (fun _ => hS) (by rw [h4, hT]) (fun h => by omega)
section W1
variable {S : StT} {T : TT}
variable {ga : Nat → Nat} {L : Nat} {xs : Nat → Int32} {d : Nat} {h : ac_H} {P : ac_P} {ad : Nat → Nat} {w : Wst} {V : VT}
theorem m_tray {x y z : Int32} (W : WW ad w h) (hS : RMo w S) (hO : SOK S) (kk : KQm ad P w (trayT x y z) none S (S.1, layV S.2.1 (tN x) y z, S.2.2)) : WP ga L xs (d + 4) 242 [.ref (ad 80), .int x, .int y, .int z] h P := by
  have hK := hS.1
  have hV := hO.1
  have hT := hS.2.1
  have hTO := hO.2.1
  have hw := hV.w.2
  have wy : inV y 0 3 = decide ((Int64.ofNat 0).toInt ≤ y.toInt64.toInt ∧ y.toInt64.toInt ≤ (Int64.ofNat 3).toInt) := (inV_l (a := 0) (b := 3) (by omega) (by omega)).symm
  have wz : inV z 0 60 = decide ((Int64.ofNat 0).toInt ≤ z.toInt64.toInt ∧ z.toInt64.toInt ≤ (Int64.ofNat 60).toInt) := (inV_l (a := 0) (b := 60) (by omega) (by omega)).symm
  unfold trayT at kk
  refine WP.enter kX7_tray (Nat.le_of_ble_eq_true rfl) (fun J hJ => ?_)
  have loop : inV x 0 3 = true → inV y 0 3 = true → inV z 0 60 = true → ∀ m, m ≤ 60 → ∀ h' w', WW ad w' h' → (∀ a, a ≠ 80 → a ≠ 93 → a ≠ 94 → a ≠ 95 → same w w' a) → (∀ j, j ≠ 4 → wn w' 80 j = wn w 80 j) → wn w' 80 4 = kI 0 → wa w' 93 = upd (wa w 93) (tN x) y → wa w' 94 = upd (wa w 94) (tN x) z → (∀ k, wl w' 95 k = if 60 * tN x ≤ k ∧ k < 60 * tN x + m then kL 0 else wl w 95 k) → J 6 [some (.ref (ad 80)), some (.int x), some (.int y), some (.int z), some (.int (kI (m : Int)))] [] h' (0, 0) := by
    intro hx hy hz
    have x4 := tr_4 hx
    refine up_ind (fun m hm ih h0 w0 W0 hs hn n0 h93 h94 hE => ?_)
    refine hJ 6 _ _ rfl _ _ _ _ (x_iload rfl (x_sipush (x_br2 (fun q1 => have q1 := ge_y (n := 60) rfl (by omega) q1; hJ 7 _ _ rfl _ _ _ _ (x_vret rfl ?_)) (fun q1 => have q1 := ge_n (n := 60) rfl (by omega) q1; x_aload rfl (w_getr W0 7 27 (t := 95) (by decide) shp_80 rfl rfl rfl (x_sipush (x_iload rfl (x_imul (x_iload rfl (x_iadd (x_ldc2 (w_last W0 (60 * tN x + m) (by decide) shp_95 (tr_ix hx m) (by omega) (by decide) (fun h1 W1 => x_iinc rfl rfl (x_goto (?_)))))))))))))))
    · have e : m = 60 := by omega
      subst e
      refine kk.yes (by rw [if_pos hx, if_pos ⟨hy, hz⟩]) W0 (kml_t hs) (hS.tray hn hs ⟨fun a ha => ?_, fun k hk => ?_⟩) n0 rfl
      · rw [h93, h94]
        show upd (wa w 93) (tN x) y a = upd S.2.1.1 (tN x) y a ∧ upd (wa w 94) (tN x) z a = upd S.2.1.2.1 (tN x) z a
        by_cases e : a = tN x
        · rw [e, upd_self, upd_self, upd_self, upd_self]
          exact ⟨rfl, rfl⟩
        · rw [upd_ne e, upd_ne e, upd_ne e, upd_ne e]
          exact hT.1 a ha
      · rw [hE k, hT.2 k hk]
        rfl
    · refine J_c (ih q1 h1 _ W1 (fun a g1 g2 g3 g4 => (hs a g1 g2 g3 g4).trans (same_sv g4)) hn n0 h93 h94 (fun k => ?_)) (by simp only [sI, kN_succ])
      rw [wl_self]
      by_cases e : k = 60 * tN x + m
      · rw [e, updL_self, if_pos (by omega)]
        rfl
      · rw [updL_ne e, hE k]
        by_cases hc : 60 * tN x ≤ k ∧ k < 60 * tN x + m
        · rw [if_pos hc, if_pos (by omega)]
        · rw [if_neg hc, if_neg (by omega)]
  refine hJ 0 _ _ rfl _ _ _ _ (x_aload rfl (x_iload rfl (x_cs rfl (Nat.le_of_ble_eq_true rfl) (c7_isTray (xk_go (x_br (fun q1 => have q1 := bI_ne0.mp q1; hJ 1 _ _ rfl _ _ _ _ (x_iload rfl (x_i2l (x_ldc2 (x_ldc2 (x_cs rfl (Nat.le_of_ble_eq_true rfl) (c7_within (xk_go (x_br (fun q2 => have q2 := bI_eq0.mp q2; hJ 2 _ _ rfl _ _ _ _ (x_sipush (x_goto (hJ 4 _ _ rfl _ _ _ _ (w_puti W 7 4 (by decide) shp_80 rfl rfl (okI rfl) (fun h1 W1 => x_aload rfl (w_geti W1 7 4 (by decide) shp_80 rfl rfl (x_br (fun q3 => absurd (show kI (2) ≤ 0 from q3) (by decide)) (fun q3 => x_vret rfl ?_))))))))) (fun q2 => have q2 := bI_ne0.mp q2; x_iload rfl (x_i2l (x_ldc2 (x_ldc2 (x_cs rfl (Nat.le_of_ble_eq_true rfl) (c7_within (xk_go (x_br (fun q4 => have q4 := bI_ne0.mp q4; hJ 3 _ _ rfl _ _ _ _ (x_sipush (x_goto (hJ 4 _ _ rfl _ _ _ _ (w_puti W 7 4 (by decide) shp_80 rfl rfl (okI rfl) (fun h2 W2 => x_aload rfl (w_geti W2 7 4 (by decide) shp_80 rfl rfl (x_br (fun q5 => hJ 5 _ _ rfl _ _ _ _ (x_aload rfl (w_getr W2 7 25 (t := 93) (by decide) shp_80 rfl rfl rfl (x_iload rfl (x_iload rfl (w_iast W2 (tN x) (by decide) shp_93 (in_m (b := 3) q1).1 (tr_4 q1) (by decide) (fun h3 W3 => x_aload rfl (w_getr W3 7 26 (t := 94) (by decide) shp_80 rfl rfl rfl (x_iload rfl (x_iload rfl (w_iast W3 (tN x) (by decide) shp_94 (in_m (b := 3) q1).1 (tr_4 q1) (by decide) (fun h4 W4 => x_sipush (x_istore rfl (x_goto (?_))))))))))))))) (fun q5 => absurd (show kI (0) ≤ 0 by decide) q5))))))))) (fun q4 => have q4 := bI_nn q4; x_goto (hJ 2 _ _ rfl _ _ _ _ (x_sipush (x_goto (hJ 4 _ _ rfl _ _ _ _ (w_puti W 7 4 (by decide) shp_80 rfl rfl (okI rfl) (fun h5 W5 => x_aload rfl (w_geti W5 7 4 (by decide) shp_80 rfl rfl (x_br (fun q6 => absurd (show kI (2) ≤ 0 from q6) (by decide)) (fun q6 => x_vret rfl ?_))))))))))))))))))))))))))) (fun q1 => have q1 := bI_nn q1; x_sipush (x_goto (hJ 4 _ _ rfl _ _ _ _ (w_puti W 7 4 (by decide) shp_80 rfl rfl (okI rfl) (fun h6 W6 => x_aload rfl (w_geti W6 7 4 (by decide) shp_80 rfl rfl (x_br (fun q7 => absurd (show kI (1) ≤ 0 from q7) (by decide)) (fun q7 => x_vret rfl ?_))))))))))))))
  · exact kk.no (t := 1) (by rw [if_pos q1, if_neg (fun z => by rw [wy, q2] at z; cases z.1)]) W1 kml4 hS.th wn4
  · exact loop q1 (wy.trans q2) (wz.trans q4) 0 (Nat.zero_le _) _ _ W4 (fun a g1 g2 g3 g4 => ((same_sn g1).trans (same_sa g2)).trans (same_sa g3)) wn4n (wn4 (w := w)) rfl rfl (fun k => by rw [if_neg (by omega)]; rfl)
  · exact kk.no (t := 1) (by rw [if_pos q1, if_neg (fun z => by rw [wz, q4] at z; cases z.2)]) W5 kml4 hS.th wn4
  · exact kk.no (t := 0) (if_neg (by rw [q1]; decide)) W6 kml4 hS.th wn4
theorem c7_cut {x y : Int32} {p : Nat} {v : Int64} (W : WW ad w h) (hx : inV x 0 3 = true) (hy : y = kI (p : Int)) (hp : p < 60) (hs : btw (wa w 93 (tN x)) 0 3) (kk : ∀ h', WW ad (sv w 95 (vp_updL (wl w 95) (60 * tN x + p) (cutV (wa w 93 (tN x)) v))) h' → P (.inl (some (.long (cutV (wa w 93 (tN x)) v)))) h') : WP ga L xs (d + 1) 243 [.ref (ad 80), .int x, .int y, .long v] h P := by
  subst hy
  have hx1 := (in_m (b := 3) hx).1
  have hx4 := tr_4 hx
  have hix := tr_ix hx p
  have ecut := (cut_mod hs v).symm
  refine WP.enter kX7_cut (Nat.le_of_ble_eq_true rfl) (fun J hJ => ?_)
  refine hJ 0 _ _ rfl _ _ _ _ (x_sipush (x_sipush (x_aload rfl (w_getr W 7 25 (t := 93) (by decide) shp_80 rfl rfl rfl (x_iload rfl (w_iald W (tN x) (by decide) shp_93 hx1 (by omega) (by decide) (x_ishl (x_isub (x_istore rfl (x_aload rfl (w_getr W 7 27 (t := 95) (by decide) shp_80 rfl rfl rfl (x_sipush (x_iload rfl (x_imul (x_iload rfl (x_iadd (x_lload rfl (x_iload rfl (x_lshl (x_iload rfl (x_lshr (x_eql ecut (w_last W (60 * tN x + p) (by decide) shp_95 hix (by omega) (by decide) (fun h1 W1 => x_aload rfl (w_getr W1 7 27 (t := 95) (by decide) shp_80 rfl rfl rfl (x_sipush (x_iload rfl (x_imul (x_iload rfl (x_iadd (w_lald W1 (60 * tN x + p) (by decide) shp_95 hix (by omega) (by decide) (x_lret rfl ?_))))))))))))))))))))))))))))))))
  rw [wl_self, updL_self]
  exact kk _ W1
theorem m_write {x y : Int32} {v : Int64} (W : WW ad w h) (hS : RMo w S) (hO : SOK S) (kk : KQm ad P w (writT S.2.1 x y) (some (.long (cutV (S.2.1.1 (tN x)) v))) S (S.1, putV S.2.1 (tN x) (tN y) v, S.2.2)) : WP ga L xs (d + 4) 244 [.ref (ad 80), .int x, .int y, .long v] h P := by
  have hK := hS.1
  have hV := hO.1
  have hT := hS.2.1
  have hTO := hO.2.1
  have hw := hV.w.2
  have lle := laid_le S.2.1 x
  have hsx : laidT S.2.1 x = 0 → ¬ S.2.1.1 (tN x) = kI (-1) := fun hl z => by
    unfold laidT at hl
    rw [if_pos (l0 hl), if_pos z] at hl
    cases hl
  have hso : laidT S.2.1 x = 0 → btw (wa w 93 (tN x)) 0 3 := fun hl => by
    rw [(hT.1 _ (tr_4 (l0 hl))).1]
    exact ((hTO _ (tr_4 (l0 hl))).1).resolve_left (hsx hl)
  have hwy : laidT S.2.1 x = 0 → inV y 0 ((trM S.2.1 (tN x) : Int) - 1) = decide ((Int64.ofNat 0).toInt ≤ y.toInt64.toInt ∧ y.toInt64.toInt ≤ (wa w 94 (tN x) - kI 1).toInt64.toInt) := fun hl => by
    have hm := hTO.m (tr_4 (l0 hl))
    rw [(hT.1 _ (tr_4 (l0 hl))).2, hm.1, kI_sub, inV_l' (a := 0) (by omega), kI_toInt (by omega) (by omega)]
    rfl
  have hyp : laidT S.2.1 x = 0 → decide ((Int64.ofNat 0).toInt ≤ y.toInt64.toInt ∧ y.toInt64.toInt ≤ (wa w 94 (tN x) - kI 1).toInt64.toInt) = true → y = kI (tN y : Int) ∧ tN y < 60 := fun hl q => by
    have h9 := of_decide_eq_true ((hwy hl).trans q)
    have h8 := (hTO.m (tr_4 (l0 hl))).2
    unfold tN
    exact ⟨by rw [Int.toNat_of_nonneg h9.1, kI_of], by omega⟩
  unfold writT at kk
  refine WP.enter kX7_write (Nat.le_of_ble_eq_true rfl) (fun J hJ => ?_)
  refine hJ 0 _ _ rfl _ _ _ _ (x_aload rfl (x_aload rfl (x_iload rfl (x_cv rfl (Nat.le_of_ble_eq_true rfl) (isO_W W (by decide) shp_80) (c7_trayFault W hT (xk_go (w_puti W 7 4 (by decide) shp_80 rfl rfl (okI rfl) (fun h1 W1 => x_aload rfl (w_geti W1 7 4 (by decide) shp_80 rfl rfl (x_br (fun q1 => have q1 := k_le0 rfl (by have := laid_le S.2.1 x; omega) (show kI (laidT S.2.1 x : Int) ≤ 0 from cy_le q1); hJ 1 _ _ rfl _ _ _ _ (x_iload rfl (x_i2l (x_ldc2 (x_aload rfl (w_getr W1 7 26 (t := 94) (by decide) shp_80 rfl rfl rfl (x_iload rfl (w_iald W1 (tN x) (by decide) shp_94 (in_m (b := 3) (l0 q1)).1 (tr_4 (l0 q1)) (by decide) (x_sipush (x_isub (x_i2l (x_cs rfl (Nat.le_of_ble_eq_true rfl) (c7_within (xk_go (x_br (fun q2 => have q2 := bI_eq0.mp q2; hJ 2 _ _ rfl _ _ _ _ (x_aload rfl (x_sipush (x_cv rfl (Nat.le_of_ble_eq_true rfl) (isO_W W1 (by decide) shp_80) (c7_fails W1 (fun h2 W2 => xk_go (x_i2l (x_goto (hJ 3 _ _ rfl _ _ _ _ (x_lret rfl ?_)))))))))) (fun q2 => have q2 := bI_ne0.mp q2; x_aload rfl (x_iload rfl (x_iload rfl (x_lload rfl (x_cv rfl (Nat.le_of_ble_eq_true rfl) (isO_W W1 (by decide) shp_80) (c7_cut W1 (l0 q1) (hyp q1 q2).1 (hyp q1 q2).2 (hso q1) (fun h3 W3 => xk_go (x_goto (hJ 3 _ _ rfl _ _ _ _ (x_lret rfl ?_))))))))))))))))))))))))) (fun q1 => have q1 := k_gt0 rfl (by have := laid_le S.2.1 x; omega) (show ¬ kI (laidT S.2.1 x : Int) ≤ 0 from Int32.not_le.mpr (cn_le q1)); x_ldc2 (x_lret rfl ?_))))))))))))
  · exact kk.no (t := 2) (by rw [if_pos q1, if_neg (fun z => by have z2 := z.symm.trans ((hwy q1).trans q2); cases z2)]) W2 (kml4.trans kml4) (hS.th).th wn4
  · have e93 : wa w 93 (tN x) = S.2.1.1 (tN x) := (hT.1 _ (tr_4 (l0 q1))).1
    have hs9 : ∀ a, a ≠ 80 → a ≠ 93 → a ≠ 94 → a ≠ 95 → same w (sv (sn w 80 4 (kI (laidT S.2.1 x : Int))) 95 (vp_updL (wl (sn w 80 4 (kI (laidT S.2.1 x : Int))) 95) (60 * tN x + tN y) (cutV (wa (sn w 80 4 (kI (laidT S.2.1 x : Int))) 93 (tN x)) v))) a := fun a g1 _ _ g4 => (same_sn g1).trans (same_sv g4)
    refine kk.yes (by rw [if_pos q1, if_pos ((hwy q1).trans q2)]) W3 (kml_t hs9) (hS.tray wn4n hs9 ⟨fun a ha => hT.1 a ha, fun k hk => ?_⟩) ((wn4 (w := w)).trans (by rw [q1]; rfl)) ?_
    · rw [wl_self]
      show vp_updL (wl w 95) (60 * tN x + tN y) (cutV (wa w 93 (tN x)) v) k = vp_updL S.2.1.2.2 (60 * tN x + tN y) (cutV (S.2.1.1 (tN x)) v) k
      rw [e93]
      by_cases e : k = 60 * tN x + tN y
      · rw [e, updL_self, updL_self]
      · rw [updL_ne e, updL_ne e]
        exact hT.2 k hk
    · show some (Value.long (cutV (wa w 93 (tN x)) v)) = _
      rw [e93]
  · exact kk.no2 (if_neg (by omega)) q1 W1 kml4 hS.th wn4
theorem m_pour {x : Int32} (W : WW ad w h) (hS : RMo w S) (hO : SOK S) (kk : KQm ad P w (laidT S.2.1 x) (some (.int (kI (pourN S.2.1 S.1 (tN x) : Int)))) S (S.1, pourV S.2.1 S.1 (tN x) (pourN S.2.1 S.1 (tN x)), S.2.2)) : WP ga L xs (d + 4) 245 [.ref (ad 80), .int x] h P := by
  have hK := hS.1
  have hV := hO.1
  have hT := hS.2.1
  have hTO := hO.2.1
  have hw := hV.w.2
  have lle := laid_le S.2.1 x
  have e5 : wa w 81 5 = kI (wk S.1 : Int) := by rw [hK]; exact hV.w.1
  have hsx : laidT S.2.1 x = 0 → ¬ S.2.1.1 (tN x) = kI (-1) := fun hl z => by
    unfold laidT at hl
    rw [if_pos (l0 hl), if_pos z] at hl
    cases hl
  refine WP.enter kX7_pour (Nat.le_of_ble_eq_true rfl) (fun J hJ => ?_)
  have loop : laidT S.2.1 x = 0 → ∀ m, m ≤ pourN S.2.1 S.1 (tN x) → ∀ h' w', WW ad w' h' → (∀ a, a ≠ 80 → a ≠ 95 → same w w' a) → (∀ j, j ≠ 4 → wn w' 80 j = wn w 80 j) → wn w' 80 4 = kI 0 → TmR w' (pourV S.2.1 S.1 (tN x) m) → J 2 [some (.ref (ad 80)), some (.int x), some (.int (kI (pourN S.2.1 S.1 (tN x) : Int))), some (.int (kI (m : Int)))] [] h' (0, 0) := by
    intro hl
    have hx := l0 hl
    have x4 := tr_4 hx
    have hm9 := hTO.m x4
    have hpn : pourN S.2.1 S.1 (tN x) ≤ trM S.2.1 (tN x) ∧ pourN S.2.1 S.1 (tN x) ≤ wk S.1 := by
      unfold pourN
      split <;> omega
    refine up_ind (fun m hm ih h0 w0 W0 hs hn n0 hT0 => ?_)
    have hp1 := pour_1 (T := S.2.1) (V := S.1) (t := tN x) m
    have e93 : wa w0 93 (tN x) = S.2.1.1 (tN x) := by
      rw [(hs 93 (by omega) (by omega)).2.2.1]
      exact (hT.1 _ x4).1
    have hso : btw (wa w0 93 (tN x)) 0 3 := by
      rw [e93]
      exact ((hTO _ x4).1).resolve_left (hsx hl)
    have ev : wa w0 81 (54 + m) = vS S.1 m := by
      rw [(hs 81 (by omega) (by omega)).2.2.1, hK]
      rfl
    refine hJ 2 _ _ rfl _ _ _ _ (x_iload rfl (x_iload rfl (x_br2 (fun q1 => have q1 := ge_y rfl (by omega) q1; hJ 3 _ _ rfl _ _ _ _ (x_iload rfl (x_iret (nrwI _) ?_))) (fun q1 => have q1 := ge_n rfl (by omega) q1; x_aload rfl (x_iload rfl (x_iload rfl (x_aload rfl (w_getr W0 7 0 (t := 81) (by decide) shp_80 rfl rfl rfl (x_sipush (x_iload rfl (x_iadd (w_iald W0 (54 + m) (by decide) shp_81 (came_ix m) (by omega) (by decide) (x_i2l (x_cv rfl (Nat.le_of_ble_eq_true rfl) (isO_W W0 (by decide) shp_80) (c7_cut W0 hx rfl (by omega) hso (fun h1 W1 => xk_go (x_pop2 (x_iinc rfl rfl (x_goto (?_))))))))))))))))))))
    · have e : m = pourN S.2.1 S.1 (tN x) := by omega
      rw [e] at hT0
      exact kk.yes hl W0 (kml_t (fun a h1 _ _ h4 => hs a h1 h4)) (hS.tray hn (fun a h1 _ _ h4 => hs a h1 h4) hT0) n0 rfl
    · rw [ev, e93] at W1
      refine J_c (ih q1 h1 _ W1 (fun a g1 g4 => (hs a g1 g4).trans (same_sv g4)) hn n0 ⟨fun a ha => hT0.1 a ha, fun k hk => ?_⟩) (by simp only [sI, kN_succ])
      show wl (sv w0 95 _) 95 k = vp_updL (pourV S.2.1 S.1 (tN x) m).2.2 (60 * tN x + m) (cutV ((pourV S.2.1 S.1 (tN x) m).1 (tN x)) (vS S.1 m).toInt64) k
      rw [wl_self, hp1.1]
      by_cases e : k = 60 * tN x + m
      · rw [e, updL_self, updL_self]
      · rw [updL_ne e, updL_ne e]
        exact hT0.2 k hk
  refine hJ 0 _ _ rfl _ _ _ _ (x_aload rfl (x_aload rfl (x_iload rfl (x_cv rfl (Nat.le_of_ble_eq_true rfl) (isO_W W (by decide) shp_80) (c7_trayFault W hT (xk_go (w_puti W 7 4 (by decide) shp_80 rfl rfl (okI rfl) (fun h1 W1 => x_aload rfl (w_geti W1 7 4 (by decide) shp_80 rfl rfl (x_br (fun q1 => have q1 := k_le0 rfl (by have := laid_le S.2.1 x; omega) (show kI (laidT S.2.1 x : Int) ≤ 0 from cy_le q1); hJ 1 _ _ rfl _ _ _ _ (x_aload rfl (w_getr W1 7 26 (t := 94) (by decide) shp_80 rfl rfl rfl (x_iload rfl (w_iald W1 (tN x) (by decide) shp_94 (in_m (b := 3) (l0 q1)).1 (tr_4 (l0 q1)) (by decide) (x_aload rfl (w_getr W1 7 0 (t := 81) (by decide) shp_80 rfl rfl rfl (x_sipush (w_iald W1 5 (by decide) shp_81 rfl (by decide) (by decide) (x_cs rfl (Nat.le_of_ble_eq_true rfl) (c_min (xk_go (x_istore rfl (x_sipush (x_istore rfl (x_goto (?_))))))))))))))))) (fun q1 => have q1 := k_gt0 rfl (by have := laid_le S.2.1 x; omega) (show ¬ kI (laidT S.2.1 x : Int) ≤ 0 from Int32.not_le.mpr (cn_le q1)); x_sipush (x_iret (nrwI _) ?_))))))))))))
  · have hx := l0 q1
    have x4 := tr_4 hx
    have hm9 := hTO.m x4
    have e94 : wa (sn w 80 4 (kI (laidT S.2.1 x : Int))) 94 (tN x) = kI (trM S.2.1 (tN x) : Int) := (hT.1 _ x4).2.trans hm9.1
    have e5' : wa (sn w 80 4 (kI (laidT S.2.1 x : Int))) 81 5 = kI (wk S.1 : Int) := e5
    rw [e94, e5', min_N (by omega) (by omega)]
    exact loop q1 0 (Nat.zero_le _) _ _ W1 (fun a g1 _ => same_sn g1) wn4n ((wn4 (w := w)).trans (by rw [q1]; rfl)) hT
  · exact kk.no2 rfl q1 W1 kml4 hS.th wn4
end W1
