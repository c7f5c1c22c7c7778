/-! ===== images ===== -/
def imgT (x : Int32) : Nat := if inV x 0 2 = true then 0 else 1
def resT (I : ImT) (x : Int32) : Nat := if inV x 0 2 = true then (if I.1 (tN x) = true then 0 else 2) else 1
def imgV (I : ImT) (V : VT) (t : Nat) : ImT := (fun j => if j = t then true else I.1 j, fun j => if j = t then V else I.2 j)
def resV (I : ImT) (V : VT) (t : Nat) : VT := fun k => if k < 114 then I.2 t k else V k
theorem VOK.congr {V V' : VT} (h : VOK V) (e : ∀ k, k < 114 → V' k = V k) : VOK V' := h.wks (fun k h1 _ => e k (by omega)) (by rw [e 5 (by omega)]; exact h.1.2.2.2.2.2) (fun j hj => by
  have hw := h.w.2
  have e5 : wk V' = wk V := by
    unfold wk
    rw [e 5 (by omega)]
  rw [e5] at hj
  have es : vS V' j = vS V j := e _ (by omega)
  rw [es]
  exact h.2.2 j hj)
theorem CR.congr {w : Wst} {i : Nat} {V V' : VT} (hR : CR w i V) (h : VOK V) (e : ∀ k, k < 114 → V' k = V k) : CR w i V' := by
  have hw := h.w.2
  have e5 : wk V' = wk V := by
    unfold wk
    rw [e 5 (by omega)]
  refine hR.wks (fun k h1 _ => e k (by omega)) (fun j _ => rfl) ?_ rfl rfl rfl h.n.2 (fun j hj => ?_)
  · rw [e 5 (by omega)]
    exact hR.1.2.2.2.2.2
  · rw [e5] at hj
    have es : vS V' j = vS V j := e _ (by omega)
    rw [es]
    exact hR.2.2.1 j hj
theorem im_3 {x : Int32} (h : inV x 0 2 = true) : x = kI (tN x : Int) ∧ tN x < 3 := by
  have := in_m (b := 2) h
  exact ⟨this.1, by omega⟩
theorem rax71 (j : Nat) : rax 71 j = 25 + 5 * j := by
  unfold rax
  rw [if_neg (by decide), if_neg (by decide)]
theorem isC_im {t : Nat} (h : t < 3) : isC (25 + 5 * t) := by
  unfold isC
  omega
section W1
variable {S : StT}
variable {ga : Nat → Nat} {L : Nat} {xs : Nat → Int32} {d : Nat} {h : ac_H} {P : ac_P} {ad : Nat → Nat} {w : Wst} {i : Nat} {V : VT}
theorem c_reqImage {x : Int32} (k1 : inV x 0 2 = false → P (.inr 1) h) (k0 : inV x 0 2 = true → P (.inl none) h) : WP ga L xs (d + 1) 131 [.int x] h P := by
  have z0 : (0 : Int32).toInt = 0 := rfl
  have z3 : (kI 3).toInt = 3 := rfl
  refine WP.enter kX6_requireImage (Nat.le_of_ble_eq_true rfl) (fun J hJ => ?_)
  refine hJ 0 _ _ rfl _ _ _ _ (x_iload rfl (x_br (fun q1 => have q1 := cy_lt q1; hJ 1 _ _ rfl _ _ _ _ (x_thr ⟨by decide, by decide⟩ (Nat.le_of_ble_eq_true rfl) (by decide) ?_)) (fun q1 => have q1 := cn_lt q1; x_iload rfl (x_sipush (x_br2 (fun q2 => have q2 := cy_lt q2; hJ 2 _ _ rfl _ _ _ _ (x_vret rfl ?_)) (fun q2 => have q2 := cn_lt q2; x_goto (hJ 1 _ _ rfl _ _ _ _ (x_thr ⟨by decide, by decide⟩ (Nat.le_of_ble_eq_true rfl) (by decide) ?_))))))))
  · rw [Int32.lt_iff_toInt_lt, z0] at q1
    exact k1 (decide_eq_false (by omega))
  · rw [Int32.le_iff_toInt_le, z0] at q1
    rw [Int32.lt_iff_toInt_lt, z3] at q2
    exact k0 (decide_eq_true (by omega))
  · rw [Int32.le_iff_toInt_le, z3] at q2
    exact k1 (decide_eq_false (by omega))
theorem mem5 {t a : Nat} (h : ¬ (t ≤ a ∧ a < t + 5)) : a ∉ [t, t + 1, t + 2, t + 3, t + 4] := by simp; omega
theorem x_image {x : Int32} (W : WW ad w h) (hS : RCl w S) (hO : SOK S) (kk : KCm ad P w [1] (imgT x) none S (S.1, S.2.1, imgV S.2.2.1 S.1 (tN x), S.2.2.2)) : WP ga L xs (d + 4) 121 [.ref (ad 0), .int x] h P := by
  obtain ⟨i, hb, hR⟩ := hS.1
  have hC := hb.isC
  have hc := hb.2.1
  have hV := hO.1
  have hbi := hb.1
  have hI := hS.2.2.1
  unfold imgT at kk
  refine WP.enter kX6_image (Nat.le_of_ble_eq_true rfl) (fun J hJ => ?_)
  refine hJ 0 _ _ rfl _ _ _ _ (x_iload rfl (x_csb rfl (Nat.le_of_ble_eq_true rfl) ⟨by decide, by decide⟩ (c_reqImage (fun t1 => ?_) (fun t1 => xk_v (x_aload rfl (w_getr W 6 8 (t := 71) (by decide) shp_0 rfl rfl rfl (x_iload rfl (w_aald W (tN x) (by decide) shp_71 (by decide) (im_3 t1).1 (im_3 t1).2 (by decide) (x_eqr (rax71 (tN x)) (x_aload rfl (w_getr W 6 0 (t := i) (by decide) shp_0 rfl rfl hc (x_cv rfl (Nat.le_of_ble_eq_true rfl) (isO_W W (isC_im (im_3 t1).2).lt (isC_im (im_3 t1).2).sh) (c_become W hC (isC_im (im_3 t1).2) (by omega) hR hV (fun h1 w1 W1 e0 c0 => xk_v (x_aload rfl (w_getr W1 6 9 (t := 72) (by decide) shp_0 rfl rfl rfl (x_iload rfl (x_sipush (w_bast W1 (tN x) (by decide) shp_72 (by decide) (im_3 t1).1 (im_3 t1).2 (by decide) (fun h2 W2 => x_vret rfl ?_))))))))))))))))))))
  · exact kk.no 0 (if_neg (by rw [t1]; decide)) W kcl_refl hS
  · have x3 := (im_3 t1).2
    have hs : ∀ a, ¬ (25 + 5 * tN x ≤ a ∧ a < 25 + 5 * tN x + 5) → a ≠ 72 → same w (sa w1 72 (upd (wa w1 72) (tN x) (vp_nar (if 2 = 2 then FieldType.boolean else FieldType.byte) (kI 1)))) a := fun a g1 g2 => same.trans (e0 a (mem5 g1)) (same_sa g2)
    obtain ⟨⟨i', ⟨hi', h0', h1'⟩, hR'⟩, hT, -, hP, hF⟩ := hS
    refine kk.yes (if_pos t1) W2 (fun a ha => hs a (by omega) (by omega)) ⟨⟨i', ⟨hi', ?_, ?_⟩, hR'.sm (fun j hj => hs _ (by omega) (by omega))⟩, fun t ht => ?_, fun j hj => ?_, ⟨?_, fun k hk => ?_⟩, ?_, ?_⟩
    · rw [(hs 0 (by omega) (by omega)).2.1]; exact h0'
    · rw [(hs 0 (by omega) (by omega)).2.1]; exact h1'
    · rw [(hs (63 + 2 * t) (by omega) (by omega)).1, (hs (63 + 2 * t + 1) (by omega) (by omega)).2.2.2]
      exact hT t ht
    · have e72 : wa w1 72 = wa w 72 := (e0 72 (mem5 (by omega))).2.2.1
      rw [wa_self]
      show upd (wa w1 72) (tN x) _ j = bI (if j = tN x then true else S.2.2.1.1 j) ∧ ((if j = tN x then true else S.2.2.1.1 j) = true → CR _ (25 + 5 * j) (if j = tN x then S.1 else S.2.2.1.2 j))
      by_cases e : j = tN x
      · rw [if_pos e, if_pos e, e, upd_self]
        exact ⟨rfl, fun _ => c0.sm (fun a ha => same_sa (by omega))⟩
      · refine ⟨?_, ?_⟩
        · rw [if_neg e, upd_ne e, e72]
          exact (hI j hj).1
        · rw [if_neg e, if_neg e]
          exact fun hm => ((hI j hj).2 hm).sm (fun a ha => hs _ (by omega) (by omega))
    · rw [(hs 42 (by omega) (by omega)).1]; exact hP.1
    · rw [(hs 43 (by omega) (by omega)).2.2.1]; exact hP.2 k hk
    · rw [(hs 42 (by omega) (by omega)).1]; exact hF.1
    · rw [(hs 42 (by omega) (by omega)).1]; exact hF.2
theorem x_restore {x : Int32} (W : WW ad w h) (hS : RCl w S) (hO : SOK S) (kk : KCm ad P w [1, 2] (resT S.2.2.1 x) none S (resV S.2.2.1 S.1 (tN x), S.2)) : WP ga L xs (d + 4) 122 [.ref (ad 0), .int x] h P := by
  obtain ⟨i, hb, hR⟩ := hS.1
  have hC := hb.isC
  have hc := hb.2.1
  have hV := hO.1
  have hbi := hb.1
  have hI := hS.2.2.1
  have of : ¬ wa w 72 (tN x) = 0 → inV x 0 2 = true → S.2.2.1.1 (tN x) = true := fun q t1 => by
    rw [(hI _ (im_3 t1).2).1] at q
    exact bI_ne0.mp q
  unfold resT at kk
  refine WP.enter kX6_restore (Nat.le_of_ble_eq_true rfl) (fun J hJ => ?_)
  refine hJ 0 _ _ rfl _ _ _ _ (x_iload rfl (x_csb rfl (Nat.le_of_ble_eq_true rfl) ⟨by decide, by decide⟩ (c_reqImage (fun t1 => ?_) (fun t1 => xk_v (x_aload rfl (w_getr W 6 9 (t := 72) (by decide) shp_0 rfl rfl rfl (x_iload rfl (w_bald W (tN x) (by decide) shp_72 (by decide) (im_3 t1).1 (im_3 t1).2 (by decide) (x_br (fun q1 => have q1 := cy_ne q1; hJ 1 _ _ rfl _ _ _ _ (x_aload rfl (w_getr W 6 0 (t := i) (by decide) shp_0 rfl rfl hc (x_aload rfl (w_getr W 6 8 (t := 71) (by decide) shp_0 rfl rfl rfl (x_iload rfl (w_aald W (tN x) (by decide) shp_71 (by decide) (im_3 t1).1 (im_3 t1).2 (by decide) (x_eqr (rax71 (tN x)) (x_cv rfl (Nat.le_of_ble_eq_true rfl) (isO_W W hC.lt hC.sh) (c_become W (isC_im (im_3 t1).2) hC (by omega) ((hI _ (im_3 t1).2).2 (of q1 t1)) (hO.2.2.1 _ (im_3 t1).2 (of q1 t1)) (fun h1 w1 W1 e0 c0 => xk_v (x_vret rfl ?_)))))))))))) (fun q1 => have q1 := cn_ne q1; x_thr ⟨by decide, by decide⟩ (Nat.le_of_ble_eq_true rfl) (by decide) ?_))))))))))
  · exact kk.no 0 (if_neg (by rw [t1]; decide)) W kcl_refl hS
  · have hm := of q1 t1
    exact kk.yes (by rw [if_pos t1, if_pos hm]) W1 (kcl_cl hb (fun a ha => e0 a (mem5 ha))) (hS.club hb (fun a ha => e0 a (mem5 ha)) (c0.congr (hO.2.2.1 _ (im_3 t1).2 hm) (fun k hk => if_pos hk)))
  · rw [(hI _ (im_3 t1).2).1, bI_eq0] at q1
    exact kk.no 1 (by rw [if_pos t1, if_neg (by rw [q1]; decide)]) W kcl_refl hS
theorem RMo.img {w w' : Wst} {S : StT} {I' : ImT} (h : RMo w S) (hn : ∀ j, j ≠ 4 → wn w' 80 j = wn w 80 j) (hs : ∀ a, a ≠ 80 → a ≠ 83 → a ≠ 84 → same w w' a) (hI : ImR w' I') : RMo w' (S.1, S.2.1, I', S.2.2.2) := by
  obtain ⟨hK, hT, -, hP, hF⟩ := h
  refine ⟨?_, ⟨fun t ht => ?_, fun k hk => ?_⟩, hI, ⟨?_, fun k hk => ?_⟩, ?_, ?_⟩
  · rw [(hs 81 (by omega) (by omega) (by omega)).2.2.1]; exact hK
  · rw [(hs 93 (by omega) (by omega) (by omega)).2.2.1, (hs 94 (by omega) (by omega) (by omega)).2.2.1]; exact hT.1 t ht
  · rw [(hs 95 (by omega) (by omega) (by omega)).2.2.2]; exact hT.2 k hk
  · rw [hn 6 (by omega)]; exact hP.1
  · rw [(hs 85 (by omega) (by omega) (by omega)).2.2.1]; exact hP.2 k hk
  · rw [hn 14 (by omega)]; exact hF.1
  · rw [hn 15 (by omega)]; exact hF.2
theorem m_image {x : Int32} (W : WW ad w h) (hS : RMo w S) (hO : SOK S) (kk : KQm ad P w (imgT x) none S (S.1, S.2.1, imgV S.2.2.1 S.1 (tN x), S.2.2.2)) : WP ga L xs (d + 4) 246 [.ref (ad 80), .int x] h P := by
  have hK := hS.1
  have hV := hO.1
  have hI := hS.2.2.1
  have wx : inV x 0 2 = decide ((Int64.ofNat 0).toInt ≤ x.toInt64.toInt ∧ x.toInt64.toInt ≤ (Int64.ofNat 2).toInt) := (inV_l (a := 0) (b := 2) (by omega) (by omega)).symm
  unfold imgT at kk
  refine WP.enter kX7_image (Nat.le_of_ble_eq_true rfl) (fun J hJ => ?_)
  have loop : inV x 0 2 = true → ∀ m, m ≤ 114 → ∀ h' w', WW ad w' h' → (∀ a, a ≠ 80 → a ≠ 83 → a ≠ 84 → same w w' a) → (∀ j, j ≠ 4 → wn w' 80 j = wn w 80 j) → wn w' 80 4 = kI 0 → wa w' 84 = upd (wa w 84) (tN x) (kI 1) → (∀ k, wa w' 83 k = if 114 * tN x ≤ k ∧ k < 114 * tN x + m then S.1 (k - 114 * tN x) else wa w 83 k) → J 4 [some (.ref (ad 80)), some (.int x), some (.int (kI (m : Int)))] [] h' (0, 0) := by
    intro hx
    obtain ⟨hx1, x3⟩ := im_3 hx
    have ix114 : ∀ k : Nat, kI 114 * x + kI (k : Int) = kI ((114 * tN x + k : Nat) : Int) := fun k => by
      have h2 : kI 114 * kI (tN x : Int) + kI (k : Int) = kI ((114 * tN x + k : Nat) : Int) := by
        rw [kI_mul, kI_add]
        exact congrArg kI (by omega)
      rw [← hx1] at h2
      exact h2
    refine up_ind (fun m hm ih h0 w0 W0 hs hn n0 h84 hE => ?_)
    have hK0 : wa w0 81 = S.1 := ((hs 81 (by omega) (by omega) (by omega)).2.2.1).trans hK
    refine hJ 4 _ _ rfl _ _ _ _ (x_iload rfl (x_sipush (x_br2 (fun q1 => have q1 := ge_y (n := 114) rfl (by omega) q1; hJ 5 _ _ rfl _ _ _ _ (x_vret rfl ?_)) (fun q1 => have q1 := ge_n (n := 114) rfl (by omega) q1; x_aload rfl (w_getr W0 7 2 (t := 83) (by decide) shp_80 rfl rfl rfl (x_sipush (x_iload rfl (x_imul (x_iload rfl (x_iadd (x_aload rfl (w_getr W0 7 0 (t := 81) (by decide) shp_80 rfl rfl rfl (x_iload rfl (w_iald W0 m (by decide) shp_81 rfl (by omega) (by decide) (w_iast W0 (114 * tN x + m) (by decide) shp_83 (ix114 m) (by omega) (by decide) (fun h1 W1 => x_iinc rfl rfl (x_goto (?_))))))))))))))))))
    · have e : m = 114 := by omega
      subst e
      refine kk.yes (if_pos hx) W0 (fun a ha => hs a (by omega) (by omega) (by omega)) (hS.img hn hs (fun j hj => ?_)) n0 rfl
      rw [h84]
      show upd (wa w 84) (tN x) (kI 1) j = bI (if j = tN x then true else S.2.2.1.1 j) ∧ ((if j = tN x then true else S.2.2.1.1 j) = true → ∀ k, k < 114 → wa w0 83 (114 * j + k) = (if j = tN x then S.1 else S.2.2.1.2 j) k)
      by_cases e : j = tN x
      · rw [if_pos e, if_pos e, e, upd_self]
        refine ⟨rfl, fun _ k hk => ?_⟩
        rw [hE, if_pos (by omega)]
        exact congrArg S.1 (by omega)
      · rw [if_neg e, if_neg e, upd_ne e]
        refine ⟨(hI j hj).1, fun hm k hk => ?_⟩
        rw [hE, if_neg (by omega)]
        exact (hI j hj).2 hm k hk
    · refine J_c (ih q1 h1 _ W1 (fun a g1 g2 g3 => (hs a g1 g2 g3).trans (same_sa g2)) hn n0 h84 (fun k => ?_)) (by simp only [sI, kN_succ])
      rw [wa_self]
      by_cases e : k = 114 * tN x + m
      · rw [e, upd_self, if_pos (by omega), hK0]
        exact congrArg S.1 (by omega)
      · rw [upd_ne e, hE k]
        by_cases hc : 114 * tN x ≤ k ∧ k < 114 * tN x + m
        · rw [if_pos hc, if_pos (by omega)]
        · rw [if_neg hc, if_neg (by omega)]
  refine hJ 0 _ _ rfl _ _ _ _ (x_aload rfl (x_iload rfl (x_i2l (x_ldc2 (x_ldc2 (x_cs rfl (Nat.le_of_ble_eq_true rfl) (c7_within (xk_go (x_br (fun q1 => have q1 := bI_eq0.mp q1; hJ 1 _ _ rfl _ _ _ _ (x_sipush (x_goto (hJ 2 _ _ rfl _ _ _ _ (w_puti W 7 4 (by decide) shp_80 rfl rfl (okI rfl) (fun h1 W1 => x_aload rfl (w_geti W1 7 4 (by decide) shp_80 rfl rfl (x_br (fun q2 => absurd (show kI (1) ≤ 0 from q2) (by decide)) (fun q2 => x_vret rfl ?_))))))))) (fun q1 => have q1 := bI_ne0.mp q1; x_sipush (x_goto (hJ 2 _ _ rfl _ _ _ _ (w_puti W 7 4 (by decide) shp_80 rfl rfl (okI rfl) (fun h2 W2 => x_aload rfl (w_geti W2 7 4 (by decide) shp_80 rfl rfl (x_br (fun q3 => hJ 3 _ _ rfl _ _ _ _ (x_aload rfl (w_getr W2 7 3 (t := 84) (by decide) shp_80 rfl rfl rfl (x_iload rfl (x_sipush (w_bast W2 (tN x) (by decide) shp_84 (by decide) (im_3 (wx.trans q1)).1 (im_3 (wx.trans q1)).2 (by decide) (fun h3 W3 => x_sipush (x_istore rfl (x_goto (?_)))))))))) (fun q3 => absurd (show kI (0) ≤ 0 by decide) q3)))))))))))))))))
  · exact kk.no (t := 0) (if_neg (by rw [wx, q1]; decide)) W1 kml4 hS.th wn4
  · exact loop (wx.trans q1) 0 (Nat.zero_le _) _ _ W3 (fun a g1 g2 g3 => (same_sn g1).trans (same_sa g3)) wn4n (wn4 (w := w)) rfl (fun k => (show wa w 83 k = _ from (if_neg (show ¬ (114 * tN x ≤ k ∧ k < 114 * tN x + 0) by omega)).symm))
theorem m_restore {x : Int32} (W : WW ad w h) (hS : RMo w S) (hO : SOK S) (kk : KQm ad P w (resT S.2.2.1 x) none S (resV S.2.2.1 S.1 (tN x), S.2)) : WP ga L xs (d + 4) 247 [.ref (ad 80), .int x] h P := by
  have hK := hS.1
  have hV := hO.1
  have hI := hS.2.2.1
  have wx : inV x 0 2 = decide ((Int64.ofNat 0).toInt ≤ x.toInt64.toInt ∧ x.toInt64.toInt ≤ (Int64.ofNat 2).toInt) := (inV_l (a := 0) (b := 2) (by omega) (by omega)).symm
  unfold resT at kk
  have of : ¬ wa w 84 (tN x) = 0 → inV x 0 2 = true → S.2.2.1.1 (tN x) = true := fun q t1 => by
    rw [(hI _ (im_3 t1).2).1] at q
    exact bI_ne0.mp q
  refine WP.enter kX7_restore (Nat.le_of_ble_eq_true rfl) (fun J hJ => ?_)
  have loop : inV x 0 2 = true → S.2.2.1.1 (tN x) = true → ∀ m, m ≤ 114 → ∀ h' w', WW ad w' h' → (∀ a, a ≠ 80 → a ≠ 81 → same w w' a) → (∀ j, j ≠ 4 → wn w' 80 j = wn w 80 j) → wn w' 80 4 = kI 0 → (∀ k, wa w' 81 k = if k < m then S.2.2.1.2 (tN x) k else S.1 k) → J 5 [some (.ref (ad 80)), some (.int x), some (.int (kI (m : Int)))] [] h' (0, 0) := by
    intro hx hmd
    obtain ⟨hx1, x3⟩ := im_3 hx
    have ix114 : ∀ k : Nat, kI 114 * x + kI (k : Int) = kI ((114 * tN x + k : Nat) : Int) := fun k => by
      have h2 : kI 114 * kI (tN x : Int) + kI (k : Int) = kI ((114 * tN x + k : Nat) : Int) := by
        rw [kI_mul, kI_add]
        exact congrArg kI (by omega)
      rw [← hx1] at h2
      exact h2
    refine up_ind (fun m hm ih h0 w0 W0 hs hn n0 hE => ?_)
    have h83 : m < 114 → wa w0 83 (114 * tN x + m) = S.2.2.1.2 (tN x) m := fun h9 => by
      rw [(hs 83 (by omega) (by omega)).2.2.1]
      exact (hI _ x3).2 hmd m h9
    refine hJ 5 _ _ rfl _ _ _ _ (x_iload rfl (x_sipush (x_br2 (fun q1 => have q1 := ge_y (n := 114) rfl (by omega) q1; hJ 6 _ _ rfl _ _ _ _ (x_vret rfl ?_)) (fun q1 => have q1 := ge_n (n := 114) rfl (by omega) q1; x_aload rfl (w_getr W0 7 0 (t := 81) (by decide) shp_80 rfl rfl rfl (x_iload rfl (x_aload rfl (w_getr W0 7 2 (t := 83) (by decide) shp_80 rfl rfl rfl (x_sipush (x_iload rfl (x_imul (x_iload rfl (x_iadd (w_iald W0 (114 * tN x + m) (by decide) shp_83 (ix114 m) (by omega) (by decide) (w_iast W0 m (by decide) shp_81 rfl (by omega) (by decide) (fun h1 W1 => x_iinc rfl rfl (x_goto (?_))))))))))))))))))
    · have e : m = 114 := by omega
      subst e
      exact kk.yes (by rw [if_pos hx, if_pos hmd]) W0 (fun a ha => hs a (by omega) (by omega)) (hS.club (fun j h4 _ _ => hn j h4) (fun a h1 h2 _ _ => hs a h1 h2) (funext fun k => hE k)) n0 rfl
    · refine J_c (ih q1 h1 _ W1 (fun a g1 g2 => (hs a g1 g2).trans (same_sa g2)) hn n0 (fun k => ?_)) (by simp only [sI, kN_succ])
      rw [wa_self]
      by_cases e : k = m
      · rw [e, upd_self, if_pos (by omega), h83 q1]
      · rw [upd_ne e, hE k]
        by_cases hc : k < m
        · rw [if_pos hc, if_pos (by omega)]
        · rw [if_neg hc, if_neg (by omega)]
  refine hJ 0 _ _ rfl _ _ _ _ (x_aload rfl (x_iload rfl (x_i2l (x_ldc2 (x_ldc2 (x_cs rfl (Nat.le_of_ble_eq_true rfl) (c7_within (xk_go (x_br (fun q1 => have q1 := bI_ne0.mp q1; hJ 1 _ _ rfl _ _ _ _ (x_aload rfl (w_getr W 7 3 (t := 84) (by decide) shp_80 rfl rfl rfl (x_iload rfl (w_bald W (tN x) (by decide) shp_84 (by decide) (im_3 (wx.trans q1)).1 (im_3 (wx.trans q1)).2 (by decide) (x_br (fun q2 => have q2 := cy_ne q2; hJ 2 _ _ rfl _ _ _ _ (x_sipush (x_goto (hJ 3 _ _ rfl _ _ _ _ (w_puti W 7 4 (by decide) shp_80 rfl rfl (okI rfl) (fun h1 W1 => x_aload rfl (w_geti W1 7 4 (by decide) shp_80 rfl rfl (x_br (fun q3 => hJ 4 _ _ rfl _ _ _ _ (x_sipush (x_istore rfl (x_goto (?_))))) (fun q3 => absurd (show kI (0) ≤ 0 by decide) q3))))))))) (fun q2 => have q2 := cn_ne q2; x_sipush (x_goto (hJ 3 _ _ rfl _ _ _ _ (w_puti W 7 4 (by decide) shp_80 rfl rfl (okI rfl) (fun h2 W2 => x_aload rfl (w_geti W2 7 4 (by decide) shp_80 rfl rfl (x_br (fun q4 => absurd (show kI (2) ≤ 0 from q4) (by decide)) (fun q4 => x_vret rfl ?_)))))))))))))) (fun q1 => have q1 := bI_nn q1; x_sipush (x_goto (hJ 3 _ _ rfl _ _ _ _ (w_puti W 7 4 (by decide) shp_80 rfl rfl (okI rfl) (fun h3 W3 => x_aload rfl (w_geti W3 7 4 (by decide) shp_80 rfl rfl (x_br (fun q5 => absurd (show kI (1) ≤ 0 from q5) (by decide)) (fun q5 => x_vret rfl ?_)))))))))))))))))
  · exact loop (wx.trans q1) (of q2 (wx.trans q1)) 0 (Nat.zero_le _) _ _ W1 (fun a g1 _ => same_sn g1) wn4n (wn4 (w := w)) (fun k => by rw [if_neg (by omega)]; exact congrFun hK k)
  · have q2 : wa w 84 (tN x) = 0 := q2
    rw [(hI _ (im_3 (wx.trans q1)).2).1, bI_eq0] at q2
    exact kk.no (t := 1) (by rw [if_pos (wx.trans q1), if_neg (by rw [q2]; decide)]) W2 kml4 hS.th wn4
  · exact kk.no (t := 0) (if_neg (by rw [wx, q1]; decide)) W3 kml4 hS.th wn4
end W1
