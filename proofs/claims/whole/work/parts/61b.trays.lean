/-! ===== laying trays, writing, pouring: the class ===== -/
def trayT (x y z : Int32) : Nat := if inV x 0 3 = true then (if inV y 0 3 = true ∧ inV z 0 60 = true then 0 else 2) else 1
def layV (T : TT) (t : Nat) (y z : Int32) : TT := (upd T.1 t y, upd T.2.1 t z, fun k => if 60 * t ≤ k ∧ k < 60 * t + 60 then kL 0 else T.2.2 k)
def putV (T : TT) (t p : Nat) (v : Int64) : TT := (T.1, T.2.1, vp_updL T.2.2 (60 * t + p) (cutV (T.1 t) v))
def writT (T : TT) (x y : Int32) : Nat := if laidT T x = 0 then (if inV y 0 ((trM T (tN x) : Int) - 1) = true then 0 else 3) else laidT T x
def pourN (T : TT) (V : VT) (t : Nat) : Nat := if trM T t ≤ wk V then trM T t else wk V
def pourV (T : TT) (V : VT) (t : Nat) : Nat → TT
  | 0 => T
  | n + 1 => putV (pourV T V t n) t n (vS V n).toInt64
theorem TOK.lay {T : TT} {t : Nat} {y z : Int32} (h : TOK T) (hy : inV y 0 3 = true) (hz : inV z 0 60 = true) : TOK (layV T t y z) := by
  intro a ha
  have hy := of_decide_eq_true hy
  have hz := of_decide_eq_true hz
  show ((upd T.1 t y) a = kI (-1) ∨ btw ((upd T.1 t y) a) 0 3) ∧ btw ((upd T.2.1 t z) a) 0 60
  by_cases e : a = t
  · subst e
    rw [upd_self, upd_self]
    exact ⟨Or.inr hy, hz⟩
  · rw [upd_ne e, upd_ne e]
    exact h a ha
theorem pour_1 {T : TT} {V : VT} {t : Nat} : ∀ n, (pourV T V t n).1 = T.1 ∧ (pourV T V t n).2.1 = T.2.1
  | 0 => ⟨rfl, rfl⟩
  | n + 1 => pour_1 n
theorem TOK.same1 {T T' : TT} (h : TOK T) (h1 : T'.1 = T.1) (h2 : T'.2.1 = T.2.1) : TOK T' := by
  unfold TOK
  rw [h1, h2]
  exact h
theorem RCl.tray {w w' : Wst} {S : StT} {T' : TT} {t : Nat} (h : RCl w S) (ht : t < 4) (hs : ∀ a, a ≠ 63 + 2 * t → a ≠ 63 + 2 * t + 1 → same w w' a) (hT : TcR w' T') : RCl w' (S.1, T', S.2.2) := by
  obtain ⟨⟨i, ⟨hi, h0, h1⟩, hR⟩, -, hI, hP, hF⟩ := h
  have hs2 : ∀ a, a < 63 ∨ 70 < a → same w w' a := fun a ha => hs a (by omega) (by omega)
  refine ⟨⟨i, ⟨hi, ?_, ?_⟩, hR.sm (fun j hj => hs2 _ (by omega))⟩, hT, fun j hj => ?_, ⟨?_, fun k hk => ?_⟩, ?_, ?_⟩
  · rw [(hs2 0 (by omega)).2.1]; exact h0
  · rw [(hs2 0 (by omega)).2.1]; exact h1
  · rw [(hs2 72 (by omega)).2.2.1]
    exact ⟨(hI j hj).1, fun hm => ((hI j hj).2 hm).sm (fun a ha => hs2 _ (by omega))⟩
  · rw [(hs2 42 (by omega)).1]; exact hP.1
  · rw [(hs2 43 (by omega)).2.2.1]; exact hP.2 k hk
  · rw [(hs2 42 (by omega)).1]; exact hF.1
  · rw [(hs2 42 (by omega)).1]; exact hF.2
theorem kcl_t {w w' : Wst} {t : Nat} (ht : t < 4) (hs : ∀ a, a ≠ 63 + 2 * t → a ≠ 63 + 2 * t + 1 → same w w' a) : kcl w w' := fun a ha => hs a (by omega) (by omega)
/-- one number more in a tray of the class -/
theorem TcR.put {w : Wst} {T : TT} {t p : Nat} {v : Int64} (h : TcR w T) (ht : t < 4) (hp : p < 60) : TcR (sv w (63 + 2 * t + 1) (vp_updL (wl w (63 + 2 * t + 1)) p (cutV (T.1 t) v))) (putV T t p v) := by
  intro a ha
  obtain ⟨h1, h2, h3, h4⟩ := h a ha
  refine ⟨h1, h2, h3, fun k hk => ?_⟩
  show wl (sv w (63 + 2 * t + 1) _) (63 + 2 * a + 1) k = vp_updL T.2.2 (60 * t + p) (cutV (T.1 t) v) (60 * a + k)
  rw [wl_sv]
  by_cases e : a = t
  · subst e
    rw [if_pos rfl]
    by_cases ek : k = p
    · subst ek
      rw [updL_self, updL_self]
    · rw [updL_ne ek, updL_ne (by omega)]
      exact h4 k hk
  · rw [if_neg (by omega), updL_ne (by omega)]
    exact h4 k hk
def imin (x y : Int32) : Int32 := if x ≤ y then x else y
section W1
variable {S : StT} {T : TT}
variable {ga : Nat → Nat} {L : Nat} {xs : Nat → Int32} {d : Nat} {h : ac_H} {P : ac_P} {ad : Nat → Nat} {w : Wst} {i : Nat} {V : VT}
theorem c_min {x y : Int32} (hP : P (.inl (some (.int (imin x y)))) h) : WP ga L xs (d + 1) 255 [.int x, .int y] h P := by
  unfold imin at hP
  refine WP.enter kJ9_min_7cf53 (Nat.le_of_ble_eq_true rfl) (fun J hJ => ?_)
  refine hJ 0 _ _ rfl _ _ _ _ (x_iload rfl (x_iload rfl (x_br2 (fun q1 => have q1 := cy_gt q1; hJ 1 _ _ rfl _ _ _ _ (x_iload rfl (x_goto (hJ 2 _ _ rfl _ _ _ _ (x_iret (nrwI _) ?_))))) (fun q1 => have q1 := cn_gt q1; x_iload rfl (x_goto (hJ 2 _ _ rfl _ _ _ _ (x_iret (nrwI _) ?_)))))))
  · rw [if_neg (Int32.not_le.mpr q1)] at hP
    exact hP
  · rw [if_pos q1] at hP
    exact hP
theorem c_lay {r : Nat} {y z : Int32} (W : WW ad w h) (hr : isT r) (kk : ∀ h' w', WW ad w' h' → (∀ a, a ≠ r → a ≠ r + 1 → same w w' a) → wn w' r 0 = kI 1 → wn w' r 1 = y → wn w' r 2 = z → (∀ k, k < 60 → wl w' (r + 1) k = kL 0) → P (.inl none) h') : WP ga L xs (d + 1) 57 [.ref (ad r), .int y, .int z] h P := by
  refine WP.enter kX3_lay (Nat.le_of_ble_eq_true rfl) (fun J hJ => ?_)
  have loop : ∀ m, m ≤ 60 → ∀ h' w', WW ad w' h' → (∀ a, a ≠ r → a ≠ r + 1 → same w w' a) → wn w' r 0 = kI 1 → wn w' r 1 = y → wn w' r 2 = z → (∀ k, k < m → wl w' (r + 1) k = kL 0) → J 1 [some (.ref (ad r)), some (.int y), some (.int z), some (.int (kI (m : Int)))] [] h' (0, 0) := up_ind (fun m hm ih h0 w0 W0 hs a0 a1 a2 hE => ?_)
  · refine hJ 0 _ _ rfl _ _ _ _ (x_aload rfl (x_sipush (w_puti W 3 0 hr.lt hr.sh rfl rfl (okB1 rfl) (fun h1 W1 => x_aload rfl (x_iload rfl (w_puti W1 3 1 hr.lt hr.sh rfl rfl (okI rfl) (fun h2 W2 => x_aload rfl (x_iload rfl (w_puti W2 3 2 hr.lt hr.sh rfl rfl (okI rfl) (fun h3 W3 => x_sipush (x_istore rfl (x_goto (?_)))))))))))))
    exact loop 0 (Nat.zero_le _) _ _ W3 (fun a h1 h2 => ((same_sn h1).trans (same_sn h1)).trans (same_sn h1)) (by simp [wn_sn]) (by simp [wn_sn]) (by simp [wn_sn]) (fun k hk => by omega)
  refine hJ 1 _ _ rfl _ _ _ _ (x_iload rfl (x_sipush (x_br2 (fun q1 => have q1 := ge_y (n := 60) rfl (by omega) q1; hJ 2 _ _ rfl _ _ _ _ (x_vret rfl ?_)) (fun q1 => have q1 := ge_n (n := 60) rfl (by omega) q1; x_aload rfl (w_getr W0 3 3 (t := r + 1) hr.lt hr.sh rfl rfl (hr.rf _) (x_iload rfl (x_ldc2 (w_last W0 _ hr.lt1 hr.sh1 rfl (by omega) (by decide) (fun h1 W1 => x_iinc rfl rfl (x_goto (?_)))))))))))
  · exact kk h0 w0 W0 hs a0 a1 a2 (fun k hk => hE k (by omega))
  · refine J_c (ih q1 h1 _ W1 (fun a g1 g2 => (hs a g1 g2).trans (same_sv g2)) a0 a1 a2 (fun k hk => ?_)) (by simp only [sI, kN_succ])
    rw [wl_self]
    by_cases e : k = m
    · rw [e, updL_self]
      rfl
    · rw [updL_ne e]
      exact hE k (by omega)
theorem x_tray {x y z : Int32} (W : WW ad w h) (hS : RCl w S) (hO : SOK S) (kk : KCm ad P w [1, 0] (trayT x y z) none S (S.1, layV S.2.1 (tN x) y z, S.2.2)) : WP ga L xs (d + 4) 118 [.ref (ad 0), .int x, .int y, .int z] h P := by
  obtain ⟨i, hb, hR⟩ := hS.1
  have hC := hb.isC
  have hc := hb.2.1
  have hV := hO.1
  have hbi := hb.1
  have hw := hV.w.2
  have hT := hS.2.1
  have hTO := hO.2.1
  unfold trayT at kk
  refine WP.enter kX6_tray (Nat.le_of_ble_eq_true rfl) (fun J hJ => ?_)
  refine hJ 0 _ _ rfl _ _ _ _ (x_iload rfl (x_csb rfl (Nat.le_of_ble_eq_true rfl) ⟨by decide, by decide⟩ (c_reqTray (fun t1 => ?_) (fun t1 => xk_v (x_iload rfl (x_sipush (x_sipush (x_csb rfl (Nat.le_of_ble_eq_true rfl) ⟨by decide, by decide⟩ (c_reqWithin rfl rfl (by omega) (fun t2 => ?_) (fun t2 => xk_v (x_iload rfl (x_sipush (x_sipush (x_csb rfl (Nat.le_of_ble_eq_true rfl) ⟨by decide, by decide⟩ (c_reqWithin rfl rfl (by omega) (fun t3 => ?_) (fun t3 => xk_v (x_aload rfl (w_getr W 6 7 (t := 62) (by decide) shp_0 rfl rfl rfl (x_iload rfl (w_aald W (tN x) (by decide) shp_62 (by decide) (in_m (b := 3) t1).1 (tr_4 t1) (by decide) (x_eqr (rax62 (tN x)) (x_iload rfl (x_iload rfl (x_cv rfl (Nat.le_of_ble_eq_true rfl) (isO_W W (isT_of t1).lt (isT_of t1).sh) (c_lay W (isT_of t1) (fun h1 w1 W1 e0 a0 a1 a2 a3 => xk_v (x_vret rfl ?_)))))))))))))))))))))))))))
  · exact kk.no 0 (if_neg (by rw [t1]; decide)) W kcl_refl hS
  · exact kk.no 1 (by rw [if_pos t1, if_neg (fun z => by rw [t2] at z; cases z.1)]) W kcl_refl hS
  · exact kk.no 1 (by rw [if_pos t1, if_neg (fun z => by rw [t3] at z; cases z.2)]) W kcl_refl hS
  · have x4 := tr_4 t1
    have hy := of_decide_eq_true t2
    have hyn : ¬ y = kI (-1) := fun e => by
      rw [e, show (kI (-1)).toInt = -1 from rfl] at hy
      omega
    refine kk.yes (by rw [if_pos t1, if_pos ⟨t2, t3⟩]) W1 (kcl_t x4 e0) (hS.tray x4 e0 (fun a ha => ?_))
    show wn w1 (63 + 2 * a) 0 = bI (decide (¬ (upd S.2.1.1 (tN x) y) a = kI (-1))) ∧ (¬ (upd S.2.1.1 (tN x) y) a = kI (-1) → wn w1 (63 + 2 * a) 1 = (upd S.2.1.1 (tN x) y) a) ∧ wn w1 (63 + 2 * a) 2 = (upd S.2.1.2.1 (tN x) z) a ∧ ∀ k, k < 60 → wl w1 (63 + 2 * a + 1) k = if 60 * tN x ≤ 60 * a + k ∧ 60 * a + k < 60 * tN x + 60 then kL 0 else S.2.1.2.2 (60 * a + k)
    by_cases e : a = tN x
    · subst e
      rw [upd_self, upd_self, decide_eq_true hyn]
      exact ⟨a0, fun _ => a1, a2, fun k hk => by rw [if_pos (by omega)]; exact a3 k hk⟩
    · rw [upd_ne e, upd_ne e, (e0 (63 + 2 * a) (by omega) (by omega)).1, (e0 (63 + 2 * a + 1) (by omega) (by omega)).2.2.2]
      obtain ⟨b0, b1', b2, b3⟩ := hT a ha
      exact ⟨b0, b1', b2, fun k hk => by rw [if_neg (by omega)]; exact b3 k hk⟩
theorem c_cut {r : Nat} {y : Int32} {v : Int64} (W : WW ad w h) (hr : isT r) (he : wn w r 1 = y) (hy : btw y 0 3) (hP : P (.inl (some (.long (cutV y v)))) h) : WP ga L xs (d + 1) 59 [.ref (ad r), .long v] h P := by
  unfold cutV at hP
  refine WP.enter kX3_cut (Nat.le_of_ble_eq_true rfl) (fun J hJ => ?_)
  rcases in03 hy with e | e | e | e
  · rw [if_pos e] at hP
    refine hJ 0 _ _ rfl _ _ _ _ (x_aload rfl (w_geti W 3 1 hr.lt hr.sh rfl rfl (x_ts (b := 1) (by rw [he, e]; rfl) (hJ 1 _ _ rfl _ _ _ _ (x_lload rfl (x_l2i (x_i2b (x_i2l (x_lret rfl ?_)))))))))
    exact hP
  · rw [if_neg (by rw [e]; decide), if_pos e] at hP
    refine hJ 0 _ _ rfl _ _ _ _ (x_aload rfl (w_geti W 3 1 hr.lt hr.sh rfl rfl (x_ts (b := 2) (by rw [he, e]; rfl) (hJ 2 _ _ rfl _ _ _ _ (x_lload rfl (x_l2i (x_i2s (x_i2l (x_lret rfl ?_)))))))))
    exact hP
  · rw [if_neg (by rw [e]; decide), if_neg (by rw [e]; decide), if_pos e] at hP
    refine hJ 0 _ _ rfl _ _ _ _ (x_aload rfl (w_geti W 3 1 hr.lt hr.sh rfl rfl (x_ts (b := 3) (by rw [he, e]; rfl) (hJ 3 _ _ rfl _ _ _ _ (x_lload rfl (x_l2i (x_i2l (x_lret rfl ?_))))))))
    exact hP
  · rw [if_neg (by rw [e]; decide), if_neg (by rw [e]; decide), if_neg (by rw [e]; decide)] at hP
    refine hJ 0 _ _ rfl _ _ _ _ (x_aload rfl (w_geti W 3 1 hr.lt hr.sh rfl rfl (x_ts (b := 4) (by rw [he, e]; rfl) (hJ 4 _ _ rfl _ _ _ _ (x_lload rfl (x_lret rfl ?_))))))
    exact hP
theorem c_put {r p : Nat} {x y : Int32} {v : Int64} (W : WW ad w h) (hr : isT r) (hx : x = kI (p : Int)) (hp : p < 60) (he : wn w r 1 = y) (hy : btw y 0 3) (kk : ∀ h', WW ad (sv w (r + 1) (vp_updL (wl w (r + 1)) p (cutV y v))) h' → P (.inl (some (.long (cutV y v)))) h') : WP ga L xs (d + 2) 58 [.ref (ad r), .int x, .long v] h P := by
  refine WP.enter kX3_put (Nat.le_of_ble_eq_true rfl) (fun J hJ => ?_)
  refine hJ 0 _ _ rfl _ _ _ _ (x_aload rfl (w_getr W 3 3 (t := r + 1) hr.lt hr.sh rfl rfl (hr.rf _) (x_iload rfl (x_aload rfl (x_lload rfl (x_cv rfl (Nat.le_of_ble_eq_true rfl) (isO_W W hr.lt hr.sh) (c_cut W hr he hy (xk_go (w_last W p hr.lt1 hr.sh1 hx (by omega) (by decide) (fun h1 W1 => x_aload rfl (w_getr W1 3 3 (t := r + 1) hr.lt hr.sh rfl rfl (hr.rf _) (x_iload rfl (w_lald W1 p hr.lt1 hr.sh1 hx (by omega) (by decide) (x_lret rfl ?_))))))))))))))
  rw [wl_self, updL_self]
  exact kk _ W1
theorem x_write {x y : Int32} {v : Int64} (W : WW ad w h) (hS : RCl w S) (hO : SOK S) (kk : KCm ad P w [1, 2, 3] (writT S.2.1 x y) (some (.long (cutV (S.2.1.1 (tN x)) v))) S (S.1, putV S.2.1 (tN x) (tN y) v, S.2.2)) : WP ga L xs (d + 4) 119 [.ref (ad 0), .int x, .int y, .long v] h P := by
  obtain ⟨i, hb, hR⟩ := hS.1
  have hC := hb.isC
  have hc := hb.2.1
  have hV := hO.1
  have hbi := hb.1
  have hw := hV.w.2
  have hT := hS.2.1
  have hTO := hO.2.1
  unfold writT at kk
  have z0 : (0 : Int32).toInt = 0 := rfl
  have hno0 : inV x 0 3 = true → ¬ S.2.1.1 (tN x) = kI (-1) → laidT S.2.1 x = 0 := fun h1 h2 => by
    unfold laidT
    rw [if_pos h1, if_neg h2]
  have hl1 : inV x 0 3 = false → laidT S.2.1 x = 1 := fun h => by
    unfold laidT
    exact if_neg (by rw [h]; decide)
  have hl2 : inV x 0 3 = true → S.2.1.1 (tN x) = kI (-1) → laidT S.2.1 x = 2 := fun h g => by
    unfold laidT
    rw [if_pos h, if_pos g]
  have hso : inV x 0 3 = true → ¬ S.2.1.1 (tN x) = kI (-1) → wn w (63 + 2 * tN x) 1 = S.2.1.1 (tN x) ∧ btw (S.2.1.1 (tN x)) 0 3 := fun h1 h2 => ⟨(hT _ (tr_4 h1)).2.1 h2, ((hTO _ (tr_4 h1)).1).resolve_left h2⟩
  have hmn : inV x 0 3 = true → (wn w (63 + 2 * tN x) 2).toInt = trM S.2.1 (tN x) ∧ trM S.2.1 (tN x) ≤ 60 := fun h1 => by
    have hh := hTO.m (tr_4 h1)
    rw [(hT _ (tr_4 h1)).2.2.1, hh.1, kN_toInt (by omega)]
    exact ⟨rfl, hh.2⟩
  have hiy : inV x 0 3 = true → 0 ≤ y → y < wn w (63 + 2 * tN x) 2 → inV y 0 ((trM S.2.1 (tN x) : Int) - 1) = true := fun h1 q1 q2 => by
    rw [Int32.le_iff_toInt_le, z0] at q1
    rw [Int32.lt_iff_toInt_lt, (hmn h1).1] at q2
    exact decide_eq_true ⟨q1, by omega⟩
  have hyp : inV x 0 3 = true → 0 ≤ y → y < wn w (63 + 2 * tN x) 2 → y = kI (tN y : Int) ∧ tN y < 60 := fun h1 q1 q2 => by
    have h9 := of_decide_eq_true (hiy h1 q1 q2)
    have h8 := (hmn h1).2
    unfold tN
    exact ⟨by rw [Int.toNat_of_nonneg h9.1, kI_of], by omega⟩
  refine WP.enter kX6_write (Nat.le_of_ble_eq_true rfl) (fun J hJ => ?_)
  refine hJ 0 _ _ rfl _ _ _ _ (x_aload rfl (x_iload rfl (x_cvb rfl (Nat.le_of_ble_eq_true rfl) (isO_W W (by decide) shp_0) ⟨by decide, by decide⟩ (c_laidTray W hT (fun t1 => ?_) (fun t1 t2 => ?_) (fun t1 t2 => xk_go (x_astore rfl (x_iload rfl (x_br (fun q1 => have q1 := cy_lt q1; hJ 1 _ _ rfl _ _ _ _ (x_thr ⟨by decide, by decide⟩ (Nat.le_of_ble_eq_true rfl) (by decide) ?_)) (fun q1 => have q1 := cn_lt q1; x_iload rfl (x_aload rfl (w_geti W 3 2 (isT_of t1).lt (isT_of t1).sh rfl rfl (x_br2 (fun q2 => have q2 := cy_lt q2; hJ 2 _ _ rfl _ _ _ _ (x_aload rfl (x_iload rfl (x_lload rfl (x_cv rfl (Nat.le_of_ble_eq_true rfl) (isO_W W (isT_of t1).lt (isT_of t1).sh) (c_put W (isT_of t1) (hyp t1 q1 q2).1 (hyp t1 q1 q2).2 (hso t1 t2).1 (hso t1 t2).2 (fun h1 W1 => xk_go (x_lret rfl ?_)))))))) (fun q2 => have q2 := cn_lt q2; x_goto (hJ 1 _ _ rfl _ _ _ _ (x_thr ⟨by decide, by decide⟩ (Nat.le_of_ble_eq_true rfl) (by decide) ?_)))))))))))))))
  · exact kk.no 0 (by rw [hl1 t1]; rfl) W kcl_refl hS
  · exact kk.no 1 (by rw [hl2 t1 t2]; rfl) W kcl_refl hS
  · refine kk.no 2 (by
      rw [if_pos (hno0 t1 t2), if_neg (fun z => ?_)]
      have z := of_decide_eq_true z
      rw [Int32.lt_iff_toInt_lt, z0] at q1
      omega) W kcl_refl hS
  · exact kk.yes (by rw [if_pos (hno0 t1 t2), if_pos (hiy t1 q1 q2)]) W1 (kcl_t (tr_4 t1) (fun a g1 g2 => same_sv g2)) (hS.tray (tr_4 t1) (fun a g1 g2 => same_sv g2) (hT.put (tr_4 t1) (hyp t1 q1 q2).2))
  · refine kk.no 2 (by
      rw [if_pos (hno0 t1 t2), if_neg (fun z => ?_)]
      have z := of_decide_eq_true z
      rw [Int32.le_iff_toInt_le, (hmn t1).1] at q2
      omega) W kcl_refl hS
theorem min_N {a b : Nat} (ha : a ≤ 100000) (hb : b ≤ 100000) : imin (kI (a : Int)) (kI (b : Int)) = kI (((if a ≤ b then a else b) : Nat) : Int) := by
  unfold imin
  by_cases h : a ≤ b
  · rw [if_pos ((kN_le (by omega) (by omega)).mpr h), if_pos h]
  · rw [if_neg (fun z => h ((kN_le (by omega) (by omega)).mp z)), if_neg h]
theorem x_pour {x : Int32} (W : WW ad w h) (hS : RCl w S) (hO : SOK S) (kk : KCm ad P w [1, 2] (laidT S.2.1 x) (some (.int (kI (pourN S.2.1 S.1 (tN x) : Int)))) S (S.1, pourV S.2.1 S.1 (tN x) (pourN S.2.1 S.1 (tN x)), S.2.2)) : WP ga L xs (d + 4) 120 [.ref (ad 0), .int x] h P := by
  obtain ⟨i, hb, hR⟩ := hS.1
  have hC := hb.isC
  have hc := hb.2.1
  have hV := hO.1
  have hbi := hb.1
  have hw := hV.w.2
  have hT := hS.2.1
  have hTO := hO.2.1
  have hno0 : inV x 0 3 = true → ¬ S.2.1.1 (tN x) = kI (-1) → laidT S.2.1 x = 0 := fun h1 h2 => by
    unfold laidT
    rw [if_pos h1, if_neg h2]
  have hl1 : inV x 0 3 = false → laidT S.2.1 x = 1 := fun h => by
    unfold laidT
    exact if_neg (by rw [h]; decide)
  have hl2 : inV x 0 3 = true → S.2.1.1 (tN x) = kI (-1) → laidT S.2.1 x = 2 := fun h g => by
    unfold laidT
    rw [if_pos h, if_pos g]
  refine WP.enter kX6_pour (Nat.le_of_ble_eq_true rfl) (fun J hJ => ?_)
  have loop : inV x 0 3 = true → ¬ S.2.1.1 (tN x) = kI (-1) → ∀ bg m, m ≤ pourN S.2.1 S.1 (tN x) → ∀ h' w', WW ad w' h' → (∀ a, a ≠ 63 + 2 * tN x → a ≠ 63 + 2 * tN x + 1 → same w w' a) → TcR w' (pourV S.2.1 S.1 (tN x) m) → J 1 [some (.ref (ad 0)), some (.int x), some (.ref (ad (63 + 2 * tN x))), some (.int (kI (pourN S.2.1 S.1 (tN x) : Int))), some (.int (kI (m : Int)))] [] h' bg := by
    intro t1 t2 bg
    have x4 := tr_4 t1
    have hm9 := hTO.m x4
    have hpn : pourN S.2.1 S.1 (tN x) ≤ trM S.2.1 (tN x) ∧ pourN S.2.1 S.1 (tN x) ≤ wk S.1 := by
      unfold pourN
      split <;> omega
    refine up_ind (fun m hm ih h0 w0 W0 hs hT0 => ?_)
    have hs5 : wa w0 (i + 4) = wa w (i + 4) := (hs (i + 4) (by omega) (by omega)).2.2.1
    have hp1 := pour_1 (T := S.2.1) (V := S.1) (t := tN x) m
    have hso : wn w0 (63 + 2 * tN x) 1 = S.2.1.1 (tN x) ∧ btw (S.2.1.1 (tN x)) 0 3 := ⟨by
      have h9 := (hT0 _ x4).2.1
      rw [hp1.1] at h9
      exact h9 t2, ((hTO _ x4).1).resolve_left t2⟩
    refine hJ 1 _ _ rfl _ _ _ _ (x_iload rfl (x_iload rfl (x_br2 (fun q1 => have q1 := ge_y rfl (by omega) q1; hJ 2 _ _ rfl _ _ _ _ (x_iload rfl (x_iret (nrwI _) ?_))) (fun q1 => have q1 := ge_n rfl (by omega) q1; x_aload rfl (x_iload rfl (x_aload rfl (w_getr W0 6 0 (t := i) (by decide) shp_0 rfl rfl ((congrFun (hs 0 (by omega) (by omega)).2.1 0).trans hc) (w_getr W0 0 13 (t := i + 4) hC.lt hC.sh rfl rfl (hC.rf4 _) (x_iload rfl (w_iald W0 m hC.lt4 hC.sh4 rfl (by omega) (by decide) (x_i2l (x_cv rfl (Nat.le_of_ble_eq_true rfl) (isO_W W0 (isT_of t1).lt (isT_of t1).sh) (c_put W0 (isT_of t1) rfl (by omega) hso.1 hso.2 (fun h1 W1 => xk_go (x_pop2 (x_iinc rfl rfl (x_goto (?_))))))))))))))))))
    · have e : m = pourN S.2.1 S.1 (tN x) := by omega
      rw [e] at hT0
      exact kk.yes (hno0 t1 t2) W0 (kcl_t x4 hs) (hS.tray x4 hs hT0)
    · have ev : wa w0 (i + 4) m = vS S.1 m := by
        rw [hs5]
        exact hR.2.2.1 m (by omega)
      rw [ev] at W1
      have h9 := hT0.put (v := (vS S.1 m).toInt64) x4 (show m < 60 by omega)
      rw [hp1.1] at h9
      exact J_c (ih q1 h1 _ W1 (fun a g1 g2 => (hs a g1 g2).trans (same_sv g2)) h9) (by simp only [sI, kN_succ])
  refine hJ 0 _ _ rfl _ _ _ _ (x_aload rfl (x_iload rfl (x_cvb rfl (Nat.le_of_ble_eq_true rfl) (isO_W W (by decide) shp_0) ⟨by decide, by decide⟩ (c_laidTray W hT (fun t1 => ?_) (fun t1 t2 => ?_) (fun t1 t2 => xk_go (x_astore rfl (x_aload rfl (w_geti W 3 2 (isT_of t1).lt (isT_of t1).sh rfl rfl (x_aload rfl (w_getr W 6 0 (t := i) (by decide) shp_0 rfl rfl hc (w_geti W 0 6 hC.lt hC.sh rfl rfl (x_cs rfl (Nat.le_of_ble_eq_true rfl) (c_min (xk_go (x_istore rfl (x_sipush (x_istore rfl (x_goto (?_)))))))))))))))))))
  · exact kk.no 0 (hl1 t1) W kcl_refl hS
  · exact kk.no 1 (hl2 t1 t2) W kcl_refl hS
  · have x4 := tr_4 t1
    have hm9 := hTO.m x4
    rw [(hT _ x4).2.2.1, hm9.1, hR.w hV, min_N (by omega) (by omega)]
    exact loop t1 t2 _ 0 (Nat.zero_le _) _ _ W (fun a _ _ => same_refl) hT
end W1
