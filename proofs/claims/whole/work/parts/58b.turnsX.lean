/-! ===== turns: the class's methods ===== -/
def oT (T : TT) (t p : Nat) : Nat := lNt (T.2.2 (60 * t + p))
def tkn (o : Nat → Nat) (p : Nat) : Int32 := fo (fun p s => s ||| b1 (o p)) (kI 0) p
def ordB (T : TT) (V : VT) (t p : Nat) : Bool := decide (0 ≤ (T.2.2 (60 * t + p)).toInt ∧ (T.2.2 (60 * t + p)).toInt < nm V) && !hb (tkn (oT T t) p) (oT T t p)
abbrev ordOK (T : TT) (V : VT) (t : Nat) : Prop := T.2.1 t = V 4 ∧ ∀ p, p < nm V → ordB T V t p = true
def tuT (T : TT) (V : VT) (x y : Int32) : Nat := if laidT T x = 0 then (if inV y 0 1 = true ∧ decide (ordOK T V (tN x)) = true then 0 else 3) else laidT T x
def tuV (T : TT) (V : VT) (x y : Int32) : Int32 := if y = kI 0 then turV V (oT T (tN x)) else fstV V (oT T (tN x)) (turV V (oT T (tN x)))
theorem ord_is {T : TT} {V : VT} {t p : Nat} (hn : nm V ≤ 12) (h0 : 0 ≤ (T.2.2 (60 * t + p)).toInt) (h1 : (T.2.2 (60 * t + p)).toInt < nm V) : T.2.2 (60 * t + p) = kL (oT T t p : Int) ∧ (T.2.2 (60 * t + p)).toInt32 = kI (oT T t p : Int) ∧ oT T t p < nm V := by
  have e : T.2.2 (60 * t + p) = kL (oT T t p : Int) := by
    unfold oT lNt
    rw [Int.toNat_of_nonneg h0, kL_of]
  refine ⟨e, ?_, by unfold oT lNt; omega⟩
  have e2 : (kL (oT T t p : Int)).toInt32 = kI (oT T t p : Int) := l2i_k
  rw [← e] at e2
  exact e2
theorem ordB_is {T : TT} {V : VT} {t p : Nat} (hn : nm V ≤ 12) (h : ordB T V t p = true) : T.2.2 (60 * t + p) = kL (oT T t p : Int) ∧ (T.2.2 (60 * t + p)).toInt32 = kI (oT T t p : Int) ∧ oT T t p < nm V := by
  unfold ordB at h
  rw [Bool.and_eq_true] at h
  have h1 := of_decide_eq_true h.1
  exact ord_is hn h1.1 h1.2
theorem tkn_has {o : Nat → Nat} {N : Nat} (ho : ∀ p, p < N → o p < 12) : ∀ p, p ≤ N → ∀ p', p' < p → hb (tkn o p) (o p') = true
  | 0, _, p', h => by omega
  | p + 1, hp, p', h => by
    show hb (tkn o p ||| b1 (o p)) (o p') = true
    rw [hb_set (by have := ho p (by omega); omega)]
    by_cases e : p' = p
    · subst e
      simp
    · rw [tkn_has ho p (by omega) p' (by omega)]
      rfl
theorem lo45 : ∀ a ∈ [45], a ∈ SC := by decide
section W1
variable {o : Nat → Nat} {T : TT}
variable {ga : Nat → Nat} {L : Nat} {xs : Nat → Int32} {d : Nat} {h : ac_H} {P : ac_P} {ad : Nat → Nat} {w : Wst} {i : Nat} {V : VT}
theorem x_inTurn (W : WW ad w h) (hC : isC i) (hR : CR w i V) (hV : VOK V) (hc : wr w 0 0 = i) (kk : KC ad P w [] 0 (.int (turV V (fun p => p)))) : WP ga L xs (d + 4) 91 [.ref (ad 0)] h P := by
  have hn := hV.n.2
  refine WP.enter kX6_inTurn (Nat.le_of_ble_eq_true rfl) (fun J hJ => ?_)
  have loop : ∀ m, m ≤ nm V → ∀ h' w', WW ad w' h' → kp [45] w w' → (∀ p, p < m → wa w' 45 p = kI (p : Int)) → J 1 [some (.ref (ad 0)), some (.int (kI (m : Int)))] [] h' (0, 0) := up_ind (fun m hm ih h0 w0 W0 hk hE => ?_)
  · refine hJ 0 _ _ rfl _ _ _ _ (x_sipush (x_istore rfl (x_goto (?_))))
    exact loop 0 (Nat.zero_le _) _ _ W kp_refl (fun p hp => by omega)
  have hR0 : CR w0 i V := hR.far hk hC (by simp)
  have en0 : wn w0 i 4 = kI (nm V : Int) := hR0.n hV
  refine hJ 1 _ _ rfl _ _ _ _ (x_iload rfl (x_aload rfl (w_getr W0 6 0 (t := i) (by decide) shp_0 rfl rfl ((congrFun (hk 0 (by decide)).2.1 0).trans hc) (w_geti W0 0 4 hC.lt hC.sh rfl rfl (x_br2 (fun q1 => have q1 := ge_y en0 (by omega) q1; hJ 2 _ _ rfl _ _ _ _ (x_aload rfl (w_getr W0 6 5 (t := 44) (by decide) shp_0 rfl rfl rfl (x_aload rfl (w_getr W0 6 0 (t := i) (by decide) shp_0 rfl rfl ((congrFun (hk 0 (by decide)).2.1 0).trans hc) (x_cv rfl (Nat.le_of_ble_eq_true rfl) (isO_W W0 (by decide) shp_44) (c_play (o := fun p => p) W0 hC hR0 hV (fun p hp => ⟨hE p (by omega), hp⟩) (fun h1 w1 W1 e1 => xk_go (x_iret (nrwI _) ?_))))))))) (fun q1 => have q1 := ge_n en0 (by omega) q1; x_aload rfl (w_getr W0 6 5 (t := 44) (by decide) shp_0 rfl rfl rfl (w_getr W0 4 0 (t := 45) (by decide) shp_44 rfl rfl rfl (x_iload rfl (x_iload rfl (w_iast W0 m (by decide) shp_45 rfl (by omega) (by decide) (fun h2 W2 => x_iinc rfl rfl (x_goto (?_))))))))))))))
  · exact kk.yes rfl W1 ((hk.mono lo45).trans (e1.mono lE_SC))
  · refine J_c (ih q1 h2 _ W2 (hk.trans (kp_sa (by simp))) (fun p hp => ?_)) (by simp only [sI, kN_succ])
    rw [wa_self]
    by_cases e : p = m
    · rw [e, upd_self]
    · rw [upd_ne e]
      exact hE p (by omega)
theorem c_takeOrder {x : Int32} (W : WW ad w h) (hC : isC i) (hR : CR w i V) (hV : VOK V) (hc : wr w 0 0 = i) (hT : TcR w T) (t1 : inV x 0 3 = true) (k1 : ¬ ordOK T V (tN x) → ∀ h' w', WW ad w' h' → kp [45] w w' → P (.inr 0) h') (k0 : ordOK T V (tN x) → ∀ h' w', WW ad w' h' → kp [45] w w' → (∀ p, p < nm V → wa w' 45 p = kI (oT T (tN x) p : Int) ∧ oT T (tN x) p < nm V) → P (.inl none) h') : WP ga L xs (d + 2) 93 [.ref (ad 0), .ref (ad (63 + 2 * tN x))] h P := by
  have hn := hV.n.2
  have x4 := tr_4 t1
  have hTt := hT (tN x) x4
  have ei : wn w i 4 = V 4 := (hR.n hV).trans hV.n.1.symm
  refine WP.enter kX6_takeOrder (Nat.le_of_ble_eq_true rfl) (fun J hJ => ?_)
  have loop : T.2.1 (tN x) = V 4 → ∀ m, m ≤ nm V → ∀ h' w' z4 z5, WW ad w' h' → kp [45] w w' → (∀ j, j < m → ordB T V (tN x) j = true) → (∀ j, j < m → wa w' 45 j = kI (oT T (tN x) j : Int)) → J 2 [some (.ref (ad 0)), some (.ref (ad (63 + 2 * tN x))), some (.int (tkn (oT T (tN x)) m)), some (.int (kI (m : Int))), z4, z5] [] h' (0, 0) := fun hm0 => up_ind (fun m hm ih h0 w0 z4 z5 W0 hk hal hE => ?_)
  · refine hJ 0 _ _ rfl _ _ _ _ (x_aload rfl (w_geti W 3 2 (isT_of t1).lt (isT_of t1).sh rfl rfl (x_aload rfl (w_getr W 6 0 (t := i) (by decide) shp_0 rfl rfl hc (w_geti W 0 4 hC.lt hC.sh rfl rfl (x_br2 (fun q1 => have q1 := cy_eq q1; hJ 1 _ _ rfl _ _ _ _ (x_sipush (x_istore rfl (x_sipush (x_istore rfl (x_goto (?_))))))) (fun q1 => have q1 := cn_eq q1; x_thr ⟨by decide, by decide⟩ (Nat.le_of_ble_eq_true rfl) (by decide) ?_)))))))
    · rw [hTt.2.2.1, ei] at q1
      exact loop q1 0 (Nat.zero_le _) _ _ _ _ W kp_refl (fun j hj => by omega) (fun j hj => by omega)
    · rw [hTt.2.2.1, ei] at q1
      exact k1 (fun z => q1 z.1) _ _ W kp_refl
  have hR0 : CR w0 i V := hR.far hk hC (by simp)
  have en0 : wn w0 i 4 = kI (nm V : Int) := hR0.n hV
  have hval : m < nm V → wl w0 (63 + 2 * tN x + 1) m = T.2.2 (60 * tN x + m) := fun h9 => by
    rw [(hk (63 + 2 * tN x + 1) (by simp; omega)).2.2.2]
    exact hTt.2.2.2 m (by omega)
  have hn64 : (wn w0 i 4).toInt64.toInt = nm V := by rw [en0, toInt64_toInt, kN_toInt (by omega)]
  have z64 : (Int64.ofNat 0).toInt = 0 := rfl
  have hq2y : m < nm V → lg_cmp (wl w0 (63 + 2 * tN x + 1) m) (Int64.ofNat 0) < 0 → (T.2.2 (60 * tN x + m)).toInt < 0 := fun h9 q => by
    rw [hval h9, lg_lt, z64] at q
    exact q
  have hq2n : m < nm V → ¬ lg_cmp (wl w0 (63 + 2 * tN x + 1) m) (Int64.ofNat 0) < 0 → 0 ≤ (T.2.2 (60 * tN x + m)).toInt := fun h9 q => by
    rw [hval h9, lg_lt, z64] at q
    omega
  have hq3y : m < nm V → 0 ≤ lg_cmp (wl w0 (63 + 2 * tN x + 1) m) (wn w0 i 4).toInt64 → (nm V : Int) ≤ (T.2.2 (60 * tN x + m)).toInt := fun h9 q => by
    rw [← Int32.not_lt, hval h9, lg_lt, hn64] at q
    omega
  have hq3n : m < nm V → ¬ 0 ≤ lg_cmp (wl w0 (63 + 2 * tN x + 1) m) (wn w0 i 4).toInt64 → (T.2.2 (60 * tN x + m)).toInt < nm V := fun h9 q => by
    rw [← Int32.not_lt, Decidable.not_not, hval h9, lg_lt, hn64] at q
    exact q
  have hv : m < nm V → 0 ≤ (T.2.2 (60 * tN x + m)).toInt → (T.2.2 (60 * tN x + m)).toInt < nm V → (wl w0 (63 + 2 * tN x + 1) m).toInt32 = kI (oT T (tN x) m : Int) ∧ oT T (tN x) m < nm V := fun h9 h1 h2 => by
    rw [hval h9]
    exact (ord_is hn h1 h2).2
  have est : tkn (oT T (tN x)) (m + 1) = tkn (oT T (tN x)) m ||| b1 (oT T (tN x) m) := rfl
  refine hJ 2 _ _ rfl _ _ _ _ (x_iload rfl (x_aload rfl (w_getr W0 6 0 (t := i) (by decide) shp_0 rfl rfl ((congrFun (hk 0 (by decide)).2.1 0).trans hc) (w_geti W0 0 4 hC.lt hC.sh rfl rfl (x_br2 (fun q1 => have q1 := ge_y en0 (by omega) q1; hJ 5 _ _ rfl _ _ _ _ (x_vret rfl ?_)) (fun q1 => have q1 := ge_n en0 (by omega) q1; x_aload rfl (w_getr W0 3 3 (t := (63 + 2 * tN x) + 1) (isT_of t1).lt (isT_of t1).sh rfl rfl ((isT_of t1).rf _) (x_iload rfl (w_lald W0 m (isT_of t1).lt1 (isT_of t1).sh1 rfl (by omega) (by decide) (x_lstore rfl (x_lload rfl (x_ldc2 (x_lcmp (x_br (fun q2 => have q2 := hq2y q1 q2; hJ 3 _ _ rfl _ _ _ _ (x_thr ⟨by decide, by decide⟩ (Nat.le_of_ble_eq_true rfl) (by decide) ?_)) (fun q2 => have q2 := hq2n q1 q2; x_lload rfl (x_aload rfl (w_getr W0 6 0 (t := i) (by decide) shp_0 rfl rfl ((congrFun (hk 0 (by decide)).2.1 0).trans hc) (w_geti W0 0 4 hC.lt hC.sh rfl rfl (x_i2l (x_lcmp (x_br (fun q3 => have q3 := hq3y q1 q3; hJ 3 _ _ rfl _ _ _ _ (x_thr ⟨by decide, by decide⟩ (Nat.le_of_ble_eq_true rfl) (by decide) ?_)) (fun q3 => have q3 := hq3n q1 q3; x_aload rfl (w_getr W0 6 0 (t := i) (by decide) shp_0 rfl rfl ((congrFun (hk 0 (by decide)).2.1 0).trans hc) (x_iload rfl (x_lload rfl (x_l2i (x_cv rfl (Nat.le_of_ble_eq_true rfl) (isO_W W0 hC.lt hC.sh) (c_has (hv q1 q2 q3).1 (by have := (hv q1 q2 q3).2; omega) (xk_go (x_br (fun q4 => have q4 := bI_eq0.mp q4; hJ 4 _ _ rfl _ _ _ _ (x_iload rfl (x_sipush (x_lload rfl (x_l2i (x_ishl (x_ior (x_istore rfl (x_aload rfl (w_getr W0 6 5 (t := 44) (by decide) shp_0 rfl rfl rfl (w_getr W0 4 0 (t := 45) (by decide) shp_44 rfl rfl rfl (x_iload rfl (x_lload rfl (x_l2i (w_iast W0 m (by decide) shp_45 rfl (by omega) (by decide) (fun h1 W1 => x_iinc rfl rfl (x_goto (?_)))))))))))))))))) (fun q4 => have q4 := bI_ne0.mp q4; x_goto (hJ 3 _ _ rfl _ _ _ _ (x_thr ⟨by decide, by decide⟩ (Nat.le_of_ble_eq_true rfl) (by decide) ?_)))))))))))))))))))))))))))))))))
  · have e : m = nm V := by omega
    subst e
    exact k0 ⟨hm0, hal⟩ h0 w0 W0 hk (fun p hp => ⟨hE p hp, (ordB_is hn (hal p hp)).2.2⟩)
  · exact k1 (fun z => by
      have z2 := z.2 m q1
      unfold ordB at z2
      rw [Bool.and_eq_true] at z2
      have := of_decide_eq_true z2.1
      omega) _ _ W0 hk
  · exact k1 (fun z => by
      have z2 := z.2 m q1
      unfold ordB at z2
      rw [Bool.and_eq_true] at z2
      have := of_decide_eq_true z2.1
      omega) _ _ W0 hk
  · have hv2 := hv q1 q2 q3
    have hob : ordB T V (tN x) m = true := by
      unfold ordB
      rw [decide_eq_true ⟨q2, q3⟩, q4]
      rfl
    have hsh : kI 1 <<< ((wl w0 (63 + 2 * tN x + 1) m).toInt32 &&& 31) = b1 (oT T (tN x) m) := by
      rw [hv2.1, shl1 _ (by omega)]
    refine J_c (ih q1 h1 _ (some (.long (wl w0 (63 + 2 * tN x + 1) m))) none W1 (hk.trans (kp_sa (by simp))) (fun j hj => ?_) (fun j hj => ?_)) ?_
    · by_cases ej : j = m
      · rw [ej]; exact hob
      · exact hal j (by omega)
    · rw [wa_self]
      by_cases ej : j = m
      · rw [ej, upd_self, hv2.1]
      · rw [upd_ne ej]
        exact hE j (by omega)
    · rw [est, hsh]
      simp only [sI, kN_succ]
  · exact k1 (fun z => by
      have z2 := z.2 m q1
      unfold ordB at z2
      rw [q4, Bool.not_true, Bool.and_false] at z2
      cases z2) _ _ W0 hk
theorem x_turnsBy {x y : Int32} (W : WW ad w h) (hC : isC i) (hR : CR w i V) (hV : VOK V) (hc : wr w 0 0 = i) (hT : TcR w T) (kk : KC ad P w [1, 2, 0] (tuT T V x y) (.int (tuV T V x y))) : WP ga L xs (d + 4) 92 [.ref (ad 0), .int x, .int y] h P := by
  have hn := hV.n.2
  unfold tuT tuV at kk
  have hno0 : inV x 0 3 = true → ¬ T.1 (tN x) = kI (-1) → laidT T x = 0 := fun h1 h2 => by
    unfold laidT
    rw [if_pos h1, if_neg h2]
  have hl1 : inV x 0 3 = false → laidT T x = 1 := fun h => by
    unfold laidT
    exact if_neg (by rw [h]; decide)
  have hl2 : inV x 0 3 = true → T.1 (tN x) = kI (-1) → laidT T x = 2 := fun h g => by
    unfold laidT
    rw [if_pos h, if_pos g]
  refine WP.enter kX6_turnsBy (Nat.le_of_ble_eq_true rfl) (fun J hJ => ?_)
  refine hJ 0 _ _ rfl _ _ _ _ (x_aload rfl (x_iload rfl (x_cvb rfl (Nat.le_of_ble_eq_true rfl) (isO_W W (by decide) shp_0) ⟨by decide, by decide⟩ (c_laidTray W hT (fun t1 => ?_) (fun t1 t2 => ?_) (fun t1 t2 => xk_go (x_astore rfl (x_iload rfl (x_sipush (x_sipush (x_csb rfl (Nat.le_of_ble_eq_true rfl) ⟨by decide, by decide⟩ (c_reqWithin rfl rfl (by omega) (fun t3 => ?_) (fun t3 => xk_v (x_aload rfl (x_aload rfl (x_cvb rfl (Nat.le_of_ble_eq_true rfl) (isO_W W (by decide) shp_0) ⟨by decide, by decide⟩ (c_takeOrder W hC hR hV hc hT t1 (fun t4 h4 w4 W4 e4 => ?_) (fun t4 h1 w1 W1 e5 c5 => xk_v (x_aload rfl (w_getr W1 6 5 (t := 44) (by decide) shp_0 rfl rfl rfl (x_aload rfl (w_getr W1 6 0 (t := i) (by decide) shp_0 rfl rfl ((congrFun (e5 0 (by simp)).2.1 0).trans hc) (x_cv rfl (Nat.le_of_ble_eq_true rfl) (isO_W W1 (by decide) shp_44) (c_play W1 hC (hR.far e5 hC (by simp)) hV c5 (fun h2 w2 W2 e6 => xk_go (x_istore rfl (x_iload rfl (x_br (fun q1 => have q1 := cy_ne q1; hJ 1 _ _ rfl _ _ _ _ (x_aload rfl (w_getr W2 6 5 (t := 44) (by decide) shp_0 rfl rfl rfl (x_aload rfl (w_getr W2 6 0 (t := i) (by decide) shp_0 rfl rfl ((congrFun (e6 0 (by decide)).2.1 0).trans ((congrFun (e5 0 (by simp)).2.1 0).trans hc)) (x_iload rfl (x_cv rfl (Nat.le_of_ble_eq_true rfl) (isO_W W2 (by decide) shp_44) (c_firstOf W2 hC ((hR.far e5 hC (by simp)).far e6 hC lE_40) hV (fun p hp => ⟨by rw [(e6 45 (by decide)).2.2.1]; exact (c5 p hp).1, (c5 p hp).2⟩) (xk_go (x_goto (hJ 2 _ _ rfl _ _ _ _ (x_iret (nrwI _) ?_)))))))))))) (fun q1 => have q1 := cn_ne q1; x_iload rfl (x_goto (hJ 2 _ _ rfl _ _ _ _ (x_iret (nrwI _) ?_)))))))))))))))))))))))))))))))
  · exact kk.no 0 (by rw [hl1 t1]; rfl) W kp_refl
  · exact kk.no 1 (by rw [hl2 t1 t2]; rfl) W kp_refl
  · exact kk.no 2 (by rw [if_pos (hno0 t1 t2), if_neg (fun z => by rw [t3] at z; cases z.1)]) W kp_refl
  · exact kk.no 2 (by rw [if_pos (hno0 t1 t2), if_neg (fun z => t4 (of_decide_eq_true z.2))]) W4 (e4.mono lo45)
  · rw [if_pos (hno0 t1 t2), if_pos ⟨t3, decide_eq_true t4⟩, if_neg (show ¬ y = kI 0 from q1)] at kk
    exact kk.yes rfl W2 ((e5.mono lo45).trans (e6.mono lE_SC))
  · rw [if_pos (hno0 t1 t2), if_pos ⟨t3, decide_eq_true t4⟩, if_pos (show y = kI 0 from q1)] at kk
    exact kk.yes rfl W2 ((e5.mono lo45).trans (e6.mono lE_SC))
end W1
