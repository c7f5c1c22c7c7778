/-! ===== chances: the class ===== -/
theorem lc_lt {x : Int64} (h : lg_cmp x (Int64.ofNat 0) < 0) : x.toInt < 0 := by
  rw [lg_lt] at h
  exact h
theorem l74 : ∀ a ∈ [74], a ∈ SC := by decide
theorem isC.noSC {i : Nat} (h : isC i) (h20 : i ≠ 20) : i ∉ SC := by
  rcases h with rfl | rfl | rfl | rfl | rfl | rfl
  · decide
  · decide
  · exact absurd rfl h20
  · decide
  · decide
  · decide
theorem isT_noSC {t : Nat} (h : isT t) : t + 1 ∉ SC := by
  rcases h with rfl | rfl | rfl | rfl <;> decide
section W1
variable {T : TT}
variable {ga : Nat → Nat} {L : Nat} {xs : Nat → Int32} {d : Nat} {h : ac_H} {P : ac_P} {ad : Nat → Nat} {w : Wst} {i : Nat} {V : VT}
theorem c_reqChances {x y : Int32} (W : WW ad w h) (hC : isC i) (hR : CR w i V) (hV : VOK V) (hc : wr w 0 0 = i) (hT : TcR w T) (t1 : inV x 0 3 = true) (hy9 : inV y 1 20 = true) (k1 : ¬ chOK T V (tN x) y → P (.inr 0) h) (k0 : chOK T V (tN x) y → P (.inl none) h) : WP ga L xs (d + 1) 126 [.ref (ad 0), .ref (ad (63 + 2 * tN x)), .int y] h P := by
  have hn := hV.n.2
  have x4 := tr_4 t1
  have hTt := hT (tN x) x4
  have ei : wn w i 4 = V 4 := (hR.n hV).trans hV.n.1.symm
  refine WP.enter kX6_requireChances (Nat.le_of_ble_eq_true rfl) (fun J hJ => ?_)
  have loop : T.2.1 (tN x) = V 4 → ∀ m, m ≤ nm V → (∀ j, j < m → chB T (tN x) y j = true) → J 2 [some (.ref (ad 0)), some (.ref (ad (63 + 2 * tN x))), some (.int y), some (.int (kI (m : Int)))] [] h (0, 0) := fun hm0 => up_ind (fun m hm ih hal => ?_)
  · refine hJ 0 _ _ rfl _ _ _ _ (x_aload rfl (w_geti W 3 2 (isT_of t1).lt (isT_of t1).sh rfl rfl (x_aload rfl (w_getr W 6 0 (t := i) (by decide) shp_0 rfl rfl hc (w_geti W 0 4 hC.lt hC.sh rfl rfl (x_br2 (fun q1 => have q1 := cy_eq q1; hJ 1 _ _ rfl _ _ _ _ (x_sipush (x_istore rfl (x_goto (?_))))) (fun q1 => have q1 := cn_eq q1; x_thr ⟨by decide, by decide⟩ (Nat.le_of_ble_eq_true rfl) (by decide) ?_)))))))
    · rw [hTt.2.2.1, ei] at q1
      exact loop q1 0 (Nat.zero_le _) (fun j hj => by omega)
    · rw [hTt.2.2.1, ei] at q1
      exact k1 (fun z => q1 z.1)
  have em : wn w (63 + 2 * tN x) 2 = kI (nm V : Int) := (hTt.2.2.1.trans hm0).trans hV.n.1
  have hval : m < nm V → wl w (63 + 2 * tN x + 1) m = T.2.2 (60 * tN x + m) := fun h9 => hTt.2.2.2 m (by omega)
  refine hJ 2 _ _ rfl _ _ _ _ (x_iload rfl (x_aload rfl (w_geti W 3 2 (isT_of t1).lt (isT_of t1).sh rfl rfl (x_br2 (fun q1 => have q1 := ge_y em (by omega) q1; hJ 5 _ _ rfl _ _ _ _ (x_vret rfl ?_)) (fun q1 => have q1 := ge_n em (by omega) q1; x_aload rfl (w_getr W 3 3 (t := (63 + 2 * tN x) + 1) (isT_of t1).lt (isT_of t1).sh rfl rfl ((isT_of t1).rf _) (x_iload rfl (w_lald W m (isT_of t1).lt1 (isT_of t1).sh1 rfl (by omega) (by decide) (x_ldc2 (x_lcmp (x_br (fun q2 => have q2 := cy_lt q2; hJ 3 _ _ rfl _ _ _ _ (x_thr ⟨by decide, by decide⟩ (Nat.le_of_ble_eq_true rfl) (by decide) ?_)) (fun q2 => have q2 := cn_lt q2; x_aload rfl (w_getr W 3 3 (t := (63 + 2 * tN x) + 1) (isT_of t1).lt (isT_of t1).sh rfl rfl ((isT_of t1).rf _) (x_iload rfl (w_lald W m (isT_of t1).lt1 (isT_of t1).sh1 rfl (by omega) (by decide) (x_iload rfl (x_i2l (x_lcmp (x_br (fun q3 => have q3 := cy_le q3; hJ 4 _ _ rfl _ _ _ _ (x_iinc rfl rfl (x_goto (?_)))) (fun q3 => have q3 := cn_le q3; x_goto (hJ 3 _ _ rfl _ _ _ _ (x_thr ⟨by decide, by decide⟩ (Nat.le_of_ble_eq_true rfl) (by decide) ?_))))))))))))))))))))))
  · have e : m = nm V := by omega
    subst e
    exact k0 ⟨hm0, hal⟩
  · rw [hval q1] at q2
    have q2 := lc_lt q2
    exact k1 (fun z => by have := of_decide_eq_true (z.2 m q1); omega)
  · rw [hval q1] at q2 q3
    have hz0 := of_decide_eq_true hy9
    rw [← Int32.not_lt, lg_gt, toInt64_toInt] at q3
    rw [← Int32.not_lt, lg_lt, show (Int64.ofNat 0).toInt = 0 from rfl] at q2
    refine J_c (ih q1 (fun j hj => ?_)) (by simp only [sI, kN_succ])
    by_cases ej : j = m
    · rw [ej]
      exact decide_eq_true ⟨by omega, by omega⟩
    · exact hal j (by omega)
  · rw [hval q1] at q3
    rw [lg_gt, toInt64_toInt] at q3
    exact k1 (fun z => by have := of_decide_eq_true (z.2 m q1); omega)
theorem x_chances {x y z : Int32} (W : WW ad w h) (hC : isC i) (hi20 : i ≠ 20) (hR : CR w i V) (hV : VOK V) (hc : wr w 0 0 = i) (hT : TcR w T) (kk : KC ad P w [1, 2, 0] (chanT T V x y) (.long (chanV T V x y z))) : WP ga L xs (d + 4) 104 [.ref (ad 0), .int x, .int y, .int z] h P := by
  have hn := hV.n.2
  have z0 : (0 : Int32).toInt = 0 := rfl
  have ei : wn w i 4 = kI (nm V : Int) := hR.n hV
  have hno : inV x 0 3 = true → ¬ T.1 (tN x) = kI (-1) → laidT T x = 0 := fun h1 h2 => by
    unfold laidT
    rw [if_pos h1, if_neg h2]
  unfold chanT at kk
  refine WP.enter kX6_chances (Nat.le_of_ble_eq_true rfl) (fun J hJ => ?_)
  have loop3 : inV x 0 3 = true → ¬ T.1 (tN x) = kI (-1) → inV y 1 20 = true → chOK T V (tN x) y → inV z 0 (nm V) = true → ∀ bg m, m ≤ nm V → ∀ h' w' z6 z7 z8, WW ad w' h' → kp SC w w' → (∀ k, k ≤ m → wl w' 74 k = kL ((wyT T (tN x) (tN y) m k : Nat) : Int)) → J 3 [some (.ref (ad 0)), some (.int x), some (.int y), some (.int z), some (.ref (ad (63 + 2 * tN x))), some (.int (kI (m : Int))), z6, z7, z8] [] h' bg := by
    intro t1 t2 t3 t4 hz bg
    have x4 := tr_4 t1
    obtain ⟨hz1, hz2⟩ := in_m (b := nm V) hz
    obtain ⟨y1, y2, y3⟩ := xnV (a := 1) (b := 20) t3
    refine up_ind (fun m hm ih h0 w0 z6 z7 z8 W0 k0 hf0 => ?_)
    have en0 : wn w0 i 4 = kI (nm V : Int) := by rw [(k0 i (isC.noSC hC hi20)).1, ei]
    have hval : m < nm V → wl w0 (63 + 2 * tN x + 1) m = T.2.2 (60 * tN x + m) := fun h9 => by
      rw [(k0 (63 + 2 * tN x + 1) (isT_noSC (isT_of t1))).2.2.2]
      exact (hT (tN x) x4).2.2.2 m (by omega)
    have loop4 : m < nm V → ∀ c, c ≤ m → ∀ h' w', WW ad w' h' → kp [74] w0 w' → (∀ k, k ≤ m + 1 → wl w' 74 k = kL (((if c < k then wyT T (tN x) (tN y) (m + 1) k else wyT T (tN x) (tN y) m k) : Nat) : Int)) → J 4 [some (.ref (ad 0)), some (.int x), some (.int y), some (.int z), some (.ref (ad (63 + 2 * tN x))), some (.int (kI (m : Int))), some (.long (T.2.2 (60 * tN x + m))), none, some (.int (kI (c : Int)))] [] h' bg := by
      intro hm9
      have hch := chB_is (T := T) (t := tN x) y1 (by omega) (t4.2 m hm9)
      have est : ∀ k, wyT T (tN x) (tN y) (m + 1) k = wyT T (tN x) (tN y) m k * (tN y - lNt (T.2.2 (60 * tN x + m))) + (if 0 < k then wyT T (tN x) (tN y) m (k - 1) * lNt (T.2.2 (60 * tN x + m)) else 0) := fun k => rfl
      refine dn_ind (fun c ih4 hc9 h9 w9 W9 k9 hf9 => ?_)
      have ec : y.toInt64 - T.2.2 (60 * tN x + m) = kL ((tN y - lNt (T.2.2 (60 * tN x + m)) : Nat) : Int) := hch.2
      refine hJ 4 _ _ rfl _ _ _ _ (x_iload rfl (x_br (fun q1 => have q1 := k_le0 rfl (by omega) q1; hJ 5 _ _ rfl _ _ _ _ (x_aload rfl (w_getr W9 6 11 (t := 74) (by decide) shp_0 rfl rfl rfl (x_sipush (x_dup2 (w_lald W9 0 (by decide) shp_74 rfl (by decide) (by decide) (x_iload rfl (x_i2l (x_lload rfl (x_lsub (x_lmul (w_last W9 0 (by decide) shp_74 rfl (by decide) (by decide) (fun h1 W1 => x_iinc rfl rfl (x_goto (?_))))))))))))))) (fun q1 => have q1 := k_gt0 rfl (by omega) q1; x_aload rfl (w_getr W9 6 11 (t := 74) (by decide) shp_0 rfl rfl rfl (x_iload rfl (x_aload rfl (w_getr W9 6 11 (t := 74) (by decide) shp_0 rfl rfl rfl (x_iload rfl (w_lald W9 c (by decide) shp_74 rfl (by omega) (by decide) (x_iload rfl (x_i2l (x_lload rfl (x_lsub (x_lmul (x_aload rfl (w_getr W9 6 11 (t := 74) (by decide) shp_0 rfl rfl rfl (x_iload rfl (x_sipush (x_isub (w_lald W9 (c - 1) (by decide) shp_74 (kN_pred q1) (by omega) (by decide) (x_lload rfl (x_lmul (x_ladd (w_last W9 c (by decide) shp_74 rfl (by omega) (by decide) (fun h2 W2 => x_iinc rfl rfl (x_goto (?_)))))))))))))))))))))))))))
      · subst q1
        refine J_c (ih (by omega) h1 _ (some (.long (T.2.2 (60 * tN x + m)))) none (some (.int (kI ((0 : Nat) : Int)))) W1 (k0.trans ((k9.trans (kp_sv (by simp))).mono l74)) (fun k hk => ?_)) ?_
        · rw [wl_self]
          by_cases ek : k = 0
          · subst ek
            rw [updL_self, hf9 0 (by omega), if_neg (by omega), ec, kL_mulN, est 0, if_neg (by omega)]
            rfl
          · rw [updL_ne ek, hf9 k (by omega), if_pos (by omega)]
        · simp only [sI, kN_succ]
      · refine J_c (ih4 (by omega) (by omega) h2 _ W2 (k9.trans (kp_sv (by simp))) (fun k hk => ?_)) ?_
        · rw [wl_self]
          by_cases ek : k = c
          · subst ek
            have e1 : wl w9 74 k = kL ((wyT T (tN x) (tN y) m k : Nat) : Int) := by rw [hf9 k hk, if_neg (by omega)]
            have e2 : wl w9 74 (k - 1) = kL ((wyT T (tN x) (tN y) m (k - 1) : Nat) : Int) := by rw [hf9 (k - 1) (by omega), if_neg (by omega)]
            have e3 : wl w9 74 (k - 1) * T.2.2 (60 * tN x + m) = kL ((wyT T (tN x) (tN y) m (k - 1) * lNt (T.2.2 (60 * tN x + m)) : Nat) : Int) := by
              rw [e2, ← kL_mulN, ← hch.1]
            rw [updL_self, e1, e3, ec, kL_mulN, kL_addN, if_pos (by omega), est k, if_pos (by omega)]
          · rw [updL_ne ek, hf9 k hk]
            by_cases hck : c < k
            · rw [if_pos hck, if_pos (by omega)]
            · rw [if_neg hck, if_neg (by omega)]
        · simp only [sI]
          rw [kI_add, show ((c : Int) + -1) = ((c - 1 : Nat) : Int) by omega]
    refine hJ 3 _ _ rfl _ _ _ _ (x_iload rfl (x_aload rfl (w_getr W0 6 0 (t := i) (by decide) shp_0 rfl rfl ((congrFun (k0 0 (by decide)).2.1 0).trans hc) (w_geti W0 0 4 hC.lt hC.sh rfl rfl (x_br2 (fun q1 => have q1 := ge_y en0 (by omega) q1; hJ 6 _ _ rfl _ _ _ _ (x_aload rfl (w_getr W0 6 11 (t := 74) (by decide) shp_0 rfl rfl rfl (x_iload rfl (w_lald W0 (tN z) (by decide) shp_74 hz1 (by omega) (by decide) (x_lret rfl ?_)))))) (fun q1 => have q1 := ge_n en0 (by omega) q1; x_aload rfl (w_getr W0 3 3 (t := (63 + 2 * tN x) + 1) (isT_of t1).lt (isT_of t1).sh rfl rfl ((isT_of t1).rf _) (x_iload rfl (w_lald W0 m (isT_of t1).lt1 (isT_of t1).sh1 rfl (by omega) (by decide) (x_lstore rfl (x_aload rfl (w_getr W0 6 11 (t := 74) (by decide) shp_0 rfl rfl rfl (x_iload rfl (x_sipush (x_iadd (x_aload rfl (w_getr W0 6 11 (t := 74) (by decide) shp_0 rfl rfl rfl (x_iload rfl (w_lald W0 m (by decide) shp_74 rfl (by omega) (by decide) (x_lload rfl (x_lmul (w_last W0 (m + 1) (by decide) shp_74 (kN_succ m) (by omega) (by decide) (fun h1 W1 => x_iload rfl (x_istore rfl (x_goto (?_))))))))))))))))))))))))))
    · have e : m = nm V := by omega
      subst e
      rw [if_pos (hno t1 t2), if_pos ⟨t3, decide_eq_true t4⟩] at kk
      unfold chanV at kk
      rw [if_pos hz] at kk
      rw [hf0 (tN z) hz2]
      exact kk.yes rfl W0 k0
    · have hv := hval q1
      rw [hv] at W1
      have hch := chB_is (T := T) (t := tN x) y1 (by omega) (t4.2 m q1)
      refine J_c (loop4 q1 m (Nat.le_refl _) h1 _ W1 (kp_sv (by simp)) (fun k hk => ?_)) ?_
      · rw [wl_self]
        by_cases ek : k = m + 1
        · subst ek
          have e3 : wl w0 74 m * T.2.2 (60 * tN x + m) = kL ((wyT T (tN x) (tN y) m m * lNt (T.2.2 (60 * tN x + m)) : Nat) : Int) := by
            rw [hf0 m (Nat.le_refl _), ← kL_mulN, ← hch.1]
          have e4 : wyT T (tN x) (tN y) (m + 1) (m + 1) = wyT T (tN x) (tN y) m (m + 1) * (tN y - lNt (T.2.2 (60 * tN x + m))) + (if 0 < m + 1 then wyT T (tN x) (tN y) m (m + 1 - 1) * lNt (T.2.2 (60 * tN x + m)) else 0) := rfl
          have e5 : wyT T (tN x) (tN y) m (m + 1) = 0 := wy_zero m (m + 1) (by omega)
          rw [updL_self, e3, if_pos (by omega), e4, e5, if_pos (by omega), Nat.zero_mul, Nat.zero_add]
          rfl
        · rw [updL_ne ek, if_neg (by omega)]
          exact hf0 k (by omega)
      · rw [hv]
        rfl
  refine hJ 0 _ _ rfl _ _ _ _ (x_aload rfl (x_iload rfl (x_cvb rfl (Nat.le_of_ble_eq_true rfl) (isO_W W (by decide) shp_0) ⟨by decide, by decide⟩ (c_laidTray W hT (fun t1 => ?_) (fun t1 t2 => ?_) (fun t1 t2 => xk_go (x_astore rfl (x_iload rfl (x_sipush (x_sipush (x_csb rfl (Nat.le_of_ble_eq_true rfl) ⟨by decide, by decide⟩ (c_reqWithin rfl rfl (by omega) (fun t3 => ?_) (fun t3 => xk_v (x_aload rfl (x_aload rfl (x_iload rfl (x_cvb rfl (Nat.le_of_ble_eq_true rfl) (isO_W W (by decide) shp_0) ⟨by decide, by decide⟩ (c_reqChances W hC hR hV hc hT t1 t3 (fun t4 => ?_) (fun t4 => xk_v (x_iload rfl (x_br (fun q1 => have q1 := cy_lt q1; hJ 1 _ _ rfl _ _ _ _ (x_ldc2 (x_lret rfl ?_))) (fun q1 => have q1 := cn_lt q1; x_iload rfl (x_aload rfl (w_getr W 6 0 (t := i) (by decide) shp_0 rfl rfl hc (w_geti W 0 4 hC.lt hC.sh rfl rfl (x_br2 (fun q2 => have q2 := cy_le q2; hJ 2 _ _ rfl _ _ _ _ (x_aload rfl (w_getr W 6 11 (t := 74) (by decide) shp_0 rfl rfl rfl (x_sipush (x_ldc2 (w_last W 0 (by decide) shp_74 rfl (by decide) (by decide) (fun h1 W1 => x_sipush (x_istore rfl (x_goto (?_)))))))))) (fun q2 => have q2 := cn_le q2; x_goto (hJ 1 _ _ rfl _ _ _ _ (x_ldc2 (x_lret rfl ?_)))))))))))))))))))))))))))))
  · exact kk.no 0 (by unfold laidT; rw [if_neg (show ¬ (if inV x 0 3 = true then (if T.1 (tN x) = kI (-1) then 2 else 0) else 1) = 0 by rw [if_neg (by rw [t1]; decide)]; decide), if_neg (by rw [t1]; decide)]) W kp_refl
  · exact kk.no 1 (by unfold laidT; rw [if_neg (show ¬ (if inV x 0 3 = true then (if T.1 (tN x) = kI (-1) then 2 else 0) else 1) = 0 by rw [if_pos t1, if_pos t2]; decide), if_pos t1, if_pos t2]) W kp_refl
  · exact kk.no 2 (by rw [if_pos (hno t1 t2), if_neg (fun z => by rw [t3] at z; cases z.1)]) W kp_refl
  · exact kk.no 2 (by rw [if_pos (hno t1 t2), if_neg (fun z => t4 (of_decide_eq_true z.2))]) W kp_refl
  · rw [if_pos (hno t1 t2), if_pos ⟨t3, decide_eq_true t4⟩] at kk
    unfold chanV at kk
    rw [if_neg (fun z => by
      have z := of_decide_eq_true z
      rw [Int32.lt_iff_toInt_lt, z0] at q1
      omega)] at kk
    exact kk.yes rfl W kp_refl
  · have hz : inV z 0 (nm V) = true := by
      rw [Int32.le_iff_toInt_le, z0] at q1
      rw [ei, Int32.le_iff_toInt_le, kN_toInt (by omega)] at q2
      exact decide_eq_true ⟨q1, q2⟩
    refine loop3 t1 t2 t3 t4 hz _ 0 (Nat.zero_le _) _ _ _ _ _ W1 (kp_sv (by simp [SC])) (fun k hk => ?_)
    rw [wl_self, show k = 0 by omega, updL_self]
    rfl
  · rw [if_pos (hno t1 t2), if_pos ⟨t3, decide_eq_true t4⟩] at kk
    unfold chanV at kk
    rw [if_neg (fun z => by
      have z := of_decide_eq_true z
      rw [ei, Int32.lt_iff_toInt_lt, kN_toInt (by omega)] at q2
      omega)] at kk
    exact kk.yes rfl W kp_refl
end W1
