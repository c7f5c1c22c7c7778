/-! ===== two clubs: the model ===== -/
def lf (n : Nat) : Nat → Nat
  | 0 => n
  | m + 1 => lf n m / 3
theorem lf_3 (n : Nat) : ∀ m, lf (n / 3) m = lf n (m + 1)
  | 0 => rfl
  | m + 1 => by
    show lf (n / 3) m / 3 = lf n (m + 1) / 3
    rw [lf_3 n m]
theorem dg_lf : ∀ m n, dg n m = lf n m % 3
  | 0, n => rfl
  | m + 1, n => by
    show dg (n / 3) m = _
    rw [dg_lf m (n / 3), lf_3]
theorem lf_le (n : Nat) : ∀ m, lf n m ≤ n
  | 0 => Nat.le_refl _
  | m + 1 => by
    have := lf_le n m
    show lf n m / 3 ≤ n
    omega
theorem l8990 : ∀ a ∈ [89, 90], a ∈ SM := by decide
section W1
variable {ga : Nat → Nat} {L : Nat} {xs : Nat → Int32} {d : Nat} {h : ac_H} {P : ac_P} {ad : Nat → Nat} {w : Wst} {V : VT}
theorem c7_payOfTwo {x y q u : Int32} {m e : Nat} {f : Nat → Nat} (W : WW ad w h) (hK : wa w 81 = V) (hV : VOK V) (hx : x = kI (m : Int)) (hy : y = kI (e : Int)) (hm : m < nm V) (hn8 : nm V ≤ 8) (he : e < 3) (hfm : f m < 3) (hd : wa w 89 m = kI (f m : Int)) (hcr : ∀ e, e < 3 → wa w 90 e = kI (crw f (nm V) e : Int)) (hP : P (.inl (some (.int (payT V q u f m e)))) h) : WP ga L xs (d + 2) 203 [.ref (ad 80), .int x, .int y, .int q, .int u] h P := by
  subst hx hy
  have i1 : ∀ a b : Nat, a < 3 → b < 3 → (kI (a : Int) = kI (b : Int) ↔ a = b) := fun a b h9 h8 => kN_inj (by omega) (by omega)
  refine WP.enter kX7_payOfTwo (Nat.le_of_ble_eq_true rfl) (fun J hJ => ?_)
  have b3 : ¬ e = 0 → ∀ v, v = kI ((if f m = e then 0 else 1 : Nat) : Int) → J 3 [some (.ref (ad 80)), some (.int (kI (m : Int))), some (.int (kI (e : Int))), some (.int q), some (.int u), none] [.int v, .int (wa w 90 e)] h (0, 0) := fun he0 v hv => ?_
  · refine hJ 0 _ _ rfl _ _ _ _ (x_iload rfl (x_br (fun q1 => have q1 := cy_ne q1; hJ 1 _ _ rfl _ _ _ _ (x_aload rfl (w_getr W 7 22 (t := 90) (by decide) shp_80 rfl rfl rfl (x_iload rfl (w_iald W e (by decide) shp_90 rfl (by omega) (by decide) (x_aload rfl (w_getr W 7 21 (t := 89) (by decide) shp_80 rfl rfl rfl (x_iload rfl (w_iald W m (by decide) shp_89 rfl (by omega) (by decide) (x_iload rfl (x_br2 (fun q2 => have q2 := cy_ne q2; hJ 2 _ _ rfl _ _ _ _ (x_sipush (x_goto (?_)))) (fun q2 => have q2 := cn_ne q2; x_sipush (x_goto (?_)))))))))))))) (fun q1 => have q1 := cn_ne q1; x_sipush (x_iret (nrwI _) ?_))))
    · have q1 : ¬ kI (e : Int) = kI ((0 : Nat) : Int) := q1
      rw [i1 _ _ he (by omega)] at q1
      rw [hd, i1 _ _ hfm he] at q2
      exact b3 q1 _ (by rw [if_neg q2]; rfl)
    · have q1 : ¬ kI (e : Int) = kI ((0 : Nat) : Int) := q1
      rw [i1 _ _ he (by omega)] at q1
      rw [hd, i1 _ _ hfm he] at q2
      exact b3 q1 _ (by rw [if_pos q2]; rfl)
    · have q1 : kI (e : Int) = kI ((0 : Nat) : Int) := q1
      rw [i1 _ _ he (by omega)] at q1
      unfold payT at hP
      rw [if_pos q1] at hP
      exact hP
  have ev : wa w 90 e + v = kI ((crw f (nm V) e + (if f m = e then 0 else 1) : Nat) : Int) := by rw [hcr e he, hv, kN_add]
  have ec : V (6 + 4 * m + 2) = vC V m := by
    unfold vC
    rw [show 6 + 4 * m + 2 = 8 + 4 * m by omega]
  unfold payT at hP
  rw [if_neg he0] at hP
  refine hJ 3 _ _ rfl _ _ _ _ (x_iadd (x_istore rfl (x_iload rfl (x_sipush (x_br2 (fun q1 => have q1 := cy_ne q1; hJ 5 _ _ rfl _ _ _ _ (x_iload rfl (x_iload rfl (x_br2 (fun q2 => have q2 := cy_ne q2; hJ 6 _ _ rfl _ _ _ _ (x_sipush (x_goto (hJ 7 _ _ rfl _ _ _ _ (x_aload rfl (x_iload rfl (x_sipush (x_cv rfl (Nat.le_of_ble_eq_true rfl) (isO_W W (by decide) shp_80) (c7_of W hK rfl rfl (by omega) (by decide) (xk_go (x_isub (x_iret (nrwI _) ?_)))))))))))) (fun q2 => have q2 := cn_ne q2; x_iload rfl (x_goto (hJ 7 _ _ rfl _ _ _ _ (x_aload rfl (x_iload rfl (x_sipush (x_cv rfl (Nat.le_of_ble_eq_true rfl) (isO_W W (by decide) shp_80) (c7_of W hK rfl rfl (by omega) (by decide) (xk_go (x_isub (x_iret (nrwI _) ?_))))))))))))))) (fun q1 => have q1 := cn_ne q1; x_iload rfl (x_aload rfl (w_getr W 7 0 (t := 81) (by decide) shp_80 rfl rfl rfl (x_sipush (w_iald W 1 (by decide) shp_81 rfl (by decide) (by decide) (x_br2 (fun q3 => have q3 := cy_ne q3; hJ 4 _ _ rfl _ _ _ _ (x_sipush (x_goto (hJ 7 _ _ rfl _ _ _ _ (x_aload rfl (x_iload rfl (x_sipush (x_cv rfl (Nat.le_of_ble_eq_true rfl) (isO_W W (by decide) shp_80) (c7_of W hK rfl rfl (by omega) (by decide) (xk_go (x_isub (x_iret (nrwI _) ?_)))))))))))) (fun q3 => have q3 := cn_ne q3; x_aload rfl (w_getr W 7 0 (t := 81) (by decide) shp_80 rfl rfl rfl (x_sipush (w_iald W 2 (by decide) shp_81 rfl (by decide) (by decide) (x_goto (hJ 7 _ _ rfl _ _ _ _ (x_aload rfl (x_iload rfl (x_sipush (x_cv rfl (Nat.le_of_ble_eq_true rfl) (isO_W W (by decide) shp_80) (c7_of W hK rfl rfl (by omega) (by decide) (xk_go (x_isub (x_iret (nrwI _) ?_)))))))))))))))))))))))))
  · have q1 : ¬ kI (e : Int) = kI ((1 : Nat) : Int) := q1
    rw [i1 _ _ he (by omega)] at q1
    have e2 : e = 2 := by omega
    subst e2
    rw [ev] at q2
    rw [if_neg q1, if_neg q2] at hP
    rw [ec]
    exact hP
  · have q1 : ¬ kI (e : Int) = kI ((1 : Nat) : Int) := q1
    rw [i1 _ _ he (by omega)] at q1
    have e2 : e = 2 := by omega
    subst e2
    rw [ev] at q2
    rw [if_neg q1, if_pos q2] at hP
    rw [ec]
    exact hP
  · have q1 : kI (e : Int) = kI ((1 : Nat) : Int) := q1
    rw [i1 _ _ he (by omega)] at q1
    subst q1
    rw [ev, hK] at q3
    rw [if_pos rfl, if_neg q3] at hP
    rw [ec]
    exact hP
  · have q1 : kI (e : Int) = kI ((1 : Nat) : Int) := q1
    rw [i1 _ _ he (by omega)] at q1
    subst q1
    rw [ev, hK] at q3
    rw [if_pos rfl, if_pos q3] at hP
    rw [ec, hK]
    exact hP
theorem c7_restsInTwo {x q u : Int32} {a : Nat} (W : WW ad w h) (hK : wa w 81 = V) (hV : VOK V) (hn8 : nm V ≤ 8) (hx : x = kI (a : Int)) (ha : a ≤ 10000) (kk : ∀ h' w', WW ad w' h' → kp [89, 90] w w' → P (.inl (some (.int (bI (rstB V q u a))))) h') : WP ga L xs (d + 3) 204 [.ref (ad 80), .int x, .int q, .int u] h P := by
  subst hx
  refine WP.enter kX7_restsInTwo (Nat.le_of_ble_eq_true rfl) (fun J hJ => ?_)
  have loop5 : ∀ h0 w0, WW ad w0 h0 → kp [89, 90] w w0 → (∀ j, j < nm V → wa w0 89 j = kI (dg a j : Int)) → (∀ e, e < 3 → wa w0 90 e = kI (crw (dg a) (nm V) e : Int)) → ∀ m, m ≤ nm V → (∀ j, j < m → rstM V q u (dg a) j = true) → ∀ (z4 : Int32) z6, J 5 [some (.ref (ad 80)), some (.int (kI (a : Int))), some (.int q), some (.int u), some (.int z4), some (.int (kI (m : Int))), z6] [] h0 (0, 0) := fun h0 w0 W0 hk hd hcr => ?_
  · have loop3 : ∀ m, m ≤ nm V → ∀ h' w', WW ad w' h' → kp [89, 90] w w' → (∀ j, j < m → wa w' 89 j = kI (dg a j : Int)) → (∀ e, e < 3 → wa w' 90 e = kI (crw (dg a) m e : Int)) → J 3 [some (.ref (ad 80)), some (.int (kI (a : Int))), some (.int q), some (.int u), some (.int (kI (lf a m : Int))), some (.int (kI (m : Int))), none] [] h' (0, 0) := up_ind (fun m hm ih h0 w0 W0 hk hd hcr => ?_)
    · have loop1 : ∀ m, m ≤ 3 → ∀ h' w', WW ad w' h' → kp [89, 90] w w' → (∀ e, e < m → wa w' 90 e = kI 0) → J 1 [some (.ref (ad 80)), some (.int (kI (a : Int))), some (.int q), some (.int u), some (.int (kI (m : Int))), none, none] [] h' (0, 0) := up_ind (fun m hm ih h0 w0 W0 hk hcr => ?_)
      · refine hJ 0 _ _ rfl _ _ _ _ (x_sipush (x_istore rfl (x_goto (?_))))
        exact loop1 0 (Nat.zero_le _) _ _ W kp_refl (fun j hj => by omega)
      refine hJ 1 _ _ rfl _ _ _ _ (x_iload rfl (x_sipush (x_br2 (fun q1 => have q1 := ge_y (n := 3) rfl (by omega) q1; hJ 2 _ _ rfl _ _ _ _ (x_iload rfl (x_istore rfl (x_sipush (x_istore rfl (x_goto (?_))))))) (fun q1 => have q1 := ge_n (n := 3) rfl (by omega) q1; x_aload rfl (w_getr W0 7 22 (t := 90) (by decide) shp_80 rfl rfl rfl (x_iload rfl (x_sipush (w_iast W0 m (by decide) shp_90 rfl (by omega) (by decide) (fun h1 W1 => x_iinc rfl rfl (x_goto (?_)))))))))))
      · exact loop3 0 (Nat.zero_le _) _ _ W0 hk (fun j hj => by omega) (fun e he => hcr e (by omega))
      · refine J_c (ih q1 h1 _ W1 (hk.trans (kp_sa (by simp))) (fun e he => ?_)) (by simp only [sI, kN_succ])
        rw [wa_self]
        by_cases ee : e = m
        · rw [ee, upd_self]
        · rw [upd_ne ee]
          exact hcr e (by omega)
    have hK0 : wa w0 81 = V := (hk 81 (by simp)).2.2.1.trans hK
    have hlf := lf_le a m
    have hdl := dg_lf m a
    have hd3 := dg_lt m a
    have hix : wa (sa w0 89 (upd (wa w0 89) m (kI ((lf a m % 3 : Nat) : Int)))) 89 m = kI (dg a m : Int) := by rw [wa_self, upd_self, hdl]
    have hcl := crw_le (dg a) m (dg a m)
    refine hJ 3 _ _ rfl _ _ _ _ (x_iload rfl (x_aload rfl (x_cv rfl (Nat.le_of_ble_eq_true rfl) (isO_W W0 (by decide) shp_80) (c7_many W0 hK0 hV (xk_go (x_br2 (fun q1 => have q1 := ge_y rfl (by omega) q1; hJ 4 _ _ rfl _ _ _ _ (x_sipush (x_istore rfl (x_goto (?_))))) (fun q1 => have q1 := ge_n rfl (by omega) q1; x_aload rfl (w_getr W0 7 21 (t := 89) (by decide) shp_80 rfl rfl rfl (x_iload rfl (x_iload rfl (x_sipush (x_irem (fun z => absurd z (by decide)) (x_eqi (kN_rem (b := 3) (by omega) (by omega)) (w_iast W0 m (by decide) shp_89 rfl (by omega) (by decide) (fun h1 W1 => x_aload rfl (w_getr W1 7 22 (t := 90) (by decide) shp_80 rfl rfl rfl (x_aload rfl (w_getr W1 7 21 (t := 89) (by decide) shp_80 rfl rfl rfl (x_iload rfl (w_iald W1 m (by decide) shp_89 rfl (by omega) (by decide) (x_dup2 (w_iald W1 (dg a m) (by decide) shp_90 hix (by omega) (by decide) (x_sipush (x_iadd (w_iast W1 (dg a m) (by decide) shp_90 hix (by omega) (by decide) (fun h2 W2 => x_iload rfl (x_sipush (x_idiv (fun z => absurd z (by decide)) (x_eqi (kN_div (b := 3) (by omega) (by omega)) (x_istore rfl (x_iinc rfl rfl (x_goto (?_)))))))))))))))))))))))))))))))))
    · have e : m = nm V := by omega
      subst e
      exact loop5 h0 w0 W0 hk hd hcr 0 (Nat.zero_le _) (fun j hj => by omega) _ _
    · refine J_c (ih q1 h2 _ W2 (hk.trans ((kp_sa (by simp)).trans (kp_sa (by simp)))) (fun j hj => ?_) (fun e he => ?_)) (by simp only [sI, kN_succ] <;> rfl)
      · rw [wa_sa, if_neg (by decide), wa_self]
        by_cases ej : j = m
        · rw [ej, upd_self, hdl]
        · rw [upd_ne ej]
          exact hd j (by omega)
      · have es : crw (dg a) (m + 1) e = crw (dg a) m e + (if decide (dg a m = e) = true then 1 else 0) := rfl
        rw [wa_self]
        by_cases ee : e = dg a m
        · rw [es, ← ee, upd_self, wa_sa, if_neg (by decide), hcr e he, kN_succ, if_pos (decide_eq_true rfl)]
        · rw [es, upd_ne ee, wa_sa, if_neg (by decide), hcr e he, if_neg (by rw [decide_eq_true_eq]; omega)]
          rfl
  have hK0 : wa w0 81 = V := (hk 81 (by simp)).2.2.1.trans hK
  refine up_ind (fun m hm ih hno z4 z6 => ?_)
  have loop6 : m < nm V → ∀ e, e ≤ 3 → (∀ e', e' < e → ¬ payT V q u (dg a) m (dg a m) < payT V q u (dg a) m e') → J 6 [some (.ref (ad 80)), some (.int (kI (a : Int))), some (.int q), some (.int u), some (.int z4), some (.int (kI (m : Int))), some (.int (kI (e : Int)))] [] h0 (0, 0) := by
    intro hm9
    refine up_ind (fun e he ih6 hno6 => ?_)
    refine hJ 6 _ _ rfl _ _ _ _ (x_iload rfl (x_sipush (x_br2 (fun q1 => have q1 := ge_y (n := 3) rfl (by omega) q1; hJ 8 _ _ rfl _ _ _ _ (x_iinc rfl rfl (x_goto (?_)))) (fun q1 => have q1 := ge_n (n := 3) rfl (by omega) q1; x_aload rfl (x_iload rfl (x_iload rfl (x_iload rfl (x_iload rfl (x_cv rfl (Nat.le_of_ble_eq_true rfl) (isO_W W0 (by decide) shp_80) (c7_payOfTwo (f := dg a) (e := e) W0 hK0 hV rfl rfl hm9 hn8 (by omega) (dg_lt m a) (hd m hm9) hcr (xk_go (x_aload rfl (x_iload rfl (x_aload rfl (w_getr W0 7 21 (t := 89) (by decide) shp_80 rfl rfl rfl (x_iload rfl (w_iald W0 m (by decide) shp_89 rfl (by omega) (by decide) (x_iload rfl (x_iload rfl (x_cv rfl (Nat.le_of_ble_eq_true rfl) (isO_W W0 (by decide) shp_80) (c7_payOfTwo (f := dg a) (e := dg a m) W0 hK0 hV rfl (hd m hm9) hm9 hn8 (dg_lt m a) (dg_lt m a) (hd m hm9) hcr (xk_go (x_br2 (fun q2 => have q2 := cy_le q2; hJ 7 _ _ rfl _ _ _ _ (x_iinc rfl rfl (x_goto (?_)))) (fun q2 => have q2 := cn_le q2; x_sipush (x_iret (by first | exact nrwB _ | rfl | decide) ?_)))))))))))))))))))))))))
    · have e3 : e = 3 := by omega
      subst e3
      refine J_c (ih hm9 (fun j hj => ?_) z4 (some (.int (kI ((3 : Nat) : Int))))) (by simp only [sI, kN_succ])
      by_cases ej : j = m
      · rw [ej]
        exact decide_eq_true (fun z => z.elim (hno6 0 (by omega)) (fun z => z.elim (hno6 1 (by omega)) (hno6 2 (by omega))))
      · exact hno j (by omega)
    · refine J_c (ih6 q1 (fun e' he' => ?_)) (by simp only [sI, kN_succ])
      by_cases ee : e' = e
      · rw [ee]
        exact Int32.not_lt.mpr q2
      · exact hno6 e' (by omega)
    · have hb : rstB V q u a = false := decide_eq_false (fun z => by
        have z2 := of_decide_eq_true (z m hm9)
        have h3 : e = 0 ∨ e = 1 ∨ e = 2 := by omega
        rcases h3 with rfl | rfl | rfl
        · exact z2 (Or.inl q2)
        · exact z2 (Or.inr (Or.inl q2))
        · exact z2 (Or.inr (Or.inr q2)))
      rw [hb] at kk
      exact kk h0 w0 W0 hk
  refine hJ 5 _ _ rfl _ _ _ _ (x_iload rfl (x_aload rfl (x_cv rfl (Nat.le_of_ble_eq_true rfl) (isO_W W0 (by decide) shp_80) (c7_many W0 hK0 hV (xk_go (x_br2 (fun q1 => have q1 := ge_y rfl (by omega) q1; hJ 9 _ _ rfl _ _ _ _ (x_sipush (x_iret (by first | exact nrwB _ | rfl | decide) ?_))) (fun q1 => have q1 := ge_n rfl (by omega) q1; x_sipush (x_istore rfl (x_goto (?_))))))))))
  · have hb : rstB V q u a = true := decide_eq_true (fun j hj => hno j (by omega))
    rw [hb] at kk
    exact kk h0 w0 W0 hk
  · exact loop6 q1 0 (Nat.zero_le _) (fun e' he' => by omega)
theorem m_two {x y z : Int32} (W : WW ad w h) (hK : wa w 81 = V) (hV : VOK V) (kk : KQ ad P w (twoT V x y) (.int (twoV V x y z))) : WP ga L xs (d + 9) 205 [.ref (ad 80), .int x, .int y, .int z] h P := by
  have hn := hV.n.2
  have wx : inV x 1 12 = decide ((Int64.ofNat 1).toInt ≤ x.toInt64.toInt ∧ x.toInt64.toInt ≤ (Int64.ofNat 12).toInt) := (inV_l (a := 1) (b := 12) (by omega) (by omega)).symm
  have wy : inV y 0 999 = decide ((Int64.ofNat 0).toInt ≤ y.toInt64.toInt ∧ y.toInt64.toInt ≤ (Int64.ofNat 999).toInt) := (inV_l (a := 0) (b := 999) (by omega) (by omega)).symm
  unfold twoT at kk
  refine WP.enter kX7_two (Nat.le_of_ble_eq_true rfl) (fun J hJ => ?_)
  have loop8 : inV x 1 12 = true → inV y 0 999 = true → nm V ≤ 8 → ∀ n, n ≤ 3 ^ nm V → ∀ h' w' c, WW ad w' h' → kp SM w w' → kf FM w w' → wn w' 80 4 = kI 0 → fo (kthF (rstB V x y) z) (none, 0) n = (none, c) → J 8 [some (.ref (ad 80)), some (.int x), some (.int y), some (.int z), some (.int (kI ((3 ^ nm V : Nat) : Int))), some (.int (kI (c : Int))), some (.int (kI (n : Int)))] [] h' (0, 0) := fun hx hy hn8 => ?_
  · have loop6 : inV x 1 12 = true → inV y 0 999 = true → nm V ≤ 8 → ∀ h0 w0, WW ad w0 h0 → kp SM w w0 → kf FM w w0 → wn w0 80 4 = kI 0 → ∀ m, m ≤ nm V → J 6 [some (.ref (ad 80)), some (.int x), some (.int y), some (.int z), some (.int (kI ((3 ^ m : Nat) : Int))), some (.int (kI (m : Int))), none] [] h0 (0, 0) := fun hx hy hn8 h0 w0 W0 k0 f0 n0 => up_ind (fun m hm ih => ?_)
    · refine hJ 0 _ _ rfl _ _ _ _ (x_aload rfl (x_iload rfl (x_i2l (x_ldc2 (x_ldc2 (x_cs rfl (Nat.le_of_ble_eq_true rfl) (c7_within (xk_go (x_br (fun q1 => have q1 := bI_eq0.mp q1; hJ 1 _ _ rfl _ _ _ _ (x_sipush (x_goto (hJ 4 _ _ rfl _ _ _ _ (w_puti W 7 4 (by decide) shp_80 rfl rfl (okI rfl) (fun h1 W1 => x_aload rfl (w_geti W1 7 4 (by decide) shp_80 rfl rfl (x_br (fun q2 => absurd (show kI (1) ≤ 0 from q2) (by decide)) (fun q2 => x_sipush (x_iret (nrwI _) ?_)))))))))) (fun q1 => have q1 := bI_ne0.mp q1; x_iload rfl (x_i2l (x_ldc2 (x_ldc2 (x_cs rfl (Nat.le_of_ble_eq_true rfl) (c7_within (xk_go (x_br (fun q3 => have q3 := bI_ne0.mp q3; hJ 2 _ _ rfl _ _ _ _ (x_aload rfl (x_cv rfl (Nat.le_of_ble_eq_true rfl) (isO_W W (by decide) shp_80) (c7_many W hK hV (xk_go (x_sipush (x_br2 (fun q4 => have q4 := cy_le q4; hJ 3 _ _ rfl _ _ _ _ (x_sipush (x_goto (hJ 4 _ _ rfl _ _ _ _ (w_puti W 7 4 (by decide) shp_80 rfl rfl (okI rfl) (fun h2 W2 => x_aload rfl (w_geti W2 7 4 (by decide) shp_80 rfl rfl (x_br (fun q5 => hJ 5 _ _ rfl _ _ _ _ (x_sipush (x_istore rfl (x_sipush (x_istore rfl (x_goto (?_))))))) (fun q5 => absurd (show kI (0) ≤ 0 by decide) q5))))))))) (fun q4 => have q4 := cn_le q4; x_sipush (x_goto (hJ 4 _ _ rfl _ _ _ _ (w_puti W 7 4 (by decide) shp_80 rfl rfl (okI rfl) (fun h3 W3 => x_aload rfl (w_geti W3 7 4 (by decide) shp_80 rfl rfl (x_br (fun q6 => absurd (show kI (2) ≤ 0 from q6) (by decide)) (fun q6 => x_sipush (x_iret (nrwI _) ?_)))))))))))))))) (fun q3 => have q3 := bI_nn q3; x_goto (hJ 1 _ _ rfl _ _ _ _ (x_sipush (x_goto (hJ 4 _ _ rfl _ _ _ _ (w_puti W 7 4 (by decide) shp_80 rfl rfl (okI rfl) (fun h4 W4 => x_aload rfl (w_geti W4 7 4 (by decide) shp_80 rfl rfl (x_br (fun q7 => absurd (show kI (1) ≤ 0 from q7) (by decide)) (fun q7 => x_sipush (x_iret (nrwI _) ?_))))))))))))))))))))))))))))
      · exact kk.go W1 kpM4 kfM4 (if_neg (fun z => by rw [wx, q1] at z; cases z.1)) wn4 (fun h => by cases h)
      · have q4 := (kN_le (b := 8) (by omega) (by omega)).mp q4
        exact J_c (loop6 (wx.trans q1) (wy.trans q3) q4 _ _ W2 kpM4 kfM4 wn4 0 (Nat.zero_le _)) rfl
      · have q4 := (kN_lt (a := 8) (by omega) (by omega)).mp q4
        exact kk.go W3 kpM4 kfM4 (by rw [if_pos ⟨wx.trans q1, wy.trans q3⟩, if_pos q4]) wn4 (fun h => by cases h)
      · exact kk.go W4 kpM4 kfM4 (if_neg (fun z => by rw [wy, q3] at z; cases z.2)) wn4 (fun h => by cases h)
    have hK0 : wa w0 81 = V := (k0 81 (by decide)).2.2.1.trans hK
    have e3 : kI ((3 ^ m : Nat) : Int) * kI 3 = kI ((3 ^ (m + 1) : Nat) : Int) := by
      rw [Nat.pow_succ]
      exact kN_mul (3 ^ m) 3
    refine hJ 6 _ _ rfl _ _ _ _ (x_iload rfl (x_aload rfl (x_cv rfl (Nat.le_of_ble_eq_true rfl) (isO_W W0 (by decide) shp_80) (c7_many W0 hK0 hV (xk_go (x_br2 (fun q1 => have q1 := ge_y rfl (by omega) q1; hJ 7 _ _ rfl _ _ _ _ (x_sipush (x_istore rfl (x_sipush (x_istore rfl (x_goto (?_))))))) (fun q1 => have q1 := ge_n rfl (by omega) q1; x_iload rfl (x_sipush (x_imul (x_eqi e3 (x_istore rfl (x_iinc rfl rfl (x_goto (?_))))))))))))))
    · have e : m = nm V := by omega
      subst e
      exact loop8 hx hy hn8 0 (Nat.zero_le _) _ _ 0 W0 k0 f0 n0 rfl
    · exact J_c (ih q1) (by simp only [sI, kN_succ])
  have hp3 := pow3 hn8
  have hT : (if inV x 1 12 = true ∧ inV y 0 999 = true then (if 8 < nm V then 2 else 0) else 1) = 0 := by rw [if_pos ⟨hx, hy⟩, if_neg (by omega)]
  refine up_ind (fun n hm ih h0 w0 c W0 k0 f0 n0 hst => ?_)
  have hK0 : wa w0 81 = V := (k0 81 (by decide)).2.2.1.trans hK
  have hcn := kth_cnt hst
  unfold twoV at kk
  refine hJ 8 _ _ rfl _ _ _ _ (x_iload rfl (x_iload rfl (x_br2 (fun q1 => have q1 := ge_y rfl (by omega) q1; hJ 12 _ _ rfl _ _ _ _ (x_iload rfl (x_sipush (x_br2 (fun q2 => have q2 := cy_ne q2; hJ 13 _ _ rfl _ _ _ _ (x_sipush (x_goto (hJ 14 _ _ rfl _ _ _ _ (x_iret (nrwI _) ?_))))) (fun q2 => have q2 := cn_ne q2; x_iload rfl (x_goto (hJ 14 _ _ rfl _ _ _ _ (x_iret (nrwI _) ?_)))))))) (fun q1 => have q1 := ge_n rfl (by omega) q1; x_aload rfl (x_iload rfl (x_iload rfl (x_iload rfl (x_cv rfl (Nat.le_of_ble_eq_true rfl) (isO_W W0 (by decide) shp_80) (c7_restsInTwo W0 hK0 hV hn8 rfl (by omega) (fun h1 w1 W1 e1 => xk_go (x_br (fun q3 => have q3 := bI_ne0.mp q3; hJ 9 _ _ rfl _ _ _ _ (x_iload rfl (x_iload rfl (x_br2 (fun q4 => have q4 := cy_ne q4; hJ 10 _ _ rfl _ _ _ _ (x_iinc rfl rfl (x_goto (hJ 11 _ _ rfl _ _ _ _ (x_iinc rfl rfl (x_goto (?_))))))) (fun q4 => have q4 := cn_ne q4; x_iload rfl (x_iret (nrwI _) ?_)))))) (fun q3 => have q3 := bI_nn q3; x_goto (hJ 11 _ _ rfl _ _ _ _ (x_iinc rfl rfl (x_goto (?_))))))))))))))))
  · have e : n = 3 ^ nm V := by omega
    rw [e] at hst
    rw [kth_end hst, if_neg q2] at kk
    exact kk.go W0 k0 f0 hT n0 (fun _ => rfl)
  · have e : n = 3 ^ nm V := by omega
    rw [e] at hst
    rw [kth_end hst, if_pos q2] at kk
    exact kk.go W0 k0 f0 hT n0 (fun _ => rfl)
  · exact J_c (ih q1 h1 _ _ W1 (k0.trans (e1.mono l8990)) (f0.trans (kf_of e1 (by simp))) (by rw [(e1 80 (by simp)).1]; exact n0) (kth_go hst q3 q4)) (by simp only [sI, kN_succ])
  · rw [kth_stop hst q3 q4 q1] at kk
    exact kk.go W1 (k0.trans (e1.mono l8990)) (f0.trans (kf_of e1 (by simp))) hT (by rw [(e1 80 (by simp)).1]; exact n0) (fun _ => rfl)
  · exact J_c (ih q1 h1 _ _ W1 (k0.trans (e1.mono l8990)) (f0.trans (kf_of e1 (by simp))) (by rw [(e1 80 (by simp)).1]; exact n0) (kth_no hst q3)) (by simp only [sI, kN_succ])
end W1
