/-! ===== two clubs: the model ===== -/
def lf (n : Nat) : Nat → Nat
  | 0 => n
  | m + 1 => lf n m / 3
theorem lf_3 (n : Nat) : ∀ m, lf (n / 3) m = lf n (m + 1)
  | 0 => rfl
  | m + 1 => by
    show lf (n / 3) m / 3 = lf n (m + 1) / 3
    rw [lf_3 n m]
theorem dg_lf : ∀ m n, dg n m = lf n m % 3
  | 0, n => rfl
  | m + 1, n => by
    show dg (n / 3) m = _
    rw [dg_lf m (n / 3), lf_3]
theorem lf_le (n : Nat) : ∀ m, lf n m ≤ n
  | 0 => Nat.le_refl _
  | m + 1 => by
    have := lf_le n m
    show lf n m / 3 ≤ n
    omega
theorem l8990 : ∀ a ∈ [89, 90], a ∈ SM := by decide
section W1
variable {ga : Nat → Nat} {L : Nat} {xs : Nat → Int32} {d : Nat} {h : ac_H} {P : ac_P} {ad : Nat → Nat} {w : Wst} {V : VT}
theorem c7_payOfTwo {x y q u : Int32} {m e : Nat} {f : Nat → Nat} (W : WW ad w h) (hK : wa w 81 = V) (hV : VOK V) (hx : x = kI (m : Int)) (hy : y = kI (e : Int)) (hm : m < nm V) (hn8 : nm V ≤ 8) (he : e < 3) (hfm : f m < 3) (hd : wa w 89 m = kI (f m : Int)) (hcr : ∀ e, e < 3 → wa w 90 e = kI (crw f (nm V) e : Int)) (hP : P (.inl (some (.int (payT V q u f m e)))) h) : WP ga L xs (d + 2) 203 [.ref (ad 80), .int x, .int y, .int q, .int u] h P := by
  subst hx hy
  have i1 : ∀ a b : Nat, a < 3 → b < 3 → (kI (a : Int) = kI (b : Int) ↔ a = b) := fun a b h9 h8 => kN_inj (by omega) (by omega)
  refine WP.enter kX7_payOfTwo (Nat.le_of_ble_eq_true rfl) (fun J hJ => ?_)
  have b3 : ¬ e = 0 → ∀ v, v = kI ((if f m = e then 0 else 1 : Nat) : Int) → J 3 [some (.ref (ad 80)), some (.int (kI (m : Int))), some (.int (kI (e : Int))), some (.int q), some (.int u), none] [.int v, .int (wa w 90 e)] h (0, 0) := fun he0 v hv => ?_
  · refine hJ 0 _ _ rfl _ _ _ _ (x_iload rfl (x_br (fun q1 => have q1 := cy_ne q1; hJ 1 _ _ rfl _ _ _ _ (x_aload rfl (w_getr W 7 22 (t := 90) (by decide) shp_80 rfl rfl rfl (x_iload rfl (w_iald W e (by decide) shp_90 rfl (by omega) (by decide) (x_aload rfl (w_getr W 7 21 (t := 89) (by decide) shp_80 rfl rfl rfl (x_iload rfl (w_iald W m (by decide) shp_89 rfl (by omega) (by decide) (x_iload rfl (x_br2 (fun q2 => have q2 := cy_ne q2; hJ 2 _ _ rfl _ _ _ _ (x_sipush (x_goto (?_)))) (fun q2 => have q2 := cn_ne q2; x_sipush (x_goto (?_)))))))))))))) (fun q1 => have q1 := cn_ne q1; x_sipush (x_iret (nrwI _) ?_))))
    · have q1 : ¬ kI (e : Int) = kI ((0 : Nat) : Int) := q1
      rw [i1 _ _ he (by omega)] at q1
      rw [hd, i1 _ _ hfm he] at q2
      exact b3 q1 _ (by rw [if_neg q2]; rfl)
    · have q1 : ¬ kI (e : Int) = kI ((0 : Nat) : Int) := q1
      rw [i1 _ _ he (by omega)] at q1
      rw [hd, i1 _ _ hfm he] at q2
      exact b3 q1 _ (by rw [if_pos q2]; rfl)
    · have q1 : kI (e : Int) = kI ((0 : Nat) : Int) := q1
      rw [i1 _ _ he (by omega)] at q1
      unfold payT at hP
      rw [if_pos q1] at hP
      exact hP
  have ev : wa w 90 e + v = kI ((crw f (nm V) e + (if f m = e then 0 else 1) : Nat) : Int) := by rw [hcr e he, hv, kN_add]
  have ec : V (6 + 4 * m + 2) = vC V m := by
    unfold vC
    rw [show 6 + 4 * m + 2 = 8 + 4 * m by omega]
  unfold payT at hP
  rw [if_neg he0] at hP
  refine hJ 3 _ _ rfl _ _ _ _ (x_iadd (x_istore rfl (x_iload rfl (x_sipush (x_br2 (fun q1 => have q1 := cy_ne q1; hJ 5 _ _ rfl _ _ _ _ (x_iload rfl (x_iload rfl (x_br2 (fun q2 => have q2 := cy_ne q2; hJ 6 _ _ rfl _ _ _ _ (x_sipush (x_goto (hJ 7 _ _ rfl _ _ _ _ (x_aload rfl (x_iload rfl (x_sipush (x_cv rfl (Nat.le_of_ble_eq_true rfl) (isO_W W (by decide) shp_80) (c7_of W hK rfl rfl (by omega) (by decide) (xk_go (x_isub (x_iret (nrwI _) ?_)))))))))))) (fun q2 => have q2 := cn_ne q2; x_iload rfl (x_goto (hJ 7 _ _ rfl _ _ _ _ (x_aload rfl (x_iload rfl (x_sipush (x_cv rfl (Nat.le_of_ble_eq_true rfl) (isO_W W (by decide) shp_80) (c7_of W hK rfl rfl (by omega) (by decide) (xk_go (x_isub (x_iret (nrwI _) ?_))))))))))))))) (fun q1 => have q1 := cn_ne q1; x_iload rfl (x_aload rfl (w_getr W 7 0 (t := 81) (by decide) shp_80 rfl rfl rfl (x_sipush (w_iald W 1 (by decide) shp_81 rfl (by decide) (by decide) (x_br2 (fun q3 => have q3 := cy_ne q3; hJ 4 _ _ rfl _ _ _ _ (x_sipush (x_goto (hJ 7 _ _ rfl _ _ _ _ (x_aload rfl (x_iload rfl (x_sipush (x_cv rfl (Nat.le_of_ble_eq_true rfl) (isO_W W (by decide) shp_80) (c7_of W hK rfl rfl (by omega) (by decide) (xk_go (x_isub (x_iret (nrwI _) ?_)))))))))))) (fun q3 => have q3 := cn_ne q3; x_aload rfl (w_getr W 7 0 (t := 81) (by decide) shp_80 rfl rfl rfl (x_sipush (w_iald W 2 (by decide) shp_81 rfl (by decide) (by decide) (x_goto (hJ 7 _ _ rfl _ _ _ _ (x_aload rfl (x_iload rfl (x_sipush (x_cv rfl (Nat.le_of_ble_eq_true rfl) (isO_W W (by decide) shp_80) (c7_of W hK rfl rfl (by omega) (by decide) (xk_go (x_isub (x_iret (nrwI _) ?_)))))))))))))))))))))))))
LEAVESP
theorem c7_restsInTwo {x q u : Int32} {a : Nat} (W : WW ad w h) (hK : wa w 81 = V) (hV : VOK V) (hn8 : nm V ≤ 8) (hx : x = kI (a : Int)) (ha : a ≤ 10000) (kk : ∀ h' w', WW ad w' h' → kp [89, 90] w w' → P (.inl (some (.int (bI (rstB V q u a))))) h') : WP ga L xs (d + 3) 204 [.ref (ad 80), .int x, .int q, .int u] h P := by
  subst hx
  refine WP.enter kX7_restsInTwo (Nat.le_of_ble_eq_true rfl) (fun J hJ => ?_)
  have loop5 : ∀ h0 w0, WW ad w0 h0 → kp [89, 90] w w0 → (∀ j, j < nm V → wa w0 89 j = kI (dg a j : Int)) → (∀ e, e < 3 → wa w0 90 e = kI (crw (dg a) (nm V) e : Int)) → ∀ m, m ≤ nm V → (∀ j, j < m → rstM V q u (dg a) j = true) → ∀ z4 z6, J 5 [some (.ref (ad 80)), some (.int (kI (a : Int))), some (.int q), some (.int u), z4, some (.int (kI (m : Int))), z6] [] h0 (0, 0) := fun h0 w0 W0 hk hd hcr => ?_
  · have loop3 : ∀ m, m ≤ nm V → ∀ h' w', WW ad w' h' → kp [89, 90] w w' → (∀ j, j < m → wa w' 89 j = kI (dg a j : Int)) → (∀ e, e < 3 → wa w' 90 e = kI (crw (dg a) m e : Int)) → J 3 [some (.ref (ad 80)), some (.int (kI (a : Int))), some (.int q), some (.int u), some (.int (kI (lf a m : Int))), some (.int (kI (m : Int))), none] [] h' (0, 0) := up_ind (fun m hm ih h0 w0 W0 hk hd hcr => ?_)
    · have loop1 : ∀ m, m ≤ 3 → ∀ h' w', WW ad w' h' → kp [89, 90] w w' → (∀ e, e < m → wa w' 90 e = kI 0) → J 1 [some (.ref (ad 80)), some (.int (kI (a : Int))), some (.int q), some (.int u), some (.int (kI (m : Int))), none, none] [] h' (0, 0) := up_ind (fun m hm ih h0 w0 W0 hk hcr => ?_)
      · refine hJ 0 _ _ rfl _ _ _ _ (x_sipush (x_istore rfl (x_goto (?_))))
        exact loop1 0 (Nat.zero_le _) _ _ W kp_refl (fun j hj => by omega)
      refine hJ 1 _ _ rfl _ _ _ _ (x_iload rfl (x_sipush (x_br2 (fun q1 => have q1 := ge_y (n := 3) rfl (by omega) q1; hJ 2 _ _ rfl _ _ _ _ (x_iload rfl (x_istore rfl (x_sipush (x_istore rfl (x_goto (?_))))))) (fun q1 => have q1 := ge_n (n := 3) rfl (by omega) q1; x_aload rfl (w_getr W0 7 22 (t := 90) (by decide) shp_80 rfl rfl rfl (x_iload rfl (x_sipush (w_iast W0 m (by decide) shp_90 rfl (by omega) (by decide) (fun h1 W1 => x_iinc rfl rfl (x_goto (?_)))))))))))
      · exact loop3 0 (Nat.zero_le _) _ _ W0 hk (fun j hj => by omega) (fun e he => hcr e (by omega))
      · refine J_c (ih q1 h1 _ W1 (hk.trans (kp_sa (by simp))) (fun e he => ?_)) (by simp only [sI, kN_succ])
        rw [wa_self]
        by_cases ee : e = m
        · rw [ee, upd_self]
        · rw [upd_ne ee]
          exact hcr e (by omega)
    have hK0 : wa w0 81 = V := (hk 81 (by simp)).2.2.1.trans hK
    have hlf := lf_le a m
    have hdl := dg_lf m a
    have hd3 := dg_lt m a
    have hix : wa (sa w0 89 (upd (wa w0 89) m (kI ((lf a m % 3 : Nat) : Int)))) 89 m = kI (dg a m : Int) := by rw [wa_self, upd_self, hdl]
    have hcl := crw_le (dg a) m (dg a m)
    refine hJ 3 _ _ rfl _ _ _ _ (x_iload rfl (x_aload rfl (x_cv rfl (Nat.le_of_ble_eq_true rfl) (isO_W W0 (by decide) shp_80) (c7_many W0 hK0 hV (xk_go (x_br2 (fun q1 => have q1 := ge_y rfl (by omega) q1; hJ 4 _ _ rfl _ _ _ _ (x_sipush (x_istore rfl (x_goto (?_))))) (fun q1 => have q1 := ge_n rfl (by omega) q1; x_aload rfl (w_getr W0 7 21 (t := 89) (by decide) shp_80 rfl rfl rfl (x_iload rfl (x_iload rfl (x_sipush (x_irem (fun z => absurd z (by decide)) (x_eqi (kN_rem (b := 3) (by omega) (by omega)) (w_iast W0 m (by decide) shp_89 rfl (by omega) (by decide) (fun h1 W1 => x_aload rfl (w_getr W1 7 22 (t := 90) (by decide) shp_80 rfl rfl rfl (x_aload rfl (w_getr W1 7 21 (t := 89) (by decide) shp_80 rfl rfl rfl (x_iload rfl (w_iald W1 m (by decide) shp_89 rfl (by omega) (by decide) (x_dup2 (w_iald W1 (dg a m) (by decide) shp_90 hix (by omega) (by decide) (x_sipush (x_iadd (w_iast W1 (dg a m) (by decide) shp_90 hix (by omega) (by decide) (fun h2 W2 => x_iload rfl (x_sipush (x_idiv (fun z => absurd z (by decide)) (x_eqi (kN_div (b := 3) (by omega) (by omega)) (x_istore rfl (x_iinc rfl rfl (x_goto (?_)))))))))))))))))))))))))))))))))
LEAVES3
  have hK0 : wa w0 81 = V := (hk 81 (by simp)).2.2.1.trans hK
  refine up_ind (fun m hm ih hno z4 z6 => ?_)
  have loop6 : m < nm V → ∀ e, e ≤ 3 → (∀ e', e' < e → ¬ payT V q u (dg a) m (dg a m) < payT V q u (dg a) m e') → J 6 [some (.ref (ad 80)), some (.int (kI (a : Int))), some (.int q), some (.int u), z4, some (.int (kI (m : Int))), some (.int (kI (e : Int)))] [] h0 (0, 0) := by
    intro hm9
    refine up_ind (fun e he ih6 hno6 => ?_)
    refine hJ 6 _ _ rfl _ _ _ _ (x_iload rfl (x_sipush (x_br2 (fun q1 => have q1 := ge_y (n := 3) rfl (by omega) q1; hJ 8 _ _ rfl _ _ _ _ (x_iinc rfl rfl (x_goto (?_)))) (fun q1 => have q1 := ge_n (n := 3) rfl (by omega) q1; x_aload rfl (x_iload rfl (x_iload rfl (x_iload rfl (x_iload rfl (x_cv rfl (Nat.le_of_ble_eq_true rfl) (isO_W W0 (by decide) shp_80) (c7_payOfTwo (f := dg a) (e := e) W0 hK0 hV rfl rfl hm9 hn8 (by omega) (dg_lt m a) (hd m hm9) hcr (xk_go (x_aload rfl (x_iload rfl (x_aload rfl (w_getr W0 7 21 (t := 89) (by decide) shp_80 rfl rfl rfl (x_iload rfl (w_iald W0 m (by decide) shp_89 rfl (by omega) (by decide) (x_iload rfl (x_iload rfl (x_cv rfl (Nat.le_of_ble_eq_true rfl) (isO_W W0 (by decide) shp_80) (c7_payOfTwo (f := dg a) (e := dg a m) W0 hK0 hV rfl (hd m hm9) hm9 hn8 (dg_lt m a) (dg_lt m a) (hd m hm9) hcr (xk_go (x_br2 (fun q2 => have q2 := cy_le q2; hJ 7 _ _ rfl _ _ _ _ (x_iinc rfl rfl (x_goto (?_)))) (fun q2 => have q2 := cn_le q2; x_sipush (x_iret (by first | exact nrwB _ | rfl | decide) ?_)))))))))))))))))))))))))
LEAVES6
  refine hJ 5 _ _ rfl _ _ _ _ (x_iload rfl (x_aload rfl (x_cv rfl (Nat.le_of_ble_eq_true rfl) (isO_W W0 (by decide) shp_80) (c7_many W0 hK0 hV (xk_go (x_br2 (fun q1 => have q1 := ge_y rfl (by omega) q1; hJ 9 _ _ rfl _ _ _ _ (x_sipush (x_iret (by first | exact nrwB _ | rfl | decide) ?_))) (fun q1 => have q1 := ge_n rfl (by omega) q1; x_sipush (x_istore rfl (x_goto (?_))))))))))
LEAVES5
