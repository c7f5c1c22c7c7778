/-! ===== the reader: words, numbers, refusals ===== -/
section W1
variable {τ : Nat → Nat} {n : Nat} {t : TK}
variable {ga : Nat → Nat} {L : Nat} {xs : Nat → Int32} {d : Nat} {h : ac_H} {P : ac_P} {ad : Nat → Nat} {w : Wst} {i : Nat} {V : VT}
theorem kinj5 {a b : Nat} (h1 : a ≤ 100000) (h2 : b ≤ 100000) : kI (a : Int) = kI (b : Int) ↔ a = b := kN_inj (by omega) (by omega)
theorem c_isWord {x : Nat} (W : WW ad w h) (hd : RdC w τ n t) (ht : tkOK τ n t) (hn7 : n ≤ 700) (hτ : ∀ k, τ k < 256) (hx : x < 17) (hP : P (.inl (some (.int (bI (isW τ t x))))) h) : WP ga L xs (d + 1) 52 [.ref (ad 42), .ref (ga (3 + x))] h P := by
  have hlen : (sl x).length < 100 := (sl_ok x hx).2.1
  have hk5 := ht.2.2.1
  have hes := ht.1
  have hen := ht.2.1
  have e57 : wn w 42 5 - wn w 42 7 = kI ((t.2.1 - t.1 : Nat) : Int) := by
    rw [hd.2.1, hd.2.2.2.1, kI_sub]
    exact congrArg kI (by omega)
  refine WP.enter kX2_isWord (Nat.le_of_ble_eq_true rfl) (fun J hJ => ?_)
  have loop : t.2.2 = 1 → t.2.1 - t.1 = (sl x).length → ∀ m, m ≤ (sl x).length → (∀ i, i < m → kI (τ (t.1 + i) : Int) = (sl x).getD i 0) → J 3 [some (.ref (ad 42)), some (.ref (ga (3 + x))), some (.int (kI (m : Int)))] [] h (0, 0) := fun hk1 hle => up_ind (fun m hm ih hal => ?_)
  · refine hJ 0 _ _ rfl _ _ _ _ (x_aload rfl (w_geti W 2 6 (by decide) shp_42 rfl rfl (x_sipush (x_br2 (fun q1 => have q1 := cy_ne q1; hJ 1 _ _ rfl _ _ _ _ (x_sipush (x_iret (by first | exact nrwB _ | rfl | decide) ?_))) (fun q1 => have q1 := cn_ne q1; x_aload rfl (w_geti W 2 5 (by decide) shp_42 rfl rfl (x_aload rfl (w_geti W 2 7 (by decide) shp_42 rfl rfl (x_isub (x_aload rfl (x_slen hx (Nat.le_of_ble_eq_true rfl) (x_br2 (fun q2 => have q2 := cy_eq q2; hJ 2 _ _ rfl _ _ _ _ (x_sipush (x_istore rfl (x_goto (?_))))) (fun q2 => have q2 := cn_eq q2; x_goto (hJ 1 _ _ rfl _ _ _ _ (x_sipush (x_iret (by first | exact nrwB _ | rfl | decide) ?_))))))))))))))))
    · rw [hd.2.2.1] at q1
      have e : isW τ t x = false := by
        unfold isW
        rw [decide_eq_false (fun z => q1 (by rw [z.1]; rfl)), Bool.false_and]
      rw [e] at hP
      exact hP
    · rw [hd.2.2.1] at q1
      rw [e57, ofN_kI, kinj5 (by omega) (by omega)] at q2
      exact loop ((kinj5 (b := 1) (by omega) (by omega)).mp q1) q2 0 (Nat.zero_le _) (fun i hi => by omega)
    · rw [e57, ofN_kI, kinj5 (by omega) (by omega)] at q2
      have e : isW τ t x = false := by
        unfold isW
        rw [decide_eq_false (fun z => q2 z.2), Bool.false_and]
      rw [e] at hP
      exact hP
  have hch : m < (sl x).length → (wa w 43 (t.1 + m) = (sl x).getD m 0 ↔ kI (τ (t.1 + m) : Int) = (sl x).getD m 0) := fun h9 => by
    obtain ⟨c1, c2⟩ := sl_chr x hx m h9
    rw [hd.2.2.2.2 _ (by omega), c1, sx_eq _ (hτ _) _ c2, kN_inj (by have := hτ (t.1 + m); omega) (by omega)]
  refine hJ 3 _ _ rfl _ _ _ _ (x_iload rfl (x_aload rfl (x_slen hx (Nat.le_of_ble_eq_true rfl) (x_br2 (fun q1 => have q1 := ge_y (ofN_kI _) (by omega) q1; hJ 5 _ _ rfl _ _ _ _ (x_sipush (x_iret (by first | exact nrwB _ | rfl | decide) ?_))) (fun q1 => have q1 := ge_n (ofN_kI _) (by omega) q1; x_aload rfl (w_getr W 2 0 (t := 43) (by decide) shp_42 rfl rfl rfl (x_aload rfl (w_geti W 2 7 (by decide) shp_42 rfl rfl (x_iload rfl (x_iadd (w_bald W (t.1 + m) (by decide) shp_43 (by decide) (by rw [hd.2.2.2.1]; exact kN_add _ _) (by omega) (by decide) (x_aload rfl (x_iload rfl (x_schr hx rfl q1 (Nat.le_of_ble_eq_true rfl) (x_br2 (fun q2 => have q2 := cy_eq q2; hJ 4 _ _ rfl _ _ _ _ (x_iinc rfl rfl (x_goto (?_)))) (fun q2 => have q2 := cn_eq q2; x_sipush (x_iret (by first | exact nrwB _ | rfl | decide) ?_)))))))))))))))))
  · have e : isW τ t x = true := by
      unfold isW
      rw [decide_eq_true ⟨hk1, hle⟩, decide_eq_true (fun i hi => hal i (by omega))]
      rfl
    rw [e] at hP
    exact hP
  · rw [hch q1] at q2
    refine J_c (ih q1 (fun i hi => ?_)) (by simp only [sI, kN_succ])
    by_cases ei : i = m
    · rw [ei]; exact q2
    · exact hal i (by omega)
  · rw [hch q1] at q2
    have e : isW τ t x = false := by
      unfold isW
      rw [decide_eq_true ⟨hk1, hle⟩, decide_eq_false (fun z => q2 (z m q1))]
      rfl
    rw [e] at hP
    exact hP
theorem c_refuse {x : Int32} (W : WW ad w h) (kk : ∀ h', WW ad (sn (sn w 42 2 x) 42 3 (wn w 42 7)) h' → P (.inl (some (.int (bI false)))) h') : WP ga L xs (d + 1) 51 [.ref (ad 42), .int x] h P := by
  refine WP.enter kX2_refuse (Nat.le_of_ble_eq_true rfl) (fun J hJ => ?_)
  refine hJ 0 _ _ rfl _ _ _ _ (x_aload rfl (x_iload rfl (w_puti W 2 2 (by decide) shp_42 rfl rfl (okI rfl) (fun h1 W1 => x_aload rfl (x_aload rfl (w_geti W1 2 7 (by decide) shp_42 rfl rfl (w_puti W1 2 3 (by decide) shp_42 rfl rfl (okI rfl) (fun h2 W2 => x_sipush (x_iret (by first | exact nrwB _ | rfl | decide) ?_)))))))))
  rw [wn_sn, if_neg (fun z => by cases z.2)] at W2
  exact kk _ W2
theorem flt_of {f : Ft} (W : WW ad w h) (hd : RdC w τ n t) (h2 : f.2 = t.1) {x : Int32} (hx : x = kI (f.1 : Int)) : kR lflt w (sn (sn w 42 2 x) 42 3 (wn w 42 7)) ∧ wn (sn (sn w 42 2 x) 42 3 (wn w 42 7)) 42 2 = kI (f.1 : Int) ∧ wn (sn (sn w 42 2 x) 42 3 (wn w 42 7)) 42 3 = kI (f.2 : Int) := ⟨(kR_sn (by decide)).trans (kR_sn (by decide)), by simp [wn_sn, hx], by simp [wn_sn, hd.2.2.2.1, h2]⟩
theorem c_misfit (W : WW ad w h) (hd : RdC w τ n t) (ht : tkOK τ n t) (hn7 : n ≤ 700) (hτ : ∀ k, τ k < 256) (kk : ∀ h' w', WW ad w' h' → kR lflt w w' → wn w' 42 2 = kI ((misf t).1 : Int) → wn w' 42 3 = kI ((misf t).2 : Int) → P (.inl (some (.int (bI false)))) h') : WP ga L xs (d + 2) 50 [.ref (ad 42)] h P := by
  have hk5 := ht.2.2.1
  refine WP.enter kX2_refuseMisfit (Nat.le_of_ble_eq_true rfl) (fun J hJ => ?_)
  refine hJ 0 _ _ rfl _ _ _ _ (x_aload rfl (x_aload rfl (w_geti W 2 6 (by decide) shp_42 rfl rfl (x_br (fun q1 => have q1 := cy_ne q1; hJ 1 _ _ rfl _ _ _ _ (x_sipush (x_goto (hJ 2 _ _ rfl _ _ _ _ (x_cv rfl (Nat.le_of_ble_eq_true rfl) (isO_W W (by decide) shp_42) (c_refuse W (fun h1 W1 => xk_go (x_iret (by first | exact nrwB _ | rfl | decide) ?_)))))))) (fun q1 => have q1 := cn_ne q1; x_sipush (x_goto (hJ 2 _ _ rfl _ _ _ _ (x_cv rfl (Nat.le_of_ble_eq_true rfl) (isO_W W (by decide) shp_42) (c_refuse W (fun h2 W2 => xk_go (x_iret (by first | exact nrwB _ | rfl | decide) ?_)))))))))))
  · have q1 : ¬ wn w 42 6 = kI ((0 : Nat) : Int) := q1
    rw [hd.2.2.1, kinj5 (by omega) (by omega)] at q1
    obtain ⟨g1, g2, g3⟩ := flt_of (f := misf t) W hd rfl (x := kI 2) (by show kI 2 = kI (((if t.2.2 = 0 then 1 else 2) : Nat) : Int); rw [if_neg q1]; rfl)
    exact kk h1 _ W1 g1 g2 g3
  · have q1 : wn w 42 6 = kI ((0 : Nat) : Int) := q1
    rw [hd.2.2.1, kinj5 (by omega) (by omega)] at q1
    obtain ⟨g1, g2, g3⟩ := flt_of (f := misf t) W hd rfl (x := kI 1) (by show kI 1 = kI (((if t.2.2 = 0 then 1 else 2) : Nat) : Int); rw [if_pos q1]; rfl)
    exact kk h2 _ W2 g1 g2 g3
theorem c_takeSemi (W : WW ad w h) (hd : RdC w τ n t) (ht : tkOK τ n t) (hn7 : n ≤ 700) (hτ : ∀ k, τ k < 256) (kf : ∀ f, semS τ n t = .inl f → ∀ h' w', WW ad w' h' → kR lflt w w' → wn w' 42 2 = kI (f.1 : Int) → wn w' 42 3 = kI (f.2 : Int) → P (.inl (some (.int (bI false)))) h') (kk : ∀ t', semS τ n t = .inr t' → ∀ h' w', WW ad w' h' → kR l567 w w' → RdC w' τ n t' → P (.inl (some (.int (bI true)))) h') : WP ga L xs (d + 3) 48 [.ref (ad 42)] h P := by
  have hk5 := ht.2.2.1
  refine WP.enter kX2_takeSemicolon (Nat.le_of_ble_eq_true rfl) (fun J hJ => ?_)
  refine hJ 0 _ _ rfl _ _ _ _ (x_aload rfl (w_geti W 2 6 (by decide) shp_42 rfl rfl (x_sipush (x_br2 (fun q1 => have q1 := cy_eq q1; hJ 1 _ _ rfl _ _ _ _ (x_aload rfl (x_cv rfl (Nat.le_of_ble_eq_true rfl) (isO_W W (by decide) shp_42) (c_advance W hd ht.2.1 hn7 hτ (fun h1 w1 W1 e1 r1 => xk_v (x_sipush (x_iret (by first | exact nrwB _ | rfl | decide) ?_))))))) (fun q1 => have q1 := cn_eq q1; x_aload rfl (x_cv rfl (Nat.le_of_ble_eq_true rfl) (isO_W W (by decide) shp_42) (c_misfit W hd ht hn7 hτ (fun h2 w2 W2 e2 f2 g2 => xk_go (x_iret (by first | exact nrwB _ | rfl | decide) ?_)))))))))
  · have q1 : wn w 42 6 = kI ((3 : Nat) : Int) := q1
    rw [hd.2.2.1, kinj5 (by omega) (by omega)] at q1
    exact kk _ (if_pos q1) h1 w1 W1 e1 r1
  · have q1 : ¬ wn w 42 6 = kI ((3 : Nat) : Int) := q1
    rw [hd.2.2.1, kinj5 (by omega) (by omega)] at q1
    exact kf _ (if_neg q1) h2 w2 W2 e2 f2 g2
theorem c_takeNum {lo hi : Nat} {x y : Int32} (W : WW ad w h) (hd : RdC w τ n t) (ht : tkOK τ n t) (hn7 : n ≤ 700) (hτ : ∀ k, τ k < 256) (hx : x = kI (lo : Int)) (hy : y = kI (hi : Int)) (hlo : lo ≤ 1000 ∧ hi ≤ 1000) (kf : ∀ f, numS τ n lo hi t = .inl f → ∀ h' w', WW ad w' h' → kR lflt w w' → wn w' 42 2 = kI (f.1 : Int) → wn w' 42 3 = kI (f.2 : Int) → P (.inl (some (.int (kI (-1))))) h') (kk : ∀ t' v, numS τ n lo hi t = .inr (t', v) → ∀ h' w', WW ad w' h' → kR l567 w w' → RdC w' τ n t' → P (.inl (some (.int (kI (v : Int))))) h') : WP ga L xs (d + 3) 49 [.ref (ad 42), .int x, .int y] h P := by
  subst hx hy
  have hk5 := ht.2.2.1
  have hes := ht.1
  have hen := ht.2.1
  refine WP.enter kX2_takeNumber (Nat.le_of_ble_eq_true rfl) (fun J hJ => ?_)
  have b3 : t.2.2 = 2 → J 3 [some (.ref (ad 42)), some (.int (kI (lo : Int))), some (.int (kI (hi : Int))), some (.int (kI (dv τ t.1 (t.2.1 - t.1) : Int))), some (.int (kI (t.2.1 : Int)))] [] h (0, 0) := fun hk2 => ?_
  · have loop : t.2.2 = 2 → ∀ m, m ≤ t.2.1 - t.1 → J 2 [some (.ref (ad 42)), some (.int (kI (lo : Int))), some (.int (kI (hi : Int))), some (.int (kI (dv τ t.1 m : Int))), some (.int (kI ((t.1 + m : Nat) : Int)))] [] h (0, 0) := fun hk2 => up_ind (fun m hm ih => ?_)
    · refine hJ 0 _ _ rfl _ _ _ _ (x_aload rfl (w_geti W 2 6 (by decide) shp_42 rfl rfl (x_sipush (x_br2 (fun q1 => have q1 := cy_eq q1; hJ 1 _ _ rfl _ _ _ _ (x_sipush (x_istore rfl (x_aload rfl (w_geti W 2 7 (by decide) shp_42 rfl rfl (x_istore rfl (x_goto (?_)))))))) (fun q1 => have q1 := cn_eq q1; x_aload rfl (x_cv rfl (Nat.le_of_ble_eq_true rfl) (isO_W W (by decide) shp_42) (c_misfit W hd ht hn7 hτ (fun h1 w1 W1 e1 f1 g1 => xk_go (x_popi (x_sipush (x_iret (nrwI _) ?_)))))))))))
      · have q1 : wn w 42 6 = kI ((2 : Nat) : Int) := q1
        rw [hd.2.2.1, kinj5 (by omega) (by omega)] at q1
        rw [hd.2.2.2.1]
        exact loop q1 0 (Nat.zero_le _)
      · have q1 : ¬ wn w 42 6 = kI ((2 : Nat) : Int) := q1
        rw [hd.2.2.1, kinj5 (by omega) (by omega)] at q1
        exact kf _ (if_neg q1) _ _ W1 e1 f1 g1
    obtain ⟨hd3, hdig⟩ := ht.2.2.2.1 hk2
    have dvs : t.1 + m < t.2.1 → kI 10 * kI (dv τ t.1 m : Int) + wa w 43 (t.1 + m) - kI 48 = kI (dv τ t.1 (m + 1) : Int) := fun h9 => by
      have hc := of_decide_eq_true (hdig (t.1 + m) (by omega) h9)
      rw [hd.2.2.2.2 _ (by omega)]
      unfold sx
      rw [if_pos (by omega), kI_mul, kI_add, kI_sub]
      refine congrArg kI ?_
      have e : dv τ t.1 (m + 1) = 10 * dv τ t.1 m + (τ (t.1 + m) - 48) := rfl
      rw [e]
      omega
    refine hJ 2 _ _ rfl _ _ _ _ (x_iload rfl (x_aload rfl (w_geti W 2 5 (by decide) shp_42 rfl rfl (x_br2 (fun q1 => have q1 := atY (by omega) rfl hd.2.1 q1; ?_) (fun q1 => have q1 := atN (by omega) rfl hd.2.1 q1; x_sipush (x_iload rfl (x_imul (x_aload rfl (w_getr W 2 0 (t := 43) (by decide) shp_42 rfl rfl rfl (x_iload rfl (w_bald W (t.1 + m) (by decide) shp_43 (by decide) rfl (by omega) (by decide) (x_iadd (x_sipush (x_isub (x_eqi (dvs q1) (x_istore rfl (x_iinc rfl rfl (x_goto (?_)))))))))))))))))))
    · have e : m = t.2.1 - t.1 := by omega
      subst e
      rw [show t.1 + (t.2.1 - t.1) = t.2.1 by omega]
      exact b3 hk2
    · refine J_c (ih (by omega)) (by simp only [sI, kN_succ] <;> rfl)
  obtain ⟨hd3, hdig⟩ := ht.2.2.2.1 hk2
  have hdl := dv_le (τ := τ) (s := t.1) (t.2.1 - t.1) (fun j hj => hdig _ (by omega) (by omega))
  have hp10 : 10 ^ (t.2.1 - t.1) ≤ 10 ^ 3 := Nat.pow_le_pow_right (by decide) hd3
  have h1000 : 10 ^ 3 = 1000 := by decide
  have b4 : ¬ (lo ≤ dv τ t.1 (t.2.1 - t.1) ∧ dv τ t.1 (t.2.1 - t.1) ≤ hi) → J 4 [some (.ref (ad 42)), some (.int (kI (lo : Int))), some (.int (kI (hi : Int))), some (.int (kI (dv τ t.1 (t.2.1 - t.1) : Int))), some (.int (kI (t.2.1 : Int)))] [] h (0, 0) := fun hb => ?_
  · have b5 : (lo ≤ dv τ t.1 (t.2.1 - t.1) ∧ dv τ t.1 (t.2.1 - t.1) ≤ hi) → J 5 [some (.ref (ad 42)), some (.int (kI (lo : Int))), some (.int (kI (hi : Int))), some (.int (kI (dv τ t.1 (t.2.1 - t.1) : Int))), some (.int (kI (t.2.1 : Int)))] [] h (0, 0) := fun hb => ?_
    · refine hJ 3 _ _ rfl _ _ _ _ (x_iload rfl (x_iload rfl (x_br2 (fun q1 => have q1 := cy_lt q1; ?_) (fun q1 => have q1 := cn_lt q1; x_iload rfl (x_iload rfl (x_br2 (fun q2 => have q2 := cy_le q2; ?_) (fun q2 => have q2 := cn_le q2; x_goto (?_))))))))
      · have q1 := (kN_lt (by omega) (by omega)).mp q1
        exact b4 (fun z => by omega)
      · have q1 := mt (kN_lt (a := dv τ t.1 (t.2.1 - t.1)) (b := lo) (by omega) (by omega)).mpr (Int32.not_lt.mpr q1)
        have q2 := (kN_le (by omega) (by omega)).mp q2
        exact b5 ⟨by omega, q2⟩
      · have q2 := (kN_lt (by omega) (by omega)).mp q2
        exact b4 (fun z => by omega)
    refine hJ 5 _ _ rfl _ _ _ _ (x_aload rfl (x_cv rfl (Nat.le_of_ble_eq_true rfl) (isO_W W (by decide) shp_42) (c_advance W hd ht.2.1 hn7 hτ (fun h1 w1 W1 e1 r1 => xk_v (x_iload rfl (x_iret (nrwI _) ?_))))))
    exact kk _ _ (by unfold numS; rw [if_pos hk2, if_pos hb]) h1 w1 W1 e1 r1
  refine hJ 4 _ _ rfl _ _ _ _ (x_aload rfl (x_sipush (x_cv rfl (Nat.le_of_ble_eq_true rfl) (isO_W W (by decide) shp_42) (c_refuse W (fun h1 W1 => xk_go (x_popi (x_sipush (x_iret (nrwI _) ?_))))))))
  obtain ⟨g1, g2, g3⟩ := flt_of (f := (3, t.1)) W hd rfl (x := kI 3) rfl
  exact kf (3, t.1) (by unfold numS; rw [if_pos hk2, if_neg hb]) h1 _ W1 g1 g2 g3
theorem c_wordOf {x : Int32} {r : Nat} (hx : x = kI (r : Int)) (hr : r < 11) (hP : P (.inl (some (.ref (ga (3 + (r + 1)))))) h) : WP ga L xs (d + 1) 47 [.int x] h P := by
  subst hx
  refine WP.enter kX2_wordOf (Nat.le_of_ble_eq_true rfl) (fun J hJ => ?_)
  have h3 : r = 0 ∨ r = 1 ∨ r = 2 ∨ r = 3 ∨ r = 4 ∨ r = 5 ∨ r = 6 ∨ r = 7 ∨ r = 8 ∨ r = 9 ∨ r = 10 := by omega
  rcases h3 with rfl | rfl | rfl | rfl | rfl | rfl | rfl | rfl | rfl | rfl | rfl
  · refine hJ 0 _ _ rfl _ _ _ _ (x_iload rfl (x_ts (b := 1) rfl (hJ 1 _ _ rfl _ _ _ _ (x_ldc (x_aret (Or.inl ⟨_, rfl⟩) ?_)))))
    exact hP
  · refine hJ 0 _ _ rfl _ _ _ _ (x_iload rfl (x_ts (b := 2) rfl (hJ 2 _ _ rfl _ _ _ _ (x_ldc (x_aret (Or.inl ⟨_, rfl⟩) ?_)))))
    exact hP
  · refine hJ 0 _ _ rfl _ _ _ _ (x_iload rfl (x_ts (b := 3) rfl (hJ 3 _ _ rfl _ _ _ _ (x_ldc (x_aret (Or.inl ⟨_, rfl⟩) ?_)))))
    exact hP
  · refine hJ 0 _ _ rfl _ _ _ _ (x_iload rfl (x_ts (b := 4) rfl (hJ 4 _ _ rfl _ _ _ _ (x_ldc (x_aret (Or.inl ⟨_, rfl⟩) ?_)))))
    exact hP
  · refine hJ 0 _ _ rfl _ _ _ _ (x_iload rfl (x_ts (b := 5) rfl (hJ 5 _ _ rfl _ _ _ _ (x_ldc (x_aret (Or.inl ⟨_, rfl⟩) ?_)))))
    exact hP
  · refine hJ 0 _ _ rfl _ _ _ _ (x_iload rfl (x_ts (b := 6) rfl (hJ 6 _ _ rfl _ _ _ _ (x_ldc (x_aret (Or.inl ⟨_, rfl⟩) ?_)))))
    exact hP
  · refine hJ 0 _ _ rfl _ _ _ _ (x_iload rfl (x_ts (b := 7) rfl (hJ 7 _ _ rfl _ _ _ _ (x_ldc (x_aret (Or.inl ⟨_, rfl⟩) ?_)))))
    exact hP
  · refine hJ 0 _ _ rfl _ _ _ _ (x_iload rfl (x_ts (b := 8) rfl (hJ 8 _ _ rfl _ _ _ _ (x_ldc (x_aret (Or.inl ⟨_, rfl⟩) ?_)))))
    exact hP
  · refine hJ 0 _ _ rfl _ _ _ _ (x_iload rfl (x_ts (b := 9) rfl (hJ 9 _ _ rfl _ _ _ _ (x_ldc (x_aret (Or.inl ⟨_, rfl⟩) ?_)))))
    exact hP
  · refine hJ 0 _ _ rfl _ _ _ _ (x_iload rfl (x_ts (b := 10) rfl (hJ 10 _ _ rfl _ _ _ _ (x_ldc (x_aret (Or.inl ⟨_, rfl⟩) ?_)))))
    exact hP
  · refine hJ 0 _ _ rfl _ _ _ _ (x_iload rfl (x_ts (b := 11) rfl (hJ 11 _ _ rfl _ _ _ _ (x_ldc (x_aret (Or.inl ⟨_, rfl⟩) ?_)))))
    exact hP
theorem c_ruleHere (W : WW ad w h) (hd : RdC w τ n t) (ht : tkOK τ n t) (hn7 : n ≤ 700) (hτ : ∀ k, τ k < 256) (hP : P (.inl (some (.int (if ruleS τ t < 11 then kI (ruleS τ t : Int) else kI (-1))))) h) : WP ga L xs (d + 2) 46 [.ref (ad 42)] h P := by
  refine WP.enter kX2_ruleHere (Nat.le_of_ble_eq_true rfl) (fun J hJ => ?_)
  have loop : ∀ m, m ≤ 11 → (∀ j, j < m → isW τ t (j + 1) = false) → J 1 [some (.ref (ad 42)), some (.int (kI (m : Int)))] [] h (0, 0) := up_ind (fun m hm ih hno => ?_)
  · refine hJ 0 _ _ rfl _ _ _ _ (x_sipush (x_istore rfl (x_goto (?_))))
    exact loop 0 (Nat.zero_le _) (fun j hj => by omega)
  refine hJ 1 _ _ rfl _ _ _ _ (x_iload rfl (x_sipush (x_br2 (fun q1 => have q1 := ge_y (n := 11) rfl (by omega) q1; hJ 3 _ _ rfl _ _ _ _ (x_sipush (x_iret (nrwI _) ?_))) (fun q1 => have q1 := ge_n (n := 11) rfl (by omega) q1; x_aload rfl (x_iload rfl (x_cs rfl (Nat.le_of_ble_eq_true rfl) (c_wordOf rfl (by omega) (xk_go (x_cv rfl (Nat.le_of_ble_eq_true rfl) (isO_W W (by decide) shp_42) (c_isWord (x := m + 1) W hd ht hn7 hτ (by omega) (xk_go (x_br (fun q2 => have q2 := bI_eq0.mp q2; hJ 2 _ _ rfl _ _ _ _ (x_iinc rfl rfl (x_goto (?_)))) (fun q2 => have q2 := bI_ne0.mp q2; x_iload rfl (x_iret (nrwI _) ?_))))))))))))))
  · have e : ruleS τ t = 11 := fst_all (p := fun r => isW τ t (r + 1)) (fun j hj => hno j (by omega))
    rw [e, if_neg (by omega)] at hP
    exact hP
  · refine J_c (ih q1 (fun j hj => ?_)) (by simp only [sI, kN_succ])
    by_cases ej : j = m
    · rw [ej]; exact q2
    · exact hno j (by omega)
  · have e : ruleS τ t = m := fst_is (p := fun r => isW τ t (r + 1)) q2 hno q1
    rw [e, if_pos q1] at hP
    exact hP
end W1
