/-! ===== the model's reader: numbers and rules ===== -/
section W1
variable {τ : Nat → Nat} {n : Nat} {t : TK}
variable {ga : Nat → Nat} {L : Nat} {xs : Nat → Int32} {d : Nat} {h : ac_H} {P : ac_P} {ad : Nat → Nat} {w : Wst} {V : VT}
theorem misf_4 (t : TK) : 1 ≤ (misf t).1 ∧ (misf t).1 ≤ 4 := by
  unfold misf
  show 1 ≤ (if t.2.2 = 0 then 1 else 2) ∧ (if t.2.2 = 0 then 1 else 2) ≤ 4
  split <;> omega
theorem misf_k (t : TK) : kI ((misf t).1 : Int) = if t.2.2 = 0 then kI 1 else kI 2 := by
  show kI (((if t.2.2 = 0 then 1 else 2) : Nat) : Int) = _
  split <;> rfl
theorem m_number {lo hi : Nat} {x y : Int32} (W : WW ad w h) (hd : RmC w τ n t) (ht : tkOK τ n t) (hn7 : n ≤ 700) (hτ : ∀ k, τ k < 256) (hb : wn w 80 12 = 0) (hx : x = kI (lo : Int)) (hy : y = kI (hi : Int)) (hlo : lo ≤ 1000 ∧ hi ≤ 1000) (kf : ∀ f, numS τ n lo hi t = .inl f → ∀ h' w', WW ad w' h' → kB lbd w w' → ¬ wn w' 80 12 = 0 → wn w' 80 12 = kI (f.1 : Int) → wn w' 80 13 = kI (f.2 : Int) → P (.inl (some (.int (kI (lo : Int))))) h') (kk : ∀ t' v, numS τ n lo hi t = .inr (t', v) → ∀ h' w', WW ad w' h' → kB lrd w w' → RmC w' τ n t' → P (.inl (some (.int (kI (v : Int))))) h') : WP ga L xs (d + 3) 153 [.ref (ad 80), .int x, .int y] h P := by
  subst hx hy
  have hk5 := ht.2.2.1
  have h2 : wn w 80 10 = kI 2 ↔ t.2.2 = 2 := tok_eq (j := 2) hd.2.2.1 hk5 (by omega)
  have hmf := misf_k t
  have hdv : t.2.2 = 2 → dv τ t.1 (t.2.1 - t.1) < 1000 := fun hk2 => by
    obtain ⟨hd3, hdig⟩ := ht.2.2.2.1 hk2
    have hes := ht.1
    have hdl := dv_le (τ := τ) (s := t.1) (t.2.1 - t.1) (fun j hj => hdig _ (by omega) (by omega))
    have hp10 : 10 ^ (t.2.1 - t.1) ≤ 10 ^ 3 := Nat.pow_le_pow_right (by decide) hd3
    have h1000 : 10 ^ 3 = 1000 := by decide
    omega
  have hwi : t.2.2 = 2 → decide ((kI (lo : Int)).toInt64.toInt ≤ (wn w 80 11).toInt64.toInt ∧ (wn w 80 11).toInt64.toInt ≤ (kI (hi : Int)).toInt64.toInt) = decide (lo ≤ dv τ t.1 (t.2.1 - t.1) ∧ dv τ t.1 (t.2.1 - t.1) ≤ hi) := fun hk2 => by
    have := hdv hk2
    rw [toInt64_toInt, toInt64_toInt, toInt64_toInt, hd.2.2.2 hk2, kN_toInt (by omega), kN_toInt (by omega), kN_toInt (by omega), decide_eq_decide]
    omega
  refine WP.enter kX7_number (Nat.le_of_ble_eq_true rfl) (fun J hJ => ?_)
  have bB : ∀ f, numS τ n lo hi t = .inl f → ∀ h0 w0 z3, WW ad w0 h0 → kB lbd w w0 → ¬ wn w0 80 12 = 0 → wn w0 80 12 = kI (f.1 : Int) → wn w0 80 13 = kI (f.2 : Int) → J 2 [some (.ref (ad 80)), some (.int (kI (lo : Int))), some (.int (kI (hi : Int))), z3] [] h0 (0, 0) := fun f hf h0 w0 z3 W0 hk hb0 g1 g2 => ?_
  · have h3f : t.2.2 = 2 → kI ((3 : Nat) : Int) = if t.2.2 = 0 then kI 1 else kI 3 := fun z => by rw [if_neg (by omega)]; rfl
    refine hJ 0 _ _ rfl _ _ _ _ (x_aload rfl (w_geti W 7 10 (by decide) shp_80 rfl rfl (x_sipush (x_br2 (fun q1 => have q1 := cy_eq q1; hJ 1 _ _ rfl _ _ _ _ (x_aload rfl (w_geti W 7 11 (by decide) shp_80 rfl rfl (x_i2l (x_iload rfl (x_i2l (x_iload rfl (x_i2l (x_cs rfl (Nat.le_of_ble_eq_true rfl) (c7_within (xk_go (x_br (fun q2 => have q2 := bI_ne0.mp q2; ?_) (fun q2 => have q2 := bI_nn q2; x_aload rfl (x_sipush (x_cv rfl (Nat.le_of_ble_eq_true rfl) (isO_W W (by decide) shp_80) (m_blames (f := (3, t.1)) W hd ht hn7 hτ hb (h3f (h2.mp q1)) rfl ⟨by show 1 ≤ 3; omega, by show 3 ≤ 4; omega⟩ (fun h1 w1 W1 e1 b1 f1 g1 => xk_v (x_goto (?_))))))))))))))))))) (fun q1 => have q1 := cn_eq q1; x_aload rfl (x_sipush (x_cv rfl (Nat.le_of_ble_eq_true rfl) (isO_W W (by decide) shp_80) (m_blames (f := misf t) W hd ht hn7 hτ hb hmf rfl (misf_4 t) (fun h2' w2 W2 e2 b2 f2 g2 => xk_v (x_goto (?_)))))))))))
    · have k1 := h2.mp q1
      rw [hwi k1] at q2
      have k2 := of_decide_eq_true q2
      refine hJ 2 _ _ rfl _ _ _ _ (x_aload rfl (w_geti W 7 11 (by decide) shp_80 rfl rfl (x_istore rfl (x_aload rfl (w_geti W 7 12 (by decide) shp_80 rfl rfl (x_br (fun q1 => absurd hb (cy_ne q1)) (fun q1 => have q1 := cn_ne q1; x_aload rfl (x_cv rfl (Nat.le_of_ble_eq_true rfl) (isO_W W (by decide) shp_80) (m_reads W hd.1 ht.2.1 hn7 hτ (fun h1 w1 W1 e1 r1 => xk_v (x_goto (hJ 3 _ _ rfl _ _ _ _ (x_aload rfl (w_geti W1 7 12 (by decide) shp_80 rfl rfl (x_br (fun q2 => absurd ((e1.2 12 (by decide)).trans hb) (cy_ne q2)) (fun q2 => have q2 := cn_ne q2; x_iload rfl (x_goto (hJ 5 _ _ rfl _ _ _ _ (x_iret (nrwI _) ?_)))))))))))))))))))
      have e : wn w 80 11 = kI (dv τ t.1 (t.2.1 - t.1) : Int) := hd.2.2.2 k1
      rw [e]
      exact kk _ _ (by unfold numS; rw [if_pos k1, if_pos k2]) h1 w1 W1 e1 r1
    · have q1 := h2.mp q1
      rw [hwi q1] at q2
      have q2 := of_decide_eq_false q2
      exact bB (3, t.1) (by unfold numS; rw [if_pos q1, if_neg q2]) h1 w1 _ W1 (e1.mono (by decide)) b1 f1 g1
    · rw [h2] at q1
      exact bB (misf t) (by unfold numS; rw [if_neg q1]) h2' w2 _ W2 (e2.mono (by decide)) b2 f2 g2
  refine hJ 2 _ _ rfl _ _ _ _ (x_aload rfl (w_geti W0 7 11 (by decide) shp_80 rfl rfl (x_istore rfl (x_aload rfl (w_geti W0 7 12 (by decide) shp_80 rfl rfl (x_br (fun q1 => have q1 := cy_ne q1; hJ 3 _ _ rfl _ _ _ _ (x_aload rfl (w_geti W0 7 12 (by decide) shp_80 rfl rfl (x_br (fun q2 => have q2 := cy_ne q2; hJ 4 _ _ rfl _ _ _ _ (x_iload rfl (x_goto (hJ 5 _ _ rfl _ _ _ _ (x_iret (nrwI _) ?_))))) (fun q2 => absurd (cn_ne q2) hb0))))) (fun q1 => absurd (cn_ne q1) hb0)))))))
  exact kf f hf _ _ W0 hk hb0 g1 g2
theorem m_ruleTold (W : WW ad w h) (hd : RmC w τ n t) (ht : tkOK τ n t) (hn7 : n ≤ 700) (hτ : ∀ k, τ k < 256) (hb : wn w 80 12 = 0) (hP : P (.inl (some (.int (if ruleS τ t < 11 then kI (ruleS τ t : Int) else kI (-1))))) h) : WP ga L xs (d + 2) 154 [.ref (ad 80)] h P := by
  have hyes : ∀ m, m < 11 → (∀ j, j < m → isW τ t (j + 1) = false) → isW τ t (m + 1) = true → P (.inl (some (.int (kI (m : Int))))) h := fun m hm hno hy => by
    have e : ruleS τ t = m := fst_is (p := fun r => isW τ t (r + 1)) hy hno hm
    rw [e, if_pos hm] at hP
    exact hP
  have hnot : (∀ j, j < 11 → isW τ t (j + 1) = false) → P (.inl (some (.int (kI (-1))))) h := fun hno => by
    have e : ruleS τ t = 11 := fst_all (p := fun r => isW τ t (r + 1)) (fun j hj => hno j (by omega))
    rw [e, if_neg (by omega)] at hP
    exact hP
  refine WP.enter kX7_ruleTold (Nat.le_of_ble_eq_true rfl) (fun J hJ => ?_)
  refine hJ 0 _ _ rfl _ _ _ _ (x_aload rfl (x_ldc (x_cv rfl (Nat.le_of_ble_eq_true rfl) (isO_W W (by decide) shp_80) (m_isWord (x := 1) W hd ht hn7 hτ hb (by omega) (xk_go (x_br (fun q1 => have q1 := bI_eq0.mp q1; hJ 1 _ _ rfl _ _ _ _ (x_aload rfl (x_ldc (x_cv rfl (Nat.le_of_ble_eq_true rfl) (isO_W W (by decide) shp_80) (m_isWord (x := 2) W hd ht hn7 hτ hb (by omega) (xk_go (x_br (fun q2 => have q2 := bI_eq0.mp q2; hJ 2 _ _ rfl _ _ _ _ (x_aload rfl (x_ldc (x_cv rfl (Nat.le_of_ble_eq_true rfl) (isO_W W (by decide) shp_80) (m_isWord (x := 3) W hd ht hn7 hτ hb (by omega) (xk_go (x_br (fun q3 => have q3 := bI_eq0.mp q3; hJ 3 _ _ rfl _ _ _ _ (x_aload rfl (x_ldc (x_cv rfl (Nat.le_of_ble_eq_true rfl) (isO_W W (by decide) shp_80) (m_isWord (x := 4) W hd ht hn7 hτ hb (by omega) (xk_go (x_br (fun q4 => have q4 := bI_eq0.mp q4; hJ 4 _ _ rfl _ _ _ _ (x_aload rfl (x_ldc (x_cv rfl (Nat.le_of_ble_eq_true rfl) (isO_W W (by decide) shp_80) (m_isWord (x := 5) W hd ht hn7 hτ hb (by omega) (xk_go (x_br (fun q5 => have q5 := bI_eq0.mp q5; hJ 5 _ _ rfl _ _ _ _ (x_aload rfl (x_ldc (x_cv rfl (Nat.le_of_ble_eq_true rfl) (isO_W W (by decide) shp_80) (m_isWord (x := 6) W hd ht hn7 hτ hb (by omega) (xk_go (x_br (fun q6 => have q6 := bI_eq0.mp q6; hJ 6 _ _ rfl _ _ _ _ (x_aload rfl (x_ldc (x_cv rfl (Nat.le_of_ble_eq_true rfl) (isO_W W (by decide) shp_80) (m_isWord (x := 7) W hd ht hn7 hτ hb (by omega) (xk_go (x_br (fun q7 => have q7 := bI_eq0.mp q7; hJ 7 _ _ rfl _ _ _ _ (x_aload rfl (x_ldc (x_cv rfl (Nat.le_of_ble_eq_true rfl) (isO_W W (by decide) shp_80) (m_isWord (x := 8) W hd ht hn7 hτ hb (by omega) (xk_go (x_br (fun q8 => have q8 := bI_eq0.mp q8; hJ 8 _ _ rfl _ _ _ _ (x_aload rfl (x_ldc (x_cv rfl (Nat.le_of_ble_eq_true rfl) (isO_W W (by decide) shp_80) (m_isWord (x := 9) W hd ht hn7 hτ hb (by omega) (xk_go (x_br (fun q9 => have q9 := bI_eq0.mp q9; hJ 9 _ _ rfl _ _ _ _ (x_aload rfl (x_ldc (x_cv rfl (Nat.le_of_ble_eq_true rfl) (isO_W W (by decide) shp_80) (m_isWord (x := 10) W hd ht hn7 hτ hb (by omega) (xk_go (x_br (fun q10 => have q10 := bI_eq0.mp q10; hJ 10 _ _ rfl _ _ _ _ (x_aload rfl (x_ldc (x_cv rfl (Nat.le_of_ble_eq_true rfl) (isO_W W (by decide) shp_80) (m_isWord (x := 11) W hd ht hn7 hτ hb (by omega) (xk_go (x_br (fun q11 => have q11 := bI_eq0.mp q11; hJ 11 _ _ rfl _ _ _ _ (x_sipush (x_goto (hJ 12 _ _ rfl _ _ _ _ (x_iret (nrwI _) ?_))))) (fun q11 => have q11 := bI_ne0.mp q11; x_sipush (x_goto (hJ 12 _ _ rfl _ _ _ _ (x_iret (nrwI _) ?_))))))))))) (fun q10 => have q10 := bI_ne0.mp q10; x_sipush (x_iret (nrwI _) ?_))))))))) (fun q9 => have q9 := bI_ne0.mp q9; x_sipush (x_iret (nrwI _) ?_))))))))) (fun q8 => have q8 := bI_ne0.mp q8; x_sipush (x_iret (nrwI _) ?_))))))))) (fun q7 => have q7 := bI_ne0.mp q7; x_sipush (x_iret (nrwI _) ?_))))))))) (fun q6 => have q6 := bI_ne0.mp q6; x_sipush (x_iret (nrwI _) ?_))))))))) (fun q5 => have q5 := bI_ne0.mp q5; x_sipush (x_iret (nrwI _) ?_))))))))) (fun q4 => have q4 := bI_ne0.mp q4; x_sipush (x_iret (nrwI _) ?_))))))))) (fun q3 => have q3 := bI_ne0.mp q3; x_sipush (x_iret (nrwI _) ?_))))))))) (fun q2 => have q2 := bI_ne0.mp q2; x_sipush (x_iret (nrwI _) ?_))))))))) (fun q1 => have q1 := bI_ne0.mp q1; x_sipush (x_iret (nrwI _) ?_))))))))
  · exact hnot (fun j hj => by
      have : j = 0 ∨ j = 1 ∨ j = 2 ∨ j = 3 ∨ j = 4 ∨ j = 5 ∨ j = 6 ∨ j = 7 ∨ j = 8 ∨ j = 9 ∨ j = 10 := by omega
      rcases this with rfl | rfl | rfl | rfl | rfl | rfl | rfl | rfl | rfl | rfl | rfl <;> assumption)
  · exact hyes 10 (by omega) (fun j hj => by
      have : j = 0 ∨ j = 1 ∨ j = 2 ∨ j = 3 ∨ j = 4 ∨ j = 5 ∨ j = 6 ∨ j = 7 ∨ j = 8 ∨ j = 9 := by omega
      rcases this with rfl | rfl | rfl | rfl | rfl | rfl | rfl | rfl | rfl | rfl <;> assumption) q11
  · exact hyes 9 (by omega) (fun j hj => by
      have : j = 0 ∨ j = 1 ∨ j = 2 ∨ j = 3 ∨ j = 4 ∨ j = 5 ∨ j = 6 ∨ j = 7 ∨ j = 8 := by omega
      rcases this with rfl | rfl | rfl | rfl | rfl | rfl | rfl | rfl | rfl <;> assumption) q10
  · exact hyes 8 (by omega) (fun j hj => by
      have : j = 0 ∨ j = 1 ∨ j = 2 ∨ j = 3 ∨ j = 4 ∨ j = 5 ∨ j = 6 ∨ j = 7 := by omega
      rcases this with rfl | rfl | rfl | rfl | rfl | rfl | rfl | rfl <;> assumption) q9
  · exact hyes 7 (by omega) (fun j hj => by
      have : j = 0 ∨ j = 1 ∨ j = 2 ∨ j = 3 ∨ j = 4 ∨ j = 5 ∨ j = 6 := by omega
      rcases this with rfl | rfl | rfl | rfl | rfl | rfl | rfl <;> assumption) q8
  · exact hyes 6 (by omega) (fun j hj => by
      have : j = 0 ∨ j = 1 ∨ j = 2 ∨ j = 3 ∨ j = 4 ∨ j = 5 := by omega
      rcases this with rfl | rfl | rfl | rfl | rfl | rfl <;> assumption) q7
  · exact hyes 5 (by omega) (fun j hj => by
      have : j = 0 ∨ j = 1 ∨ j = 2 ∨ j = 3 ∨ j = 4 := by omega
      rcases this with rfl | rfl | rfl | rfl | rfl <;> assumption) q6
  · exact hyes 4 (by omega) (fun j hj => by
      have : j = 0 ∨ j = 1 ∨ j = 2 ∨ j = 3 := by omega
      rcases this with rfl | rfl | rfl | rfl <;> assumption) q5
  · exact hyes 3 (by omega) (fun j hj => by
      have : j = 0 ∨ j = 1 ∨ j = 2 := by omega
      rcases this with rfl | rfl | rfl <;> assumption) q4
  · exact hyes 2 (by omega) (fun j hj => by
      have : j = 0 ∨ j = 1 := by omega
      rcases this with rfl | rfl <;> assumption) q3
  · exact hyes 1 (by omega) (fun j hj => by
      have : j = 0 := by omega
      rcases this with rfl <;> assumption) q2
  · exact hyes 0 (by omega) (fun j hj => by omega) q1
end W1
