/-! ===== the reader: a member is read ===== -/
section W1
variable {τ : Nat → Nat} {n : Nat} {t : TK}
variable {ga : Nat → Nat} {L : Nat} {xs : Nat → Int32} {d : Nat} {h : ac_H} {P : ac_P} {ad : Nat → Nat} {w : Wst} {i : Nat} {V : VT}
theorem lt4 {r : Nat} (h : r < 11) (b : kI (r : Int) < kI 4) : r < 4 := (kN_lt (b := 4) (by omega) (by omega)).mp b
theorem nl4 {r : Nat} (h : r < 11) (b : ¬ kI (r : Int) < kI 4) : 4 ≤ r := by
  have := mt (kN_lt (a := r) (b := 4) (by omega) (by omega)).mpr b
  omega
theorem gt9 {r : Nat} (h : r < 11) (b : kI 9 < kI (r : Int)) : 9 < r := (kN_lt (a := 9) (by omega) (by omega)).mp b
theorem ng9 {r : Nat} (h : r < 11) (b : ¬ kI 9 < kI (r : Int)) : r ≤ 9 := by
  have := mt (kN_lt (a := 9) (b := r) (by omega) (by omega)).mpr b
  omega
theorem ls_ms : ∀ r, r < 11 → lsN r ≤ 1000 ∧ msN r ≤ 1000 := by decide
theorem kIm1 {v : Nat} (h : v ≤ 100000) : ¬ kI (v : Int) = kI (-1) := fun z => by
  rw [kI_inj (by omega) (by omega) (by omega) (by omega)] at z
  omega
theorem fst_le {p : Nat → Bool} : ∀ n, fstG p n ≤ n
  | 0 => Nat.le_refl _
  | n + 1 => by
    unfold fstG
    split
    · omega
    · split <;> omega
theorem rul_le (τ : Nat → Nat) (t : TK) : ruleS τ t ≤ 11 := fst_le 11
theorem c_readMember {i : Nat} {V : VT} (W : WW ad w h) (hd : RdC w τ n t) (ht : tkOK τ n t) (hn7 : n ≤ 700) (hτ : ∀ k, τ k < 256) (hi : i = 10 ∨ i = 15) (hdr : wr w 42 8 = i) (hD : DrC w i V) (hO : V 4 = kI (nm V : Int) ∧ nm V ≤ 12) (kf : ∀ f, memS τ n t V = .inl f → ∀ h' w', WW ad w' h' → kD i lflt w w' → wn w' 42 2 = kI (f.1 : Int) → wn w' 42 3 = kI (f.2 : Int) → P (.inl (some (.int (bI false)))) h') (kk : ∀ t' V', memS τ n t V = .inr (t', V') → ∀ h' w', WW ad w' h' → kD i l567 w w' → RdC w' τ n t' → DrC w' i V' → P (.inl (some (.int (bI true)))) h') : WP ga L xs (d + 4) 45 [.ref (ad 42)] h P := by
  have hC : isC i := hi.elim (fun e => Or.inl e) (fun e => Or.inr (Or.inl e))
  have en : wn w i 4 = kI (nm V : Int) := hD.1.2.2.2.2.1.trans hO.1
  have hn4 := hO.1
  have hn12' := hO.2
  have ht1 := (tk_ok (τ := τ) ht.2.1).1
  have ht2 := (tk_ok (τ := τ) ht1.2.1).1
  refine WP.enter kX2_readMember (Nat.le_of_ble_eq_true rfl) (fun J hJ => ?_)
  have b10 : nm V < 12 → ∀ (r v c : Nat) (u : Bool) (t5 : TK), memS τ n t V = .inr (t5, joinV V (kI (r : Int)) (kI (v : Int)) (kI (c : Int)) (bI u)) → ∀ h0 w0 z2, WW ad w0 h0 → kR l567 w w0 → RdC w0 τ n t5 → J 10 [some (.ref (ad 42)), some (.int (kI (r : Int))), z2, some (.int (kI (v : Int))), some (.int (kI (c : Int))), some (.int (bI u))] [] h0 (0, 0) := fun hn12 r v c u t5 hm h0 w0 z2 W0 hk hd0 => ?_
  · have b9 : nm V < 12 → ∀ (r v c : Nat) (t3 t4 : TK), r < 11 → ruleS τ (tk τ n t.2.1) = r → mnS τ n r (tk τ n (tk τ n t.2.1).2.1) = .inr (t3, v) → mcS τ n t3 = .inr (t4, c) → tkOK τ n t4 → ∀ h0 w0 z2 z5, WW ad w0 h0 → kR l567 w w0 → RdC w0 τ n t4 → J 9 [some (.ref (ad 42)), some (.int (kI (r : Int))), z2, some (.int (kI (v : Int))), some (.int (kI (c : Int))), z5] [] h0 (0, 0) := fun hn12 r v c t3 t4 hr11 hr hv hc ht4 h0 w0 z2 z5 W0 hk hd0 => ?_
    · have b7 : nm V < 12 → ∀ (r v : Nat) (t3 : TK), r < 11 → v ≤ 1000 → ruleS τ (tk τ n t.2.1) = r → mnS τ n r (tk τ n (tk τ n t.2.1).2.1) = .inr (t3, v) → tkOK τ n t3 → ∀ h0 w0 z2 z4 z5, WW ad w0 h0 → kR l567 w w0 → RdC w0 τ n t3 → J 7 [some (.ref (ad 42)), some (.int (kI (r : Int))), z2, some (.int (kI (v : Int))), z4, z5] [] h0 (0, 0) := fun hn12 r v t3 hr11 hv1 hr hv ht3 h0 w0 z2 z4 z5 W0 hk hd0 => ?_
      · have b2 : nm V < 12 → ∀ r : Nat, r < 11 → ruleS τ (tk τ n t.2.1) = r → ∀ h0 w0 z2 z3 z4 z5, WW ad w0 h0 → kR l567 w w0 → RdC w0 τ n (tk τ n t.2.1) → J 2 [some (.ref (ad 42)), some (.int (kI (r : Int))), z2, z3, z4, z5] [] h0 (0, 0) := fun hn12 r hr11 hr h0 w0 z2 z3 z4 z5 W0 hk hd0 => ?_
        · refine hJ 0 _ _ rfl _ _ _ _ (x_aload rfl (w_getr W 2 8 (t := i) (by decide) shp_42 rfl rfl hdr (w_geti W 0 4 hC.lt hC.sh rfl rfl (x_sipush (x_br2 (fun q1 => have q1 := cy_lt q1; hJ 1 _ _ rfl _ _ _ _ (x_aload rfl (x_cv rfl (Nat.le_of_ble_eq_true rfl) (isO_W W (by decide) shp_42) (c_advance W hd ht.2.1 hn7 hτ (fun h1 w1 W1 e1 r1 => xk_v (x_aload rfl (x_cv rfl (Nat.le_of_ble_eq_true rfl) (isO_W W1 (by decide) shp_42) (c_ruleHere W1 r1 ht1 hn7 hτ (xk_go (x_istore rfl (x_iload rfl (x_sipush (x_br2 (fun q2 => have q2 := cy_ne q2; ?_) (fun q2 => have q2 := cn_ne q2; x_aload rfl (x_cv rfl (Nat.le_of_ble_eq_true rfl) (isO_W W1 (by decide) shp_42) (c_misfit W1 r1 ht1 hn7 hτ (fun h2 w2 W2 e2 f2 g2 => xk_go (x_iret (by first | exact nrwB _ | rfl | decide) ?_)))))))))))))))))) (fun q1 => have q1 := cn_lt q1; x_aload rfl (x_sipush (x_cv rfl (Nat.le_of_ble_eq_true rfl) (isO_W W (by decide) shp_42) (c_refuse W (fun h3 W3 => xk_go (x_iret (by first | exact nrwB _ | rfl | decide) ?_)))))))))))
          · have hn12 : nm V < 12 := by rw [en] at q1; exact (kN_lt (b := 12) (by omega) (by omega)).mp q1
            have hr11 : ruleS τ (tk τ n t.2.1) < 11 := by
              by_cases h9 : ruleS τ (tk τ n t.2.1) < 11
              · exact h9
              · rw [if_neg h9] at q2
                exact absurd rfl q2
            rw [if_pos hr11]
            exact b2 hn12 _ hr11 rfl h1 w1 _ _ _ _ W1 e1 r1
          · have hn12 : nm V < 12 := by rw [en] at q1; exact (kN_lt (b := 12) (by omega) (by omega)).mp q1
            have hr11 : ¬ ruleS τ (tk τ n t.2.1) < 11 := fun h9 => by
              rw [if_pos h9] at q2
              exact kIm1 (by omega) q2
            have hr : ruleS τ (tk τ n t.2.1) = 11 := by
              have h8 : ruleS τ (tk τ n t.2.1) ≤ 11 := rul_le _ _
              omega
            exact kf _ (by unfold memS; rw [if_neg (by omega), if_pos hr]) h2 w2 W2 ((e1.mono l567f).trans e2).d f2 g2
          · have hn12 : nm V = 12 := by rw [en] at q1; have := (kN_le (a := 12) (by omega) (by omega)).mp q1; omega
            obtain ⟨g1, g2, g3⟩ := flt_of (f := (4, t.1)) W hd rfl (x := kI 4) rfl
            exact kf (4, t.1) (by unfold memS; rw [if_pos hn12]) h3 _ W3 g1.d g2 g3
        have hlm := ls_ms r hr11
        refine hJ 2 _ _ rfl _ _ _ _ (x_aload rfl (x_cv rfl (Nat.le_of_ble_eq_true rfl) (isO_W W0 (by decide) shp_42) (c_advance W0 hd0 ht1.2.1 hn7 hτ (fun h1 w1 W1 e1 r1 => xk_v (x_iload rfl (x_sipush (x_br2 (fun q1 => have q1 := lt4 hr11 q1; hJ 3 _ _ rfl _ _ _ _ (x_sipush (x_goto (hJ 4 _ _ rfl _ _ _ _ (x_istore rfl (x_iload rfl (x_br (fun q2 => hJ 5 _ _ rfl _ _ _ _ (x_sipush (x_goto (hJ 6 _ _ rfl _ _ _ _ (x_istore rfl (x_iload rfl (x_sipush (x_br2 (fun q3 => have q3 := cy_ne q3; ?_) (fun q3 => have q3 := cn_ne q3; x_sipush (x_iret (by first | exact nrwB _ | rfl | decide) ?_)))))))))) (fun q2 => absurd (show kI (0) = 0 by decide) q2)))))))) (fun q1 => have q1 := nl4 hr11 q1; x_iload rfl (x_sipush (x_br2 (fun q4 => have q4 := gt9 hr11 q4; hJ 3 _ _ rfl _ _ _ _ (x_sipush (x_goto (hJ 4 _ _ rfl _ _ _ _ (x_istore rfl (x_iload rfl (x_br (fun q5 => hJ 5 _ _ rfl _ _ _ _ (x_sipush (x_goto (hJ 6 _ _ rfl _ _ _ _ (x_istore rfl (x_iload rfl (x_sipush (x_br2 (fun q6 => have q6 := cy_ne q6; ?_) (fun q6 => have q6 := cn_ne q6; x_sipush (x_iret (by first | exact nrwB _ | rfl | decide) ?_)))))))))) (fun q5 => absurd (show kI (0) = 0 by decide) q5)))))))) (fun q4 => have q4 := ng9 hr11 q4; x_sipush (x_goto (hJ 4 _ _ rfl _ _ _ _ (x_istore rfl (x_iload rfl (x_br (fun q7 => absurd (show kI (1) = 0 from q7) (by decide)) (fun q7 => x_aload rfl (x_gst (x_iload rfl (x_least rfl hr11 (x_gst (x_iload rfl (x_most rfl hr11 (x_cv rfl (Nat.le_of_ble_eq_true rfl) (isO_W W1 (by decide) shp_42) (c_takeNum (lo := lsN r) (hi := msN r) W1 r1 ht2 hn7 hτ rfl rfl (by omega) (fun f9 hf9 h2 w2 W2 e2 g1 g2 => xk_go (x_goto (hJ 6 _ _ rfl _ _ _ _ (x_istore rfl (x_iload rfl (x_sipush (x_br2 (fun q8 => have q8 := cy_ne q8; ?_) (fun q8 => have q8 := cn_ne q8; x_sipush (x_iret (by first | exact nrwB _ | rfl | decide) ?_))))))))) (fun t9 v9 hv9 h2 w2 W2 e2 r9 => xk_go (x_goto (hJ 6 _ _ rfl _ _ _ _ (x_istore rfl (x_iload rfl (x_sipush (x_br2 (fun q8 => have q8 := cy_ne q8; ?_) (fun q8 => have q8 := cn_ne q8; x_sipush (x_iret (by first | exact nrwB _ | rfl | decide) ?_))))))))))))))))))))))))))))))))))
        · exact b7 hn12 r 0 _ hr11 (by omega) hr (by unfold mnS; rw [if_neg (by omega)]) ht2 h1 w1 _ _ _ W1 (hk.trans e1) r1
        · exact absurd q3 (kIm1 (v := 0) (by omega))
        · exact b7 hn12 r 0 _ hr11 (by omega) hr (by unfold mnS; rw [if_neg (by omega)]) ht2 h1 w1 _ _ _ W1 (hk.trans e1) r1
        · exact absurd q6 (kIm1 (v := 0) (by omega))
        · exact absurd rfl q8
        · have hv : mnS τ n r (tk τ n (tk τ n t.2.1).2.1) = .inl f9 := by unfold mnS; rw [if_pos ⟨q1, q4⟩]; exact hf9
          exact kf f9 (by unfold memS; rw [if_neg (by omega), hr, if_neg (by omega), hv]) h2 w2 W2 (((hk.trans e1).mono l567f).trans e2).d g1 g2
        · have hv : mnS τ n r (tk τ n (tk τ n t.2.1).2.1) = .inr (t9, v9) := by unfold mnS; rw [if_pos ⟨q1, q4⟩]; exact hv9
          have hok := numS_ok ht2 hv9
          exact b7 hn12 r v9 t9 hr11 (by omega) hr hv hok.1 h2 w2 _ _ _ W2 ((hk.trans e1).trans e2) r9
        · have hok := numS_ok ht2 hv9
          exact absurd q8 (kIm1 (by omega))
      have ht3b := (tk_ok (τ := τ) ht3.2.1).1
      refine hJ 7 _ _ rfl _ _ _ _ (x_sipush (x_istore rfl (x_aload rfl (x_ldc (x_cv rfl (Nat.le_of_ble_eq_true rfl) (isO_W W0 (by decide) shp_42) (c_isWord (x := 12) W0 hd0 ht3 hn7 hτ (by omega) (xk_go (x_br (fun q1 => have q1 := bI_eq0.mp q1; hJ 8 _ _ rfl _ _ _ _ (x_iload rfl (x_sipush (x_br2 (fun q2 => have q2 := cy_ne q2; ?_) (fun q2 => have q2 := cn_ne q2; x_sipush (x_iret (by first | exact nrwB _ | rfl | decide) ?_)))))) (fun q1 => have q1 := bI_ne0.mp q1; x_aload rfl (x_cv rfl (Nat.le_of_ble_eq_true rfl) (isO_W W0 (by decide) shp_42) (c_advance W0 hd0 ht3.2.1 hn7 hτ (fun h1 w1 W1 e1 r1 => xk_v (x_aload rfl (x_sipush (x_sipush (x_cv rfl (Nat.le_of_ble_eq_true rfl) (isO_W W1 (by decide) shp_42) (c_takeNum (lo := 0) (hi := 999) W1 r1 ht3b hn7 hτ rfl rfl (by omega) (fun f9 hf9 h2 w2 W2 e2 g1 g2 => xk_go (x_istore rfl (x_goto (hJ 8 _ _ rfl _ _ _ _ (x_iload rfl (x_sipush (x_br2 (fun q3 => have q3 := cy_ne q3; ?_) (fun q3 => have q3 := cn_ne q3; x_sipush (x_iret (by first | exact nrwB _ | rfl | decide) ?_))))))))) (fun t9 v9 hv9 h2 w2 W2 e2 r9 => xk_go (x_istore rfl (x_goto (hJ 8 _ _ rfl _ _ _ _ (x_iload rfl (x_sipush (x_br2 (fun q3 => have q3 := cy_ne q3; ?_) (fun q3 => have q3 := cn_ne q3; x_sipush (x_iret (by first | exact nrwB _ | rfl | decide) ?_))))))))))))))))))))))))))
      · exact b9 hn12 r v 0 t3 t3 hr11 hr hv (by unfold mcS; rw [if_neg (by rw [q1]; decide)]) ht3 h0 w0 _ _ W0 hk hd0
      · exact absurd q2 (kIm1 (v := 0) (by omega))
      · exact absurd rfl q3
      · have hc : mcS τ n t3 = .inl f9 := by unfold mcS; rw [if_pos q1]; exact hf9
        exact kf f9 (by
          unfold memS
          rw [if_neg (by omega), hr, if_neg (by omega), hv]
          show (match mcS τ n t3 with | .inl f => _ | .inr (t4, c) => _) = _
          rw [hc]) h2 w2 W2 (((hk.trans e1).mono l567f).trans e2).d g1 g2
      · have hc : mcS τ n t3 = .inr (t9, v9) := by unfold mcS; rw [if_pos q1]; exact hv9
        exact b9 hn12 r v v9 t3 t9 hr11 hr hv hc (numS_ok ht3b hv9).1 h2 w2 _ _ W2 ((hk.trans e1).trans e2) r9
      · have hok := numS_ok ht3b hv9
        exact absurd q3 (kIm1 (by omega))
    have hmem : memS τ n t V = .inr (muS τ n t4, joinV V (kI (r : Int)) (kI (v : Int)) (kI (c : Int)) (bI (isW τ t4 13))) := by
      unfold memS
      rw [if_neg (by omega), hr, if_neg (by omega), hv]
      show (match mcS τ n t3 with | .inl f => _ | .inr (t4, c) => _) = _
      rw [hc]
    refine hJ 9 _ _ rfl _ _ _ _ (x_aload rfl (x_ldc (x_cv rfl (Nat.le_of_ble_eq_true rfl) (isO_W W0 (by decide) shp_42) (c_isWord (x := 13) W0 hd0 ht4 hn7 hτ (by omega) (xk_go (x_istore rfl (x_iload rfl (x_br (fun q1 => have q1 := bI_eq0.mp q1; ?_) (fun q1 => have q1 := bI_ne0.mp q1; x_aload rfl (x_cv rfl (Nat.le_of_ble_eq_true rfl) (isO_W W0 (by decide) shp_42) (c_advance W0 hd0 ht4.2.1 hn7 hτ (fun h1 w1 W1 e1 r1 => xk_v (x_goto (?_))))))))))))))
    · have em : muS τ n t4 = t4 := by unfold muS; rw [if_neg (by rw [q1]; decide)]
      rw [em] at hmem
      exact b10 hn12 r v c (isW τ t4 13) t4 hmem h0 w0 _ W0 hk hd0
    · have em : muS τ n t4 = tk τ n t4.2.1 := by unfold muS; rw [if_pos q1]
      rw [em] at hmem
      exact b10 hn12 r v c (isW τ t4 13) _ hmem h1 w1 _ W1 (hk.trans e1) r1
  have hD0 := hD.kr hi hk
  have hdr0 : wr w0 42 8 = i := (congrFun hk.2.1 8).trans hdr
  refine hJ 10 _ _ rfl _ _ _ _ (x_aload rfl (w_getr W0 2 8 (t := i) (by decide) shp_42 rfl rfl hdr0 (x_iload rfl (x_iload rfl (x_iload rfl (x_iload rfl (x_cv rfl (Nat.le_of_ble_eq_true rfl) (isO_W W0 hC.lt hC.sh) (c_join W0 hC hD0 hn4 hn12 (fun h1 w1 W1 e1 r1 => xk_v (x_sipush (x_iret (by first | exact nrwB _ | rfl | decide) ?_)))))))))))
  exact kk _ _ hm h1 w1 W1 (hk.d.trans (kD_of hi e1)) (hd0.keep hi e1) r1
end W1
