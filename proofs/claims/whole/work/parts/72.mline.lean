/-! ===== the model's reader: a line ===== -/
theorem sl_uniq : ∀ x, x < 17 → ∀ y, y < 17 → (sl x).length = (sl y).length → (∀ i, i < (sl x).length → (sl x).getD i 0 = (sl y).getD i 0) → x = y := by decide +kernel
theorem isW_uniq {τ : Nat → Nat} {t : TK} {x y : Nat} (hx : x < 17) (hy : y < 17) (h : isW τ t x = true) (g : isW τ t y = true) : x = y := by
  unfold isW at h g
  rw [Bool.and_eq_true] at h g
  have h1 := of_decide_eq_true h.1
  have h2 := of_decide_eq_true h.2
  have g1 := of_decide_eq_true g.1
  have g2 := of_decide_eq_true g.2
  exact sl_uniq x hx y hy (h1.2.symm.trans g1.2) (fun i hi => (h2 i hi).symm.trans (g2 i (by omega)))
theorem isW_no {τ : Nat → Nat} {t : TK} {x y : Nat} (hx : x < 17) (hy : y < 17) (hn : ¬ x = y) (h : isW τ t x = true) : ¬ isW τ t y = true := fun g => hn (isW_uniq hx hy h g)
theorem DrM.kg {l : List Nat} {w w' : Wst} {V : VT} (h : DrM w V) (k : kB l w w') : DrM w' V := h.kb k
section W1
variable {τ : Nat → Nat} {n : Nat} {t : TK}
variable {ga : Nat → Nat} {L : Nat} {xs : Nat → Int32} {d : Nat} {h : ac_H} {P : ac_P} {ad : Nat → Nat} {w : Wst} {V : VT}
theorem m_readLine {V : VT} (W : WW ad w h) (hd : RmC w τ n t) (ht : tkOK τ n t) (hn7 : n ≤ 700) (hτ : ∀ k, τ k < 256) (hb : wn w 80 12 = 0) (hD : DrM w V) (hO : DOK V) (kf : ∀ f, linS τ n t V = .inl f → ∀ h' w', WW ad w' h' → kG lbd w w' → ¬ wn w' 80 12 = 0 → wn w' 80 12 = kI (f.1 : Int) → wn w' 80 13 = kI (f.2 : Int) → P (.inl none) h') (kk : ∀ t1 V' t', bodS τ n t V = .inr (t1, V') → semS τ n t1 = .inr t' → ∀ h' w', WW ad w' h' → kG lrd w w' → RmC w' τ n t' → DrM w' (upd V' 0 (V' 0 + kI 1)) → P (.inl none) h') : WP ga L xs (d + 5) 156 [.ref (ad 80)] h P := by
  have ht1 := (tk_ok (τ := τ) ht.2.1).1
  refine WP.enter kX7_readLine (Nat.le_of_ble_eq_true rfl) (fun J hJ => ?_)
  have b5B : ∀ f, linS τ n t V = .inl f → ∀ h0 w0, WW ad w0 h0 → kG lbd w w0 → ¬ wn w0 80 12 = 0 → wn w0 80 12 = kI (f.1 : Int) → wn w0 80 13 = kI (f.2 : Int) → J 5 [some (.ref (ad 80))] [] h0 (0, 0) := fun f hf h0 w0 W0 hk hb0 g1 g2 => ?_
  · have b5 : ∀ t1 V', bodS τ n t V = .inr (t1, V') → ∀ h0 w0, WW ad w0 h0 → kG lrd w w0 → RmC w0 τ n t1 → DrM w0 V' → J 5 [some (.ref (ad 80))] [] h0 (0, 0) := fun t1 V' hbd h0 w0 W0 hk hd0 hD0 => ?_
    · have c4 : isW τ t 14 = false → isW τ t 15 = false → isW τ t 16 = false → isW τ t 0 = false → J 4 [some (.ref (ad 80))] [] h (0, 0) := fun n1 n2 n3 n0 => ?_
      · have c3 : isW τ t 14 = false → isW τ t 15 = false → isW τ t 16 = false → J 3 [some (.ref (ad 80))] [] h (0, 0) := fun n1 n2 n3 => ?_
        · have c2 : isW τ t 14 = false → isW τ t 15 = false → J 2 [some (.ref (ad 80))] [] h (0, 0) := fun n1 n2 => ?_
          · have c1 : isW τ t 14 = false → J 1 [some (.ref (ad 80))] [] h (0, 0) := fun n1 => ?_
            · refine hJ 0 _ _ rfl _ _ _ _ (x_aload rfl (x_ldc (x_cv rfl (Nat.le_of_ble_eq_true rfl) (isO_W W (by decide) shp_80) (m_took (x := 14) W hd ht hn7 hτ hb (by omega) (fun q8 => ?_) (fun q8 h1 w1 W1 e1 r1 => xk_go (x_br (fun q1 => absurd (bI_eq0.mp q1) (by decide)) (fun q1 => have q1 := bI_ne0.mp q1; x_aload rfl (w_getr W1 7 1 (t := 82) (by decide) shp_80 rfl rfl rfl (x_sipush (x_aload rfl (x_sipush (x_sipush (x_cv rfl (Nat.le_of_ble_eq_true rfl) (isO_W W1 (by decide) shp_80) (m_number (lo := 1) (hi := 12) W1 r1 ht1 hn7 hτ ((e1.2 12 (by decide)).trans hb) rfl rfl (by decide) (fun f9 hf9 h2 w2 W2 e2 c2 g1 g2 => xk_go (w_iast W2 1 (by decide) shp_82 rfl (by decide) (by decide) (fun h3 W3 => x_goto (?_)))) (fun t9 v9 hv9 h2 w2 W2 e2 r9 => xk_go (w_iast W2 1 (by decide) shp_82 rfl (by decide) (by decide) (fun h3 W3 => x_goto (?_))))))))))))))))))
              · refine xk_go (x_br (fun z1 => have z1 := bI_eq0.mp z1; ?_) (fun z1 => absurd (bI_ne0.mp z1) (by decide)))
                exact c1  q8
              · have hbd : bodS τ n t V = .inl f9 := by unfold bodS; rw [if_neg (isW_no (x := 14) (by omega) (by omega) (by omega) q8)]; rw [if_pos q8]; unfold setS; rw [hf9]
                exact b5B f9 (lin_f hbd) _ _ W3 ((((e1.mono lrdb).trans e2).g).trans kG_sa) c2 g1 g2
              · have hbd : bodS τ n t V = .inr (t9, upd V 1 (kI (v9 : Int))) := by unfold bodS; rw [if_neg (isW_no (x := 14) (by omega) (by omega) (by omega) q8)]; rw [if_pos q8]; unfold setS; rw [hv9]
                exact b5 t9 _ hbd _ _ W3 (((e1.trans e2).g).trans kG_sa) (r9.keep (fun j hj => rfl) rfl) (fun k hk => by
                  rw [wa_self]
                  exact upd_c ((hD.kb e1).kb e2) rfl k hk)
            refine hJ 1 _ _ rfl _ _ _ _ (x_aload rfl (x_ldc (x_cv rfl (Nat.le_of_ble_eq_true rfl) (isO_W W (by decide) shp_80) (m_took (x := 15) W hd ht hn7 hτ hb (by omega) (fun q8 => ?_) (fun q8 h1 w1 W1 e1 r1 => xk_go (x_br (fun q1 => absurd (bI_eq0.mp q1) (by decide)) (fun q1 => have q1 := bI_ne0.mp q1; x_aload rfl (w_getr W1 7 1 (t := 82) (by decide) shp_80 rfl rfl rfl (x_sipush (x_aload rfl (x_sipush (x_sipush (x_cv rfl (Nat.le_of_ble_eq_true rfl) (isO_W W1 (by decide) shp_80) (m_number (lo := 0) (hi := 999) W1 r1 ht1 hn7 hτ ((e1.2 12 (by decide)).trans hb) rfl rfl (by decide) (fun f9 hf9 h2 w2 W2 e2 c2 g1 g2 => xk_go (w_iast W2 2 (by decide) shp_82 rfl (by decide) (by decide) (fun h3 W3 => x_goto (?_)))) (fun t9 v9 hv9 h2 w2 W2 e2 r9 => xk_go (w_iast W2 2 (by decide) shp_82 rfl (by decide) (by decide) (fun h3 W3 => x_goto (?_))))))))))))))))))
            · refine xk_go (x_br (fun z1 => have z1 := bI_eq0.mp z1; ?_) (fun z1 => absurd (bI_ne0.mp z1) (by decide)))
              exact c2 n1 q8
            · have hbd : bodS τ n t V = .inl f9 := by unfold bodS; rw [if_neg (isW_no (x := 15) (by omega) (by omega) (by omega) q8)]; rw [if_neg (isW_no (x := 15) (y := 14) (by omega) (by omega) (by omega) q8)]; rw [if_pos q8]; unfold setS; rw [hf9]
              exact b5B f9 (lin_f hbd) _ _ W3 ((((e1.mono lrdb).trans e2).g).trans kG_sa) c2 g1 g2
            · have hbd : bodS τ n t V = .inr (t9, upd V 2 (kI (v9 : Int))) := by unfold bodS; rw [if_neg (isW_no (x := 15) (by omega) (by omega) (by omega) q8)]; rw [if_neg (isW_no (x := 15) (y := 14) (by omega) (by omega) (by omega) q8)]; rw [if_pos q8]; unfold setS; rw [hv9]
              exact b5 t9 _ hbd _ _ W3 (((e1.trans e2).g).trans kG_sa) (r9.keep (fun j hj => rfl) rfl) (fun k hk => by
                rw [wa_self]
                exact upd_c ((hD.kb e1).kb e2) rfl k hk)
          refine hJ 2 _ _ rfl _ _ _ _ (x_aload rfl (x_ldc (x_cv rfl (Nat.le_of_ble_eq_true rfl) (isO_W W (by decide) shp_80) (m_took (x := 16) W hd ht hn7 hτ hb (by omega) (fun q8 => ?_) (fun q8 h1 w1 W1 e1 r1 => xk_go (x_br (fun q1 => absurd (bI_eq0.mp q1) (by decide)) (fun q1 => have q1 := bI_ne0.mp q1; x_aload rfl (w_getr W1 7 1 (t := 82) (by decide) shp_80 rfl rfl rfl (x_sipush (x_aload rfl (x_sipush (x_sipush (x_cv rfl (Nat.le_of_ble_eq_true rfl) (isO_W W1 (by decide) shp_80) (m_number (lo := 0) (hi := 100) W1 r1 ht1 hn7 hτ ((e1.2 12 (by decide)).trans hb) rfl rfl (by decide) (fun f9 hf9 h2 w2 W2 e2 c2 g1 g2 => xk_go (w_iast W2 3 (by decide) shp_82 rfl (by decide) (by decide) (fun h3 W3 => x_goto (?_)))) (fun t9 v9 hv9 h2 w2 W2 e2 r9 => xk_go (w_iast W2 3 (by decide) shp_82 rfl (by decide) (by decide) (fun h3 W3 => x_goto (?_))))))))))))))))))
          · refine xk_go (x_br (fun z1 => have z1 := bI_eq0.mp z1; ?_) (fun z1 => absurd (bI_ne0.mp z1) (by decide)))
            exact c3 n1 n2 q8
          · have hbd : bodS τ n t V = .inl f9 := by unfold bodS; rw [if_neg (isW_no (x := 16) (by omega) (by omega) (by omega) q8)]; rw [if_neg (isW_no (x := 16) (y := 14) (by omega) (by omega) (by omega) q8)]; rw [if_neg (isW_no (x := 16) (y := 15) (by omega) (by omega) (by omega) q8)]; rw [if_pos q8]; unfold setS; rw [hf9]
            exact b5B f9 (lin_f hbd) _ _ W3 ((((e1.mono lrdb).trans e2).g).trans kG_sa) c2 g1 g2
          · have hbd : bodS τ n t V = .inr (t9, upd V 3 (kI (v9 : Int))) := by unfold bodS; rw [if_neg (isW_no (x := 16) (by omega) (by omega) (by omega) q8)]; rw [if_neg (isW_no (x := 16) (y := 14) (by omega) (by omega) (by omega) q8)]; rw [if_neg (isW_no (x := 16) (y := 15) (by omega) (by omega) (by omega) q8)]; rw [if_pos q8]; unfold setS; rw [hv9]
            exact b5 t9 _ hbd _ _ W3 (((e1.trans e2).g).trans kG_sa) (r9.keep (fun j hj => rfl) rfl) (fun k hk => by
              rw [wa_self]
              exact upd_c ((hD.kb e1).kb e2) rfl k hk)
        refine hJ 3 _ _ rfl _ _ _ _ (x_aload rfl (x_ldc (x_cv rfl (Nat.le_of_ble_eq_true rfl) (isO_W W (by decide) shp_80) (m_isWord (x := 0) W hd ht hn7 hτ hb (by omega) (xk_go (x_br (fun q1 => have q1 := bI_eq0.mp q1; ?_) (fun q1 => have q1 := bI_ne0.mp q1; x_aload rfl (x_cv rfl (Nat.le_of_ble_eq_true rfl) (isO_W W (by decide) shp_80) (m_readMember W hd ht hn7 hτ hb (isW_k q1) hD hO.1 (fun f9 hf9 h1 w1 W1 e2 c2 g1 g2 => xk_v (x_goto (?_))) (fun t9 V9 hv9 h1 w1 W1 e2 r9 d9 => xk_v (x_goto (?_))))))))))))
        · exact c4 n1 n2 n3 q1
        · have hbd : bodS τ n t V = .inl f9 := by unfold bodS; rw [if_pos q1]; exact hf9
          exact b5B f9 (lin_f hbd) _ _ W1 e2.g c2 g1 g2
        · have hbd : bodS τ n t V = .inr (t9, V9) := by unfold bodS; rw [if_pos q1]; exact hv9
          exact b5 t9 V9 hbd _ _ W1 e2 r9 d9
      refine hJ 4 _ _ rfl _ _ _ _ (x_aload rfl (x_sipush (x_cv rfl (Nat.le_of_ble_eq_true rfl) (isO_W W (by decide) shp_80) (m_blames (f := misf t) W hd ht hn7 hτ hb (misf_k _) rfl (misf_4 _) (fun h1 w1 W1 e2 c2 g1 g2 => xk_v (x_goto (?_)))))))
      exact b5B (misf t) (lin_f (by unfold bodS; rw [if_neg (by rw [n0]; decide), if_neg (by rw [n1]; decide), if_neg (by rw [n2]; decide), if_neg (by rw [n3]; decide)])) _ _ W1 (e2.mono (by decide)).g c2 g1 g2
    have hb0 : wn w0 80 12 = 0 := (hk.2 12 (by decide)).trans hb
    have hbo := bodS_ok ht hO hbd
    have ht1 := hbo.1
    have h3 : wn w0 80 10 = kI 3 ↔ t1.2.2 = 3 := tok_eq (j := 3) hd0.2.2.1 ht1.2.2.1 (by omega)
    by_cases e3' : t1.2.2 = 3
    · have e3 := h3.mpr e3'
      refine hJ 5 _ _ rfl _ _ _ _ (x_aload rfl (w_geti W0 7 10 (by decide) shp_80 rfl rfl (x_sipush (x_br2 (fun q1 => have q1 := cy_eq q1; hJ 6 _ _ rfl _ _ _ _ (x_aload rfl (w_geti W0 7 12 (by decide) shp_80 rfl rfl (x_br (fun q2 => absurd hb0 (cy_ne q2)) (fun q2 => have q2 := cn_ne q2; x_aload rfl (x_cv rfl (Nat.le_of_ble_eq_true rfl) (isO_W W0 (by decide) shp_80) (m_reads W0 hd0.1 ht1.2.1 hn7 hτ (fun h1 w1 W1 e1 r1 => xk_v (x_goto (hJ 7 _ _ rfl _ _ _ _ (x_aload rfl (w_geti W1 7 12 (by decide) shp_80 rfl rfl (x_br (fun q3 => absurd ((e1.2 12 (by decide)).trans hb0) (cy_ne q3)) (fun q3 => have q3 := cn_ne q3; x_aload rfl (w_getr W1 7 1 (t := 82) (by decide) shp_80 rfl rfl rfl (x_sipush (x_dup2 (w_iald W1 0 (by decide) shp_82 rfl (by decide) (by decide) (x_sipush (x_iadd (w_iast W1 0 (by decide) shp_82 rfl (by decide) (by decide) (fun h2 W2 => x_goto (hJ 8 _ _ rfl _ _ _ _ (x_vret rfl ?_)))))))))))))))))))))))) (fun q1 => absurd e3 (cn_eq q1))))))
      refine kk t1 V' _ hbd (if_pos e3') _ _ W2 ((hk.trans e1.g).trans kG_sa) (r1.keep (fun j hj => rfl) rfl) (fun k hk9 => ?_)
      rw [wa_self]
      refine upd_c (hD0.kb e1) ?_ k hk9
      rw [(hD0.kb e1) 0 (by omega)]
    · have e3 : ¬ wn w0 80 10 = kI 3 := fun z => e3' (h3.mp z)
      refine hJ 5 _ _ rfl _ _ _ _ (x_aload rfl (w_geti W0 7 10 (by decide) shp_80 rfl rfl (x_sipush (x_br2 (fun q1 => absurd (cy_eq q1) e3) (fun q1 => have q1 := cn_eq q1; x_aload rfl (x_sipush (x_cv rfl (Nat.le_of_ble_eq_true rfl) (isO_W W0 (by decide) shp_80) (m_blames (f := misf t1) W0 hd0 ht1 hn7 hτ hb0 (misf_k _) rfl (misf_4 _) (fun h1 w1 W1 e1 c2 g1 g2 => xk_v (x_goto (hJ 6 _ _ rfl _ _ _ _ (x_aload rfl (w_geti W1 7 12 (by decide) shp_80 rfl rfl (x_br (fun q2 => have q2 := cy_ne q2; hJ 7 _ _ rfl _ _ _ _ (x_aload rfl (w_geti W1 7 12 (by decide) shp_80 rfl rfl (x_br (fun q3 => have q3 := cy_ne q3; hJ 8 _ _ rfl _ _ _ _ (x_vret rfl ?_)) (fun q3 => absurd (cn_ne q3) c2))))) (fun q2 => absurd (cn_ne q2) c2)))))))))))))))
      exact kf (misf t1) (lin_g hbd (if_neg e3')) _ _ W1 ((hk.mono lrdb).trans (e1.mono (by decide)).g) c2 g1 g2
  refine hJ 5 _ _ rfl _ _ _ _ (x_aload rfl (w_geti W0 7 10 (by decide) shp_80 rfl rfl (x_sipush (x_br2 (fun q1 => have q1 := cy_eq q1; hJ 6 _ _ rfl _ _ _ _ (x_aload rfl (w_geti W0 7 12 (by decide) shp_80 rfl rfl (x_br (fun q2 => have q2 := cy_ne q2; hJ 7 _ _ rfl _ _ _ _ (x_aload rfl (w_geti W0 7 12 (by decide) shp_80 rfl rfl (x_br (fun q3 => have q3 := cy_ne q3; hJ 8 _ _ rfl _ _ _ _ (x_vret rfl ?_)) (fun q3 => absurd (cn_ne q3) hb0))))) (fun q2 => absurd (cn_ne q2) hb0))))) (fun q1 => have q1 := cn_eq q1; x_aload rfl (x_sipush (x_cv rfl (Nat.le_of_ble_eq_true rfl) (isO_W W0 (by decide) shp_80) (m_blamesB W0 hb0 (xk_v (x_goto (hJ 6 _ _ rfl _ _ _ _ (x_aload rfl (w_geti W0 7 12 (by decide) shp_80 rfl rfl (x_br (fun q4 => have q4 := cy_ne q4; hJ 7 _ _ rfl _ _ _ _ (x_aload rfl (w_geti W0 7 12 (by decide) shp_80 rfl rfl (x_br (fun q5 => have q5 := cy_ne q5; hJ 8 _ _ rfl _ _ _ _ (x_vret rfl ?_)) (fun q5 => absurd (cn_ne q5) hb0))))) (fun q4 => absurd (cn_ne q4) hb0)))))))))))))))
  · exact kf f hf _ _ W0 hk hb0 g1 g2
  · exact kf f hf _ _ W0 hk hb0 g1 g2
end W1
