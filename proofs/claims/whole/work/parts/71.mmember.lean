/-! ===== the model's reader: a member ===== -/
def DrM (w : Wst) (V : VT) : Prop := ∀ k, k < 114 → wa w 82 k = V k
def kG (l : List Nat) (w w' : Wst) : Prop := (∀ a, a ≠ 80 → a ≠ 82 → same w w' a) ∧ ∀ j, j ∉ l → wn w' 80 j = wn w 80 j
theorem kB.g {l : List Nat} {w w' : Wst} (h : kB l w w') : kG l w w' := ⟨fun a h1 _ => h.1 a h1, h.2⟩
theorem kG.trans {l : List Nat} {w w' w'' : Wst} (h : kG l w w') (g : kG l w' w'') : kG l w w'' := ⟨fun a h1 h2 => (h.1 a h1 h2).trans (g.1 a h1 h2), fun j hj => (g.2 j hj).trans (h.2 j hj)⟩
theorem kG.mono {l m : List Nat} {w w' : Wst} (h : kG l w w') (hl : ∀ a ∈ l, a ∈ m) : kG m w w' := ⟨h.1, fun j hj => h.2 j (fun z => hj (hl j z))⟩
theorem kG_sa {l : List Nat} {w : Wst} {f : Nat → Int32} : kG l w (sa w 82 f) := ⟨fun a _ ha => same_sa ha, fun j _ => rfl⟩
theorem DrM.kb {l : List Nat} {w w' : Wst} {V : VT} (h : DrM w V) (k : kB l w w') : DrM w' V := fun j hj => by
  rw [(k.1 82 (by omega)).2.2.1]
  exact h j hj
theorem upd_c {F V : VT} {a : Nat} {x y : Int32} (h : ∀ k, k < 114 → F k = V k) (hx : x = y) : ∀ k, k < 114 → upd F a x k = upd V a y k := fun k hk => by
  by_cases e : k = a
  · rw [e, upd_self, upd_self, hx]
  · rw [upd_ne e, upd_ne e, h k hk]
theorem ls_6 : ∀ r, 4 ≤ r → r ≤ 9 → lsN r = (if r = 6 then 1 else 0) ∧ msN r = (if r = 9 then 6 else 12) := by
  intro r h1 h2
  have h3 : r = 4 ∨ r = 5 ∨ r = 6 ∨ r = 7 ∨ r = 8 ∨ r = 9 := by omega
  rcases h3 with rfl | rfl | rfl | rfl | rfl | rfl <;> decide
section W1
variable {τ : Nat → Nat} {n : Nat} {t : TK}
variable {ga : Nat → Nat} {L : Nat} {xs : Nat → Int32} {d : Nat} {h : ac_H} {P : ac_P} {ad : Nat → Nat} {w : Wst} {V : VT}
theorem m_readMember {V : VT} (W : WW ad w h) (hd : RmC w τ n t) (ht : tkOK τ n t) (hn7 : n ≤ 700) (hτ : ∀ k, τ k < 256) (hb : wn w 80 12 = 0) (hk1 : t.2.2 = 1) (hD : DrM w V) (hO : V 4 = kI (nm V : Int) ∧ nm V ≤ 12) (kf : ∀ f, memS τ n t V = .inl f → ∀ h' w', WW ad w' h' → kB lbd w w' → ¬ wn w' 80 12 = 0 → wn w' 80 12 = kI (f.1 : Int) → wn w' 80 13 = kI (f.2 : Int) → P (.inl none) h') (kk : ∀ t' V', memS τ n t V = .inr (t', V') → ∀ h' w', WW ad w' h' → kG lrd w w' → RmC w' τ n t' → DrM w' V' → P (.inl none) h') : WP ga L xs (d + 4) 155 [.ref (ad 80)] h P := by
  have en : wa w 82 4 = kI (nm V : Int) := (hD 4 (by omega)).trans hO.1
  have hn12' := hO.2
  have ht1 := (tk_ok (τ := τ) ht.2.1).1
  have ht2 := (tk_ok (τ := τ) ht1.2.1).1
  have h4f : kI ((4 : Nat) : Int) = if t.2.2 = 0 then kI 1 else kI 4 := by rw [if_neg (by omega)]; rfl
  refine WP.enter kX7_readMember (Nat.le_of_ble_eq_true rfl) (fun J hJ => ?_)
  have b14 : nm V < 12 → ∀ (r v c : Nat) (u : Bool) (t5 : TK), memS τ n t V = .inr (t5, joinV V (kI (r : Int)) (kI (v : Int)) (kI (c : Int)) (bI u)) → ∀ h0 w0 z5, WW ad w0 h0 → kB lrd w w0 → RmC w0 τ n t5 → J 14 [some (.ref (ad 80)), some (.int (kI (r : Int))), some (.int (kI (v : Int))), some (.int (kI (c : Int))), some (.int (bI u)), z5] [] h0 (0, 0) := fun hn12 r v c u t5 hm h0 w0 z5 W0 hk hd0 => ?_
  · have b11B : ∀ f, memS τ n t V = .inl f → ∀ h0 w0 x1 x2 z3 z4 z5 y, WW ad w0 h0 → kB lbd w w0 → ¬ wn w0 80 12 = 0 → wn w0 80 12 = kI (f.1 : Int) → wn w0 80 13 = kI (f.2 : Int) → J 11 [some (.ref (ad 80)), some (.int x1), some (.int x2), z3, z4, z5] [.int y] h0 (0, 0) := fun f hf h0 w0 x1 x2 z3 z4 z5 y W0 hk hb0 g1 g2 => ?_
    · have b11 : nm V < 12 → ∀ (r v c : Nat) (t3 t4 : TK), r < 11 → ruleS τ (tk τ n t.2.1) = r → mnS τ n r (tk τ n (tk τ n t.2.1).2.1) = .inr (t3, v) → mcS τ n t3 = .inr (t4, c) → tkOK τ n t4 → ∀ h0 w0 z3 z4 z5, WW ad w0 h0 → kB lrd w w0 → RmC w0 τ n t4 → J 11 [some (.ref (ad 80)), some (.int (kI (r : Int))), some (.int (kI (v : Int))), z3, z4, z5] [.int (kI (c : Int))] h0 (0, 0) := fun hn12 r v c t3 t4 hr11 hr hv hc ht4 h0 w0 z3 z4 z5 W0 hk hd0 => ?_
      · have b9B : ∀ f, memS τ n t V = .inl f → ∀ h0 w0 x1 z2 z3 z4 z5 y, WW ad w0 h0 → kB lbd w w0 → ¬ wn w0 80 12 = 0 → wn w0 80 12 = kI (f.1 : Int) → wn w0 80 13 = kI (f.2 : Int) → J 9 [some (.ref (ad 80)), some (.int x1), z2, z3, z4, z5] [.int y] h0 (0, 0) := fun f hf h0 w0 x1 z2 z3 z4 z5 y W0 hk hb0 g1 g2 => ?_
        · have b9 : nm V < 12 → ∀ (r v : Nat) (t3 : TK), r < 11 → ruleS τ (tk τ n t.2.1) = r → mnS τ n r (tk τ n (tk τ n t.2.1).2.1) = .inr (t3, v) → tkOK τ n t3 → ∀ h0 w0 z2 z3 z4 z5, WW ad w0 h0 → kB lrd w w0 → RmC w0 τ n t3 → J 9 [some (.ref (ad 80)), some (.int (kI (r : Int))), z2, z3, z4, z5] [.int (kI (v : Int))] h0 (0, 0) := fun hn12 r v t3 hr11 hr hv ht3 h0 w0 z2 z3 z4 z5 W0 hk hd0 => ?_
          · have b4 : nm V < 12 → ∀ r : Nat, r < 11 → ruleS τ (tk τ n t.2.1) = r → ∀ h0 w0 z2 z3 z4 z5, WW ad w0 h0 → kB lrd w w0 → RmC w0 τ n (tk τ n t.2.1) → J 4 [some (.ref (ad 80)), some (.int (kI (r : Int))), z2, z3, z4, z5] [] h0 (0, 0) := fun hn12 r hr11 hr h0 w0 z2 z3 z4 z5 W0 hk hd0 => ?_
            · have b2 : nm V < 12 → J 2 [some (.ref (ad 80)), none, none, none, none, none] [] h (0, 0) := fun hn12 => ?_
              · refine hJ 0 _ _ rfl _ _ _ _ (x_aload rfl (w_getr W 7 1 (t := 82) (by decide) shp_80 rfl rfl rfl (x_sipush (w_iald W 4 (by decide) shp_82 rfl (by decide) (by decide) (x_sipush (x_br2 (fun q1 => have q1 := cy_ne q1; hJ 1 _ _ rfl _ _ _ _ (x_aload rfl (w_geti W 7 12 (by decide) shp_80 rfl rfl (x_br (fun q2 => have q2 := cy_eq q2; ?_) (fun q2 => have q2 := cn_eq q2; x_vret rfl ?_))))) (fun q1 => have q1 := cn_ne q1; x_aload rfl (x_sipush (x_cv rfl (Nat.le_of_ble_eq_true rfl) (isO_W W (by decide) shp_80) (m_blames (f := (4, t.1)) W hd ht hn7 hτ hb h4f rfl ⟨by show 1 ≤ 4; omega, by show 4 ≤ 4; omega⟩ (fun h1 w1 W1 e1 b1 f1 g1 => xk_v (x_goto (hJ 1 _ _ rfl _ _ _ _ (x_aload rfl (w_geti W1 7 12 (by decide) shp_80 rfl rfl (x_br (fun q3 => have q3 := cy_eq q3; ?_) (fun q3 => have q3 := cn_eq q3; x_vret rfl ?_)))))))))))))))))
                · exact b2 (by
                    have : ¬ nm V = 12 := fun z => q1 (by rw [en, z]; rfl)
                    omega)
                · exact absurd hb q2
                · exact absurd q3 b1
                · have hn : nm V = 12 := (kN_inj (b := 12) (by omega) (by omega)).mp (en.symm.trans q1)
                  exact kf (4, t.1) (by unfold memS; rw [if_pos hn]) h1 w1 W1 (e1.mono (by decide)) b1 f1 g1
              refine hJ 2 _ _ rfl _ _ _ _ (x_aload rfl (x_cv rfl (Nat.le_of_ble_eq_true rfl) (isO_W W (by decide) shp_80) (m_reads W hd.1 ht.2.1 hn7 hτ (fun h1 w1 W1 e1 r1 => xk_v (x_aload rfl (x_cv rfl (Nat.le_of_ble_eq_true rfl) (isO_W W1 (by decide) shp_80) (m_ruleTold W1 r1 ht1 hn7 hτ ((e1.2 12 (by decide)).trans hb) (xk_go (x_istore rfl (x_iload rfl (x_sipush (x_br2 (fun q1 => have q1 := cy_ne q1; hJ 3 _ _ rfl _ _ _ _ (x_aload rfl (w_geti W1 7 12 (by decide) shp_80 rfl rfl (x_br (fun q2 => have q2 := cy_eq q2; ?_) (fun q2 => have q2 := cn_eq q2; x_vret rfl ?_))))) (fun q1 => have q1 := cn_ne q1; x_aload rfl (x_sipush (x_cv rfl (Nat.le_of_ble_eq_true rfl) (isO_W W1 (by decide) shp_80) (m_blames (f := misf (tk τ n t.2.1)) W1 r1 ht1 hn7 hτ ((e1.2 12 (by decide)).trans hb) (misf_k _) rfl (misf_4 _) (fun h2 w2 W2 e2 b2 f2 g2 => xk_v (x_goto (hJ 3 _ _ rfl _ _ _ _ (x_aload rfl (w_geti W2 7 12 (by decide) shp_80 rfl rfl (x_br (fun q3 => have q3 := cy_eq q3; ?_) (fun q3 => have q3 := cn_eq q3; x_vret rfl ?_)))))))))))))))))))))))
              · have hr11 : ruleS τ (tk τ n t.2.1) < 11 := by
                  by_cases h9 : ruleS τ (tk τ n t.2.1) < 11
                  · exact h9
                  · rw [if_neg h9] at q1
                    exact absurd rfl q1
                rw [if_pos hr11]
                exact b4 hn12 _ hr11 rfl h1 w1 _ _ _ _ W1 e1 r1
              · exact absurd ((e1.2 12 (by decide)).trans hb) q2
              · exact absurd q3 b2
              · have hr11 : ¬ ruleS τ (tk τ n t.2.1) < 11 := fun h9 => by
                  rw [if_pos h9] at q1
                  exact kIm1 (by omega) q1
                have hr : ruleS τ (tk τ n t.2.1) = 11 := by
                  have h8 : ruleS τ (tk τ n t.2.1) ≤ 11 := rul_le _ _
                  omega
                exact kf _ (by unfold memS; rw [if_neg (by omega), if_pos hr]) h2 w2 W2 ((e1.mono lrdb).trans (e2.mono (by decide))) b2 f2 g2
            have hb0 : wn w0 80 12 = 0 := (hk.2 12 (by decide)).trans hb
            refine hJ 4 _ _ rfl _ _ _ _ (x_aload rfl (x_cv rfl (Nat.le_of_ble_eq_true rfl) (isO_W W0 (by decide) shp_80) (m_reads W0 hd0.1 ht1.2.1 hn7 hτ (fun h1 w1 W1 e1 r1 => xk_v (x_iload rfl (x_sipush (x_br2 (fun q1 => have q1 := lt4 hr11 q1; hJ 5 _ _ rfl _ _ _ _ (x_sipush (x_goto (?_)))) (fun q1 => have q1 := nl4 hr11 q1; x_iload rfl (x_sipush (x_br2 (fun q2 => have q2 := cy_ne q2; hJ 6 _ _ rfl _ _ _ _ (x_iload rfl (x_sipush (x_br2 (fun q3 => have q3 := cy_ne q3; hJ 7 _ _ rfl _ _ _ _ (x_iload rfl (x_sipush (x_br2 (fun q4 => have q4 := cy_ne q4; hJ 8 _ _ rfl _ _ _ _ (x_aload rfl (x_sipush (x_sipush (x_cv rfl (Nat.le_of_ble_eq_true rfl) (isO_W W1 (by decide) shp_80) (m_number (lo := 0) (hi := 12) W1 r1 ht2 hn7 hτ ((e1.2 12 (by decide)).trans hb0) rfl rfl (by decide) (fun f9 hf9 h2 w2 W2 e2 c2 g1 g2 => xk_go (x_goto (?_))) (fun t9 v9 hv9 h2 w2 W2 e2 r9 => xk_go (x_goto (?_))))))))) (fun q4 => have q4 := cn_ne q4; x_aload rfl (x_sipush (x_sipush (x_cv rfl (Nat.le_of_ble_eq_true rfl) (isO_W W1 (by decide) shp_80) (m_number (lo := 0) (hi := 6) W1 r1 ht2 hn7 hτ ((e1.2 12 (by decide)).trans hb0) rfl rfl (by decide) (fun f9 hf9 h3 w3 W3 e2 c2 g1 g2 => xk_go (x_goto (?_))) (fun t9 v9 hv9 h3 w3 W3 e2 r9 => xk_go (x_goto (?_)))))))))))) (fun q3 => have q3 := cn_ne q3; x_aload rfl (x_sipush (x_sipush (x_cv rfl (Nat.le_of_ble_eq_true rfl) (isO_W W1 (by decide) shp_80) (m_number (lo := 1) (hi := 12) W1 r1 ht2 hn7 hτ ((e1.2 12 (by decide)).trans hb0) rfl rfl (by decide) (fun f9 hf9 h4 w4 W4 e2 c2 g1 g2 => xk_go (x_goto (?_))) (fun t9 v9 hv9 h4 w4 W4 e2 r9 => xk_go (x_goto (?_)))))))))))) (fun q2 => have q2 := cn_ne q2; x_goto (hJ 5 _ _ rfl _ _ _ _ (x_sipush (x_goto (?_)))))))))))))))
            · exact b9 hn12 r 0 _ hr11 hr (by unfold mnS; rw [if_neg (by omega)]) ht2 h1 w1 _ _ _ _ W1 (hk.trans e1) r1
            · have hr9 : r ≤ 9 := by
                have : ¬ r = 10 := fun z => q2 (by rw [z]; rfl)
                omega
              have l6 := ls_6 r q1 hr9
              have n6 : ¬ r = 6 := fun z => q3 (by rw [z]; rfl)
              have n9 : ¬ r = 9 := fun z => q4 (by rw [z]; rfl)
              exact b9B f9 (by unfold memS; rw [if_neg (by omega), hr, if_neg (by omega), show mnS τ n r (tk τ n (tk τ n t.2.1).2.1) = .inl f9 from (by unfold mnS; rw [if_pos ⟨q1, hr9⟩, l6.1, l6.2, if_neg n6, if_neg n9]; exact hf9)]) h2 w2 _ _ _ _ _ _ W2 (((hk.trans e1).mono lrdb).trans e2) c2 g1 g2
            · have hr9 : r ≤ 9 := by
                have : ¬ r = 10 := fun z => q2 (by rw [z]; rfl)
                omega
              have l6 := ls_6 r q1 hr9
              have n6 : ¬ r = 6 := fun z => q3 (by rw [z]; rfl)
              have n9 : ¬ r = 9 := fun z => q4 (by rw [z]; rfl)
              exact b9 hn12 r v9 t9 hr11 hr (by unfold mnS; rw [if_pos ⟨q1, hr9⟩, l6.1, l6.2, if_neg n6, if_neg n9]; exact hv9) (numS_ok ht2 hv9).1 h2 w2 _ _ _ _ W2 ((hk.trans e1).trans e2) r9
            · have hr9 : r ≤ 9 := by
                have : ¬ r = 10 := fun z => q2 (by rw [z]; rfl)
                omega
              have l6 := ls_6 r q1 hr9
              have n9 : r = 9 := (kN_inj (b := 9) (by omega) (by omega)).mp q4
              exact b9B f9 (by unfold memS; rw [if_neg (by omega), hr, if_neg (by omega), show mnS τ n r (tk τ n (tk τ n t.2.1).2.1) = .inl f9 from (by unfold mnS; rw [if_pos ⟨q1, hr9⟩, l6.1, l6.2, if_neg (show ¬ r = 6 by omega), if_pos n9]; exact hf9)]) h3 w3 _ _ _ _ _ _ W3 (((hk.trans e1).mono lrdb).trans e2) c2 g1 g2
            · have hr9 : r ≤ 9 := by
                have : ¬ r = 10 := fun z => q2 (by rw [z]; rfl)
                omega
              have l6 := ls_6 r q1 hr9
              have n9 : r = 9 := (kN_inj (b := 9) (by omega) (by omega)).mp q4
              exact b9 hn12 r v9 t9 hr11 hr (by unfold mnS; rw [if_pos ⟨q1, hr9⟩, l6.1, l6.2, if_neg (show ¬ r = 6 by omega), if_pos n9]; exact hv9) (numS_ok ht2 hv9).1 h3 w3 _ _ _ _ W3 ((hk.trans e1).trans e2) r9
            · have hr9 : r ≤ 9 := by
                have : ¬ r = 10 := fun z => q2 (by rw [z]; rfl)
                omega
              have l6 := ls_6 r q1 hr9
              have n6 : r = 6 := (kN_inj (b := 6) (by omega) (by omega)).mp q3
              exact b9B f9 (by unfold memS; rw [if_neg (by omega), hr, if_neg (by omega), show mnS τ n r (tk τ n (tk τ n t.2.1).2.1) = .inl f9 from (by unfold mnS; rw [if_pos ⟨q1, hr9⟩, l6.1, l6.2, if_pos n6, if_neg (show ¬ r = 9 by omega)]; exact hf9)]) h4 w4 _ _ _ _ _ _ W4 (((hk.trans e1).mono lrdb).trans e2) c2 g1 g2
            · have hr9 : r ≤ 9 := by
                have : ¬ r = 10 := fun z => q2 (by rw [z]; rfl)
                omega
              have l6 := ls_6 r q1 hr9
              have n6 : r = 6 := (kN_inj (b := 6) (by omega) (by omega)).mp q3
              exact b9 hn12 r v9 t9 hr11 hr (by unfold mnS; rw [if_pos ⟨q1, hr9⟩, l6.1, l6.2, if_pos n6, if_neg (show ¬ r = 9 by omega)]; exact hv9) (numS_ok ht2 hv9).1 h4 w4 _ _ _ _ W4 ((hk.trans e1).trans e2) r9
            · have n10 : r = 10 := (kN_inj (b := 10) (by omega) (by omega)).mp q2
              exact b9 hn12 r 0 _ hr11 hr (by unfold mnS; rw [if_neg (by omega)]) ht2 h1 w1 _ _ _ _ W1 (hk.trans e1) r1
          have hb0 : wn w0 80 12 = 0 := (hk.2 12 (by decide)).trans hb
          have ht3b := (tk_ok (τ := τ) ht3.2.1).1
          refine hJ 9 _ _ rfl _ _ _ _ (x_istore rfl (x_aload rfl (x_ldc (x_cv rfl (Nat.le_of_ble_eq_true rfl) (isO_W W0 (by decide) shp_80) (m_took (x := 12) W0 hd0 ht3 hn7 hτ hb0 (by omega) (fun q8 => ?_) (fun q8 h1 w1 W1 e1 r1 => xk_go (x_br (fun q1 => absurd (bI_eq0.mp q1) (by decide)) (fun q1 => have q1 := bI_ne0.mp q1; x_aload rfl (x_sipush (x_sipush (x_cv rfl (Nat.le_of_ble_eq_true rfl) (isO_W W1 (by decide) shp_80) (m_number (lo := 0) (hi := 999) W1 r1 ht3b hn7 hτ ((e1.2 12 (by decide)).trans hb0) rfl rfl (by decide) (fun f9 hf9 h2 w2 W2 e2 c2 g1 g2 => xk_go (x_goto (?_))) (fun t9 v9 hv9 h2 w2 W2 e2 r9 => xk_go (x_goto (?_)))))))))))))))
          · refine xk_go (x_br (fun z1 => have z1 := bI_eq0.mp z1; hJ 10 _ _ rfl _ _ _ _ (x_sipush (x_goto (?_)))) (fun z1 => absurd (bI_ne0.mp z1) (by decide)))
            exact b11 hn12 r v 0 t3 t3 hr11 hr hv (by unfold mcS; rw [if_neg (by rw [q8]; decide)]) ht3 h0 w0 _ _ _ W0 hk hd0
          · have hc : mcS τ n t3 = .inl f9 := by unfold mcS; rw [if_pos q8]; exact hf9
            exact b11B f9 (by unfold memS; rw [if_neg (by omega), hr, if_neg (by omega), hv]; show (match mcS τ n t3 with | .inl f => _ | .inr (t4, c) => _) = _; rw [hc]) h2 w2 _ _ _ _ _ _ W2 (((hk.trans e1).mono lrdb).trans e2) c2 g1 g2
          · have hc : mcS τ n t3 = .inr (t9, v9) := by unfold mcS; rw [if_pos q8]; exact hv9
            exact b11 hn12 r v v9 t3 t9 hr11 hr hv hc (numS_ok ht3b hv9).1 h2 w2 _ _ _ W2 ((hk.trans e1).trans e2) r9
        refine hJ 9 _ _ rfl _ _ _ _ (x_istore rfl (x_aload rfl (x_ldc (x_cv rfl (Nat.le_of_ble_eq_true rfl) (isO_W W0 (by decide) shp_80) (m_tookB W0 hb0 (xk_go (x_br (fun q1 => have q1 := bI_eq0.mp q1; hJ 10 _ _ rfl _ _ _ _ (x_sipush (x_goto (?_)))) (fun q1 => absurd (bI_ne0.mp q1) (by decide)))))))))
        exact b11B f hf _ _ _ _ _ _ _ _ W0 hk hb0 g1 g2
      have hb0 : wn w0 80 12 = 0 := (hk.2 12 (by decide)).trans hb
      have hmem : memS τ n t V = .inr (muS τ n t4, joinV V (kI (r : Int)) (kI (v : Int)) (kI (c : Int)) (bI (isW τ t4 13))) := by
        unfold memS
        rw [if_neg (by omega), hr, if_neg (by omega), hv]
        show (match mcS τ n t3 with | .inl f => _ | .inr (t4, c) => _) = _
        rw [hc]
      refine hJ 11 _ _ rfl _ _ _ _ (x_istore rfl (x_aload rfl (x_ldc (x_cv rfl (Nat.le_of_ble_eq_true rfl) (isO_W W0 (by decide) shp_80) (m_took (x := 13) W0 hd0 ht4 hn7 hτ hb0 (by omega) (fun q8 => ?_) (fun q8 h1 w1 W1 e1 r1 => xk_go (x_br (fun q1 => absurd (bI_eq0.mp q1) (by decide)) (fun q1 => have q1 := bI_ne0.mp q1; x_sipush (x_goto (hJ 13 _ _ rfl _ _ _ _ (x_istore rfl (x_aload rfl (w_geti W1 7 12 (by decide) shp_80 rfl rfl (x_br (fun q2 => have q2 := cy_eq q2; ?_) (fun q2 => absurd ((e1.2 12 (by decide)).trans hb0) (cn_eq q2))))))))))))))))
      · refine xk_go (x_br (fun z1 => have z1 := bI_eq0.mp z1; hJ 12 _ _ rfl _ _ _ _ (x_sipush (x_goto (hJ 13 _ _ rfl _ _ _ _ (x_istore rfl (x_aload rfl (w_geti W0 7 12 (by decide) shp_80 rfl rfl (x_br (fun z2 => have z2 := cy_eq z2; ?_) (fun z2 => absurd hb0 (cn_eq z2)))))))))) (fun z1 => absurd (bI_ne0.mp z1) (by decide)))
        have em : muS τ n t4 = t4 := by unfold muS; rw [if_neg (by rw [q8]; decide)]
        rw [em, q8] at hmem
        exact J_c (b14 hn12 r v c false t4 hmem h0 w0 _ W0 hk hd0) rfl
      · have em : muS τ n t4 = tk τ n t4.2.1 := by unfold muS; rw [if_pos q8]
        rw [em, q8] at hmem
        exact J_c (b14 hn12 r v c true _ hmem h1 w1 _ W1 (hk.trans e1) r1) rfl
    refine hJ 11 _ _ rfl _ _ _ _ (x_istore rfl (x_aload rfl (x_ldc (x_cv rfl (Nat.le_of_ble_eq_true rfl) (isO_W W0 (by decide) shp_80) (m_tookB W0 hb0 (xk_go (x_br (fun q1 => have q1 := bI_eq0.mp q1; hJ 12 _ _ rfl _ _ _ _ (x_sipush (x_goto (hJ 13 _ _ rfl _ _ _ _ (x_istore rfl (x_aload rfl (w_geti W0 7 12 (by decide) shp_80 rfl rfl (x_br (fun q2 => absurd (cy_eq q2) hb0) (fun q2 => have q2 := cn_eq q2; x_vret rfl ?_))))))))) (fun q1 => absurd (bI_ne0.mp q1) (by decide)))))))))
    exact kf f hf _ _ W0 hk hb0 g1 g2
  have hD0 := hD.kb hk
  have en0 : wa w0 82 4 = kI (nm V : Int) := (hD0 4 (by omega)).trans hO.1
  have hix : kI 6 + kI 4 * wa w0 82 4 = kI ((6 + 4 * nm V : Nat) : Int) := by
    rw [en0, kI_mul, kI_add]
    exact congrArg kI (by omega)
  refine hJ 14 _ _ rfl _ _ _ _ (x_sipush (x_sipush (x_aload rfl (w_getr W0 7 1 (t := 82) (by decide) shp_80 rfl rfl rfl (x_sipush (w_iald W0 4 (by decide) shp_82 rfl (by decide) (by decide) (x_imul (x_iadd (x_eqi hix (x_istore rfl (x_aload rfl (w_getr W0 7 1 (t := 82) (by decide) shp_80 rfl rfl rfl (x_iload rfl (x_sipush (x_iadd (x_iload rfl (w_iast W0 (6 + 4 * nm V + 0) (by decide) shp_82 (kN_add _ 0) (by omega) (by decide) (fun h1 W1 => x_aload rfl (w_getr W1 7 1 (t := 82) (by decide) shp_80 rfl rfl rfl (x_iload rfl (x_sipush (x_iadd (x_iload rfl (w_iast W1 (6 + 4 * nm V + 1) (by decide) shp_82 (kN_add _ 1) (by omega) (by decide) (fun h2 W2 => x_aload rfl (w_getr W2 7 1 (t := 82) (by decide) shp_80 rfl rfl rfl (x_iload rfl (x_sipush (x_iadd (x_iload rfl (w_iast W2 (6 + 4 * nm V + 2) (by decide) shp_82 (kN_add _ 2) (by omega) (by decide) (fun h3 W3 => x_aload rfl (w_getr W3 7 1 (t := 82) (by decide) shp_80 rfl rfl rfl (x_iload rfl (x_sipush (x_iadd (x_iload rfl (w_iast W3 (6 + 4 * nm V + 3) (by decide) shp_82 (kN_add _ 3) (by omega) (by decide) (fun h4 W4 => x_aload rfl (w_getr W4 7 1 (t := 82) (by decide) shp_80 rfl rfl rfl (x_sipush (x_dup2 (w_iald W4 4 (by decide) shp_82 rfl (by decide) (by decide) (x_sipush (x_iadd (w_iast W4 4 (by decide) shp_82 rfl (by decide) (by decide) (fun h5 W5 => x_vret rfl ?_)))))))))))))))))))))))))))))))))))))))))))))))
  refine kk _ _ hm h5 _ W5 (hk.g.trans ((((kG_sa.trans kG_sa).trans kG_sa).trans kG_sa).trans kG_sa)) (hd0.keep (fun j hj => rfl) rfl) (fun k hk9 => ?_)
  simp only [wa_self]
  unfold joinV
  refine upd_c (upd_c (upd_c (upd_c (upd_c hD0 rfl) rfl) rfl) rfl) ?_ k hk9
  rw [upd_ne (by omega), upd_ne (by omega), upd_ne (by omega), upd_ne (by omega), en0, kN_succ]
end W1
