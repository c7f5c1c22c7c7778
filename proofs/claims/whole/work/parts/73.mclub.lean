/-! ===== a club is told: the model ===== -/
section W1
variable {S : StT} {τ : Nat → Nat} {n : Nat}
variable {ga : Nat → Nat} {L : Nat} {xs : Nat → Int32} {d : Nat} {h : ac_H} {P : ac_P} {ad : Nat → Nat} {w : Wst} {V : VT}
theorem m_begins (W : WW ad w h) (kk : ∀ h' w', WW ad w' h' → (∀ a, a ≠ 82 → same w w' a) → DrM w' V0 → P (.inl none) h') : WP ga L xs (d + 1) 144 [.ref (ad 82)] h P := by
  refine WP.enter kX7_begins (Nat.le_of_ble_eq_true rfl) (fun J hJ => ?_)
  have loop : ∀ m, m ≤ 114 → ∀ h0 w0, WW ad w0 h0 → (∀ a, a ≠ 82 → same w w0 a) → (∀ k, k < m → wa w0 82 k = kI 0) → J 1 [some (.ref (ad 82)), some (.int (kI (m : Int)))] [] h0 (0, 0) := up_ind (fun m hm ih h0 w0 W0 hs hz => ?_)
  · refine hJ 0 _ _ rfl _ _ _ _ (x_sipush (x_istore rfl (x_goto (?_))))
    exact loop 0 (Nat.zero_le _) _ _ W (fun a _ => same_refl) (fun k hk => by omega)
  refine hJ 1 _ _ rfl _ _ _ _ (x_iload rfl (x_sipush (x_br2 (fun q1 => have q1 := ge_y (n := 114) rfl (by omega) q1; hJ 2 _ _ rfl _ _ _ _ (x_aload rfl (x_sipush (x_sipush (w_iast W0 1 (by decide) shp_82 rfl (by decide) (by decide) (fun h1 W1 => x_aload rfl (x_sipush (x_sipush (w_iast W1 2 (by decide) shp_82 rfl (by decide) (by decide) (fun h2 W2 => x_vret rfl ?_)))))))))) (fun q1 => have q1 := ge_n (n := 114) rfl (by omega) q1; x_aload rfl (x_iload rfl (x_sipush (w_iast W0 m (by decide) shp_82 rfl (by omega) (by decide) (fun h3 W3 => x_iinc rfl rfl (x_goto (?_))))))))))
  · refine kk _ _ W2 (fun a ha => (hs a ha).trans ((same_sa ha).trans (same_sa ha))) (fun k hk => ?_)
    simp only [wa_self]
    unfold V0
    by_cases e2 : k = 2
    · rw [e2, upd_self]
      rfl
    · rw [upd_ne e2]
      by_cases e1 : k = 1
      · rw [e1, upd_self]
        rfl
      · rw [upd_ne e1, if_neg e1, if_neg e2]
        exact hz k (by omega)
  · refine J_c (ih q1 _ _ W3 (fun a ha => (hs a ha).trans (same_sa ha)) (fun k hk => ?_)) (by simp only [sI, kN_succ])
    rw [wa_self]
    by_cases e : k = m
    · rw [e, upd_self]
    · rw [upd_ne e]
      exact hz k (by omega)
theorem m_copies (W : WW ad w h) (kk : ∀ h' w', WW ad w' h' → (∀ a, a ≠ 81 → same w w' a) → (∀ k, wa w' 81 k = if k < 114 then wa w 82 k else wa w 81 k) → P (.inl none) h') : WP ga L xs (d + 1) 143 [.ref (ad 82), .ref (ad 81)] h P := by
  refine WP.enter kX7_copies (Nat.le_of_ble_eq_true rfl) (fun J hJ => ?_)
  have loop : ∀ m, m ≤ 114 → ∀ h0 w0, WW ad w0 h0 → (∀ a, a ≠ 81 → same w w0 a) → (∀ k, wa w0 81 k = if k < m then wa w 82 k else wa w 81 k) → J 1 [some (.ref (ad 82)), some (.ref (ad 81)), some (.int (kI (m : Int)))] [] h0 (0, 0) := up_ind (fun m hm ih h0 w0 W0 hs hz => ?_)
  · refine hJ 0 _ _ rfl _ _ _ _ (x_sipush (x_istore rfl (x_goto (?_))))
    exact loop 0 (Nat.zero_le _) _ _ W (fun a _ => same_refl) (fun k => by rw [if_neg (by omega)])
  refine hJ 1 _ _ rfl _ _ _ _ (x_iload rfl (x_sipush (x_br2 (fun q1 => have q1 := ge_y (n := 114) rfl (by omega) q1; hJ 2 _ _ rfl _ _ _ _ (x_vret rfl ?_)) (fun q1 => have q1 := ge_n (n := 114) rfl (by omega) q1; x_aload rfl (x_iload rfl (x_aload rfl (x_iload rfl (w_iald W0 m (by decide) shp_82 rfl (by omega) (by decide) (w_iast W0 m (by decide) shp_81 rfl (by omega) (by decide) (fun h1 W1 => x_iinc rfl rfl (x_goto (?_))))))))))))
  · have e : m = 114 := by omega
    subst e
    exact kk _ _ W0 hs hz
  · refine J_c (ih q1 _ _ W1 (fun a ha => (hs a ha).trans (same_sa ha)) (fun k => ?_)) (by simp only [sI, kN_succ])
    rw [wa_self]
    by_cases e : k = m
    · rw [e, upd_self, if_pos (by omega), (hs 82 (by omega)).2.2.1]
    · rw [upd_ne e, hz k]
      by_cases hc : k < m
      · rw [if_pos hc, if_pos (by omega)]
      · rw [if_neg hc, if_neg (by omega)]
theorem RMo.fed {w w' : Wst} {S : StT} {V' : VT} {f : Int32 × Int32} (h : RMo w S) (hs : ∀ a, a ≠ 80 → a ≠ 82 → a ≠ 81 → same w w' a) (hK : wa w' 81 = V') (h6 : wn w' 80 6 = kI 0) (hF : FmR w' f) : RMo w' (V', S.2.1, S.2.2.1, (S.2.2.2.1.1, 0), f) := by
  obtain ⟨-, hT, hI, -, -⟩ := h
  refine ⟨hK, ⟨fun t ht => ?_, fun k hk => ?_⟩, fun j hj => ?_, ⟨h6, fun k hk => absurd hk (Nat.not_lt_zero _)⟩, hF⟩
  · rw [(hs 93 (by omega) (by omega) (by omega)).2.2.1, (hs 94 (by omega) (by omega) (by omega)).2.2.1]; exact hT.1 t ht
  · rw [(hs 95 (by omega) (by omega) (by omega)).2.2.2]; exact hT.2 k hk
  · rw [(hs 84 (by omega) (by omega) (by omega)).2.2.1, (hs 83 (by omega) (by omega) (by omega)).2.2.1]; exact hI j hj
theorem m_club {x : Int32} (W : WW ad w h) (hS : RMo w S) (hO : SOK S) (kk : KQm ad P w (clT S.2.2.2.1.2 x) (some (clRes S.2.2.2.1.1 (tN x))) S (clSt S (tN x))) : WP ga L xs (d + 7) 157 [.ref (ad 80), .int x] h P := by
  obtain ⟨hK, hT, hI, hP, hF⟩ := id hS
  have hP2 : ∀ k, k < S.2.2.2.1.2 → wa w 85 k = kI (S.2.2.2.1.1 k : Int) := hP.2
  have hp7 := hO.2.2.2.1
  have hτ := hO.2.2.2.2
  have wx : decide ((Int64.ofNat 0).toInt ≤ x.toInt64.toInt ∧ x.toInt64.toInt ≤ (wn w 80 6).toInt64.toInt) = inV x 0 (S.2.2.2.1.2 : Int) := by
    rw [inV_l' (by omega), hP.1, kN_toInt (by omega)]
    rfl
  unfold clT at kk
  refine WP.enter kX7_club (Nat.le_of_ble_eq_true rfl) (fun J hJ => ?_)
  have b3B : inV x 0 (S.2.2.2.1.2 : Int) = true → ∀ f, clubS S.2.2.2.1.1 (tN x) = .inl f → ∀ h0 w0, WW ad w0 h0 → (∀ a, a ≠ 80 → a ≠ 82 → same w w0 a) → wn w0 80 4 = kI 0 → wn w0 80 6 = kI 0 → ¬ wn w0 80 12 = 0 → wn w0 80 12 = kI (f.1 : Int) → wn w0 80 13 = kI (f.2 : Int) → J 3 [some (.ref (ad 80)), some (.int x)] [] h0 (0, 0) := fun hx f hf h0 w0 W0 hk n4 n6 hb0 g1 g2 => ?_
  · have b3 : inV x 0 (S.2.2.2.1.2 : Int) = true → ∀ V, clubS S.2.2.2.1.1 (tN x) = .inr V → ∀ h0 w0, WW ad w0 h0 → (∀ a, a ≠ 80 → a ≠ 82 → same w w0 a) → wn w0 80 4 = kI 0 → wn w0 80 6 = kI 0 → wn w0 80 12 = 0 → DrM w0 V → J 3 [some (.ref (ad 80)), some (.int x)] [] h0 (0, 0) := fun hx V hV h0 w0 W0 hk n4 n6 hb0 hD => ?_
    · have loop : inV x 0 (S.2.2.2.1.2 : Int) = true → tN x ≤ 700 → ∀ l, l ≤ 700 → ∀ t V f h0 w0, tkOK S.2.2.2.1.1 (tN x) t → DOK V → l ≤ t.1 → tN x + 1 ≤ f + t.1 → clubS S.2.2.2.1.1 (tN x) = allS S.2.2.2.1.1 (tN x) f t V → WW ad w0 h0 → (∀ a, a ≠ 80 → a ≠ 82 → same w w0 a) → wn w0 80 4 = kI 0 → wn w0 80 6 = kI 0 → wn w0 80 12 = 0 → RmC w0 S.2.2.2.1.1 (tN x) t → DrM w0 V → J 2 [some (.ref (ad 80)), some (.int x)] [] h0 (0, 0) := fun hx hn9 => up_ind (fun l hl ih t V f h0 w0 ht hOK hlt hf hcl W0 hk n4 n6 hb0 hd hD => ?_)
      · have hn7 : _ = true → tN x ≤ 700 := fun q => Nat.le_trans (in_n (wx.symm.trans q) hp7) hp7
        have hrd : decide ((Int64.ofNat 0).toInt ≤ x.toInt64.toInt ∧ x.toInt64.toInt ≤ (wn w 80 6).toInt64.toInt) = true → ∀ w6, (∀ a, a ≠ 82 → same (sn (sn (sn (sn (sn w 80 4 (kI 0)) 80 7 x) 80 6 (kI 0)) 80 8 (kI 0)) 80 12 (kI 0)) w6 a) → RmA w6 S.2.2.2.1.1 (tN x) 0 := fun q w6 s6 => by
          have hx := wx.symm.trans q
          refine ⟨?_, ?_, fun k hk => ?_⟩
          · rw [(s6 80 (by omega)).1]; simp [wn_sn]; exact (in_m hx).1
          · rw [(s6 80 (by omega)).1]; simp [wn_sn]
          · rw [(s6 85 (by omega)).2.2.1]
            exact hP2 k (Nat.lt_of_lt_of_le hk (in_n hx hp7))
        refine hJ 0 _ _ rfl _ _ _ _ (x_aload rfl (x_sipush (w_puti W 7 4 (by decide) shp_80 rfl rfl (okI rfl) (fun h1 W1 => x_iload rfl (x_i2l (x_ldc2 (x_aload rfl (w_geti W1 7 6 (by decide) shp_80 rfl rfl (x_i2l (x_cs rfl (Nat.le_of_ble_eq_true rfl) (c7_within (xk_go (x_br (fun q1 => have q1 := bI_ne0.mp q1; hJ 1 _ _ rfl _ _ _ _ (x_aload rfl (x_iload rfl (w_puti W1 7 7 (by decide) shp_80 rfl rfl (okI rfl) (fun h2 W2 => x_aload rfl (x_sipush (w_puti W2 7 6 (by decide) shp_80 rfl rfl (okI rfl) (fun h3 W3 => x_aload rfl (x_sipush (w_puti W3 7 8 (by decide) shp_80 rfl rfl (okI rfl) (fun h4 W4 => x_aload rfl (x_sipush (w_puti W4 7 12 (by decide) shp_80 rfl rfl (okI rfl) (fun h5 W5 => x_aload rfl (w_getr W5 7 1 (t := 82) (by decide) shp_80 rfl rfl rfl (x_cs rfl (Nat.le_of_ble_eq_true rfl) (m_begins W5 (fun h6 w6 W6 s6 d6 => xk_v (x_aload rfl (x_cv rfl (Nat.le_of_ble_eq_true rfl) (isO_W W6 (by decide) shp_80) (m_reads (τ := S.2.2.2.1.1) (n := tN x) (p := 0) W6 (hrd q1 _ s6) (Nat.zero_le _) (hn7 q1) hτ (fun h7 w7 W7 e7 r7 => xk_v (x_goto (?_)))))))))))))))))))))))) (fun q1 => have q1 := bI_nn q1; x_aload rfl (x_sipush (x_cv rfl (Nat.le_of_ble_eq_true rfl) (isO_W W1 (by decide) shp_80) (c7_fails W1 (fun h8 W8 => xk_go (x_iret (nrwI _) ?_)))))))))))))))))))
        · have hx := wx.symm.trans q1
          have s80 := s6 80 (by omega)
          have t0 := tk_ok (τ := S.2.2.2.1.1) (n := tN x) (p := 0) (Nat.zero_le _)
          refine loop hx (hn7 q1) 0 (Nat.zero_le _) (tk S.2.2.2.1.1 (tN x) 0) V0 (tN x + 1) h7 w7 t0.1 DOK_V0 (Nat.zero_le _) (by omega) rfl W7 (fun a h1 h2 => ?_) ?_ ?_ ?_ r7 (d6.kb e7)
          · exact same.trans (((((same_sn h1).trans (same_sn h1)).trans (same_sn h1)).trans (same_sn h1)).trans (same_sn h1)) ((s6 a h2).trans (e7.1 a h1))
          · rw [e7.2 4 (by decide), s80.1]; simp [wn_sn]
          · rw [e7.2 6 (by decide), s80.1]; simp [wn_sn]
          · rw [e7.2 12 (by decide), s80.1]; simp [wn_sn]; rfl
        · exact kk.no (t := 0) (if_neg (by rw [show inV x 0 (S.2.2.2.1.2 : Int) = false from wx.symm.trans q1]; decide)) W8 (kml4.trans kml4) hS.th.th wn4
      obtain ⟨f', rfl⟩ : ∃ f', f = f' + 1 := ⟨f - 1, by have := ht.1; have := ht.2.1; omega⟩
      have hk0 : wn w0 80 10 = kI 0 ↔ t.2.2 = 4 := tok_eq (j := 4) hd.2.2.1 ht.2.2.1 (by omega)
      refine hJ 2 _ _ rfl _ _ _ _ (x_aload rfl (w_geti W0 7 12 (by decide) shp_80 rfl rfl (x_br (fun q1 => absurd hb0 (cy_ne q1)) (fun q1 => have q1 := cn_ne q1; x_aload rfl (w_geti W0 7 10 (by decide) shp_80 rfl rfl (x_br (fun q2 => have q2 := cy_eq q2; ?_) (fun q2 => have q2 := cn_eq q2; x_aload rfl (x_cv rfl (Nat.le_of_ble_eq_true rfl) (isO_W W0 (by decide) shp_80) (m_readLine W0 hd ht hn9 hτ hb0 hD hOK (fun f9 hf9 h1 w1 W1 e1 c2 g1 g2 => xk_v (x_goto (?_))) (fun t9 V9 t8 hv9 hs9 h1 w1 W1 e1 r9 d9 => xk_v (x_goto (?_))))))))))))
      · have q2 := hk0.mp q2
        exact b3 hx V (by
          rw [hcl]
          unfold allS
          rw [if_pos q2]) _ _ W0 hk n4 n6 hb0 hD
      · have q2 : ¬ t.2.2 = 4 := fun z => q2 (hk0.mpr z)
        refine hJ 2 _ _ rfl _ _ _ _ (x_aload rfl (w_geti W1 7 12 (by decide) shp_80 rfl rfl (x_br (fun q1 => have q1 := cy_ne q1; ?_) (fun q1 => absurd (cn_ne q1) c2))))
        exact b3B hx f9 (by
          rw [hcl]
          unfold allS
          rw [if_neg q2, hf9]) _ _ W1 (fun a h1 h2 => (hk a h1 h2).trans (e1.1 a h1 h2)) ((e1.2 4 (by decide)).trans n4) ((e1.2 6 (by decide)).trans n6) c2 g1 g2
      · have q2 : ¬ t.2.2 = 4 := fun z => q2 (hk0.mpr z)
        have k1 := bodS_ok ht hOK hv9
        have k2 := semS_ok k1.1 hs9
        have hlt9 := ht.2.2.2.2.1 q2
        have hlen := ht.2.1
        refine ih (by omega) t8 (upd V9 0 (V9 0 + kI 1)) f' h1 w1 k2.1 k1.2.2.1.lines (by omega) (by omega) ?_ W1 (fun a h1 h2 => (hk a h1 h2).trans (e1.1 a h1 h2)) ((e1.2 4 (by decide)).trans n4) ((e1.2 6 (by decide)).trans n6) ((e1.2 12 (by decide)).trans hb0) r9 d9
        rw [hcl]
        show (if t.2.2 = 4 then _ else _) = _
        rw [if_neg q2, lin_ok hv9 hs9]
    refine hJ 3 _ _ rfl _ _ _ _ (x_aload rfl (x_aload rfl (w_geti W0 7 12 (by decide) shp_80 rfl rfl (w_puti W0 7 14 (by decide) shp_80 rfl rfl (okI rfl) (fun h1 W1 => x_aload rfl (x_aload rfl (w_geti W1 7 12 (by decide) shp_80 rfl rfl (x_br (fun q1 => absurd hb0 (cy_ne q1)) (fun q1 => have q1 := cn_ne q1; x_sipush (x_goto (hJ 5 _ _ rfl _ _ _ _ (w_puti W1 7 15 (by decide) shp_80 rfl rfl (okI rfl) (fun h2 W2 => x_aload rfl (w_geti W2 7 12 (by decide) shp_80 rfl rfl (x_br (fun q2 => have q2 := cy_eq q2; hJ 6 _ _ rfl _ _ _ _ (x_aload rfl (w_getr W2 7 1 (t := 82) (by decide) shp_80 rfl rfl rfl (x_aload rfl (w_getr W2 7 0 (t := 81) (by decide) shp_80 rfl rfl rfl (x_cs rfl (Nat.le_of_ble_eq_true rfl) (m_copies W2 (fun h3 w3 W3 s3 z3 => xk_v (x_aload rfl (w_getr W3 7 0 (t := 81) (by decide) shp_80 rfl rfl rfl (x_sipush (w_iald W3 0 (by decide) shp_81 rfl (by decide) (by decide) (x_iret (nrwI _) ?_))))))))))))) (fun q2 => absurd hb0 (cn_eq q2)))))))))))))))))
    have hs : ∀ a, a ≠ 80 → a ≠ 82 → a ≠ 81 → same w w3 a := fun a h1 h2 h3 => (hk a h1 h2).trans (same.trans ((same_sn h1).trans (same_sn h1)) (s3 a h3))
    have h80 := s3 80 (by omega)
    have e0 : wa w3 81 0 = V 0 := by
      rw [z3 0, if_pos (by omega)]
      exact hD 0 (by omega)
    have hK' : wa w3 81 = fun k => if k < 114 then V k else S.1 k := funext fun k => by
      rw [z3 k]
      by_cases e : k < 114
      · rw [if_pos e, if_pos e]
        exact hD k e
      · rw [if_neg e, if_neg e, ← hK]
        exact congrFun (hk 81 (by omega) (by omega)).2.2.1 k
    unfold clRes clSt at kk
    rw [hV] at kk
    rw [e0]
    refine kk.yes (if_pos hx) W3 (fun a ha => hs a (by omega) (by omega) (by omega)) (hS.fed hs hK' ?_ ⟨?_, ?_⟩) ?_ rfl
    · rw [h80.1]; simp [wn_sn, n6]
    · rw [h80.1]; simp [wn_sn, hb0]; rfl
    · rw [h80.1]; simp [wn_sn]
    · rw [h80.1]; simp [wn_sn, n4]
  refine hJ 3 _ _ rfl _ _ _ _ (x_aload rfl (x_aload rfl (w_geti W0 7 12 (by decide) shp_80 rfl rfl (w_puti W0 7 14 (by decide) shp_80 rfl rfl (okI rfl) (fun h1 W1 => x_aload rfl (x_aload rfl (w_geti W1 7 12 (by decide) shp_80 rfl rfl (x_br (fun q1 => have q1 := cy_ne q1; hJ 4 _ _ rfl _ _ _ _ (x_aload rfl (w_geti W1 7 13 (by decide) shp_80 rfl rfl (x_goto (hJ 5 _ _ rfl _ _ _ _ (w_puti W1 7 15 (by decide) shp_80 rfl rfl (okI rfl) (fun h2 W2 => x_aload rfl (w_geti W2 7 12 (by decide) shp_80 rfl rfl (x_br (fun q2 => absurd (cy_eq q2) hb0) (fun q2 => have q2 := cn_eq q2; x_sipush (x_aload rfl (w_geti W2 7 12 (by decide) shp_80 rfl rfl (x_isub (x_iret (nrwI _) ?_)))))))))))))) (fun q1 => absurd (cn_ne q1) hb0)))))))))
  have hs : ∀ a, a ≠ 80 → a ≠ 82 → a ≠ 81 → same w (sn (sn w0 80 14 (wn w0 80 12)) 80 15 (wn (sn w0 80 14 (wn w0 80 12)) 80 13)) a := fun a h1 h2 h3 => (hk a h1 h2).trans ((same_sn h1).trans (same_sn h1))
  have e0 : wn (sn (sn w0 80 14 (wn w0 80 12)) 80 15 (wn (sn w0 80 14 (wn w0 80 12)) 80 13)) 80 12 = kI (f.1 : Int) := g1
  rw [e0]
  unfold clRes clSt at kk
  rw [hf] at kk
  refine kk.yes (if_pos hx) W2 (fun a ha => hs a (by omega) (by omega) (by omega)) (hS.fed hs ?_ ?_ ⟨?_, ?_⟩) ?_ rfl
  · exact ((hk 81 (by omega) (by omega)).2.2.1).trans hK
  · exact n6
  · exact g1
  · exact g2
  · exact n4
end W1
