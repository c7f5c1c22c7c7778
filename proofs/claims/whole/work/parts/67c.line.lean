/-! ===== the reader: a line ===== -/
theorem isW_k {τ : Nat → Nat} {t : TK} {x : Nat} (h : isW τ t x = true) : t.2.2 = 1 := by
  unfold isW at h
  rw [Bool.and_eq_true] at h
  exact (of_decide_eq_true h.1).1
theorem mnS_ok {τ : Nat → Nat} {n r : Nat} {t t' : TK} {v : Nat} (h : tkOK τ n t) (hr : r < 11) (e : mnS τ n r t = .inr (t', v)) : tkOK τ n t' ∧ t.1 ≤ t'.1 ∧ rulN r v = true ∧ v ≤ 12 := by
  unfold mnS at e
  split at e
  · have g := numS_ok h e
    have g1 := h.1
    refine ⟨g.1, by omega, decide_eq_true ⟨g.2.2.1, g.2.2.2.1⟩, ?_⟩
    have := (most_N r hr).2
    omega
  · rename_i hn
    cases e
    refine ⟨h, Nat.le_refl _, ?_, by omega⟩
    have : ∀ r, r < 11 → ¬ (4 ≤ r ∧ r ≤ 9) → rulN r 0 = true := by decide
    exact this r hr hn
theorem mcS_ok {τ : Nat → Nat} {n : Nat} {t t' : TK} {v : Nat} (h : tkOK τ n t) (e : mcS τ n t = .inr (t', v)) : tkOK τ n t' ∧ t.1 ≤ t'.1 ∧ v ≤ 999 := by
  unfold mcS at e
  split at e
  · have h2 := tk_ok (τ := τ) h.2.1
    have g := numS_ok h2.1 e
    have g1 := h.1
    have g2 := h2.1.1
    exact ⟨g.1, by omega, g.2.2.2.1⟩
  · cases e
    exact ⟨h, Nat.le_refl _, by omega⟩
theorem muS_ok {τ : Nat → Nat} {n : Nat} {t : TK} (h : tkOK τ n t) : tkOK τ n (muS τ n t) ∧ t.1 ≤ (muS τ n t).1 := by
  unfold muS
  split
  · have h2 := tk_ok (τ := τ) h.2.1
    have g1 := h.1
    exact ⟨h2.1, by omega⟩
  · exact ⟨h, Nat.le_refl _⟩
theorem DOK.join {V : VT} {r v c : Nat} {u : Bool} (h : DOK V) (hn : nm V < 12) (hr : r < 11) (hb : rulN r v = true) (hv : v ≤ 12) (hc : c ≤ 999) : DOK (joinV V (kI (r : Int)) (kI (v : Int)) (kI (c : Int)) (bI u)) := by
  obtain ⟨⟨h4, hn12⟩, h5, h1, h2, h3, hm⟩ := h
  have jn := jn_nm (V := V) (r := kI (r : Int)) (v := kI (v : Int)) (c := kI (c : Int)) (u := bI u) hn12
  have g69 := rul_no69 r hr v (by omega) hb
  refine ⟨⟨by rw [jn]; exact jn_4, by omega⟩, by rw [jn_low (by omega)]; exact h5, by rw [jn_low (by omega)]; exact h1, by rw [jn_low (by omega)]; exact h2, by rw [jn_low (by omega)]; exact h3, fun m hm9 => ?_⟩
  rw [jn] at hm9
  rw [jn_R, jn_N, jn_C, jn_U]
  by_cases e : m = nm V
  · rw [if_pos e, if_pos e, if_pos e, if_pos e]
    have e1 : (kI (r : Int)).toInt = r := kN_toInt (by omega)
    have e2 : (kI (v : Int)).toInt = v := kN_toInt (by omega)
    have e3 : (kI (c : Int)).toInt = c := kN_toInt (by omega)
    refine ⟨by unfold btw; omega, by unfold btw; omega, by unfold btw; omega, by cases u <;> decide, fun z => ?_, fun z => ?_⟩
    · have z := congrArg Int32.toInt z
      rw [e1, show (6 : Int32).toInt = 6 from rfl] at z
      have := g69.1 (by omega)
      omega
    · have z := congrArg Int32.toInt z
      rw [e1, show (9 : Int32).toInt = 9 from rfl] at z
      have := g69.2 (by omega)
      omega
  · rw [if_neg e, if_neg e, if_neg e, if_neg e]
    exact hm m (by omega)
theorem memS_ok {τ : Nat → Nat} {n : Nat} {t t' : TK} {V V' : VT} (h : tkOK τ n t) (hV : DOK V) (e : memS τ n t V = .inr (t', V')) : tkOK τ n t' ∧ t.2.1 ≤ t'.1 ∧ DOK V' ∧ V' 0 = V 0 := by
  have h1 := tk_ok (τ := τ) h.2.1
  have h2 := tk_ok (τ := τ) h1.1.2.1
  have hrl := rul_le τ (tk τ n t.2.1)
  unfold memS at e
  split at e
  · cases e
  rename_i hn
  split at e
  · cases e
  rename_i hr
  split at e
  · cases e
  · rename_i t3 v hv
    split at e
    · cases e
    · rename_i t4 c hc
      cases e
      have g3 := mnS_ok h2.1 (by omega) hv
      have g4 := mcS_ok g3.1 hc
      have g5 := muS_ok g4.1
      have hn12 := hV.1.2
      have k1 := h1.1.1
      refine ⟨g5.1, by omega, hV.join (by omega) (by omega) g3.2.2.1 g3.2.2.2 g4.2.2, jn_low (by omega)⟩
theorem setS_ok {τ : Nat → Nat} {n lo hi f : Nat} {t t' : TK} {V V' : VT} (h : tkOK τ n t) (hV : DOK V) (hf : (f = 1 ∧ lo = 1 ∧ hi = 12) ∨ (f = 2 ∧ hi = 999) ∨ (f = 3 ∧ hi = 100)) (e : setS τ n lo hi f t V = .inr (t', V')) : tkOK τ n t' ∧ t.2.1 ≤ t'.1 ∧ DOK V' ∧ V' 0 = V 0 := by
  have h1 := tk_ok (τ := τ) h.2.1
  unfold setS at e
  split at e
  · cases e
  · rename_i t9 v hv
    cases e
    have g := numS_ok h1.1 hv
    have k1 := h1.1.1
    obtain ⟨⟨h4, hn12⟩, h5, b1', b2, b3, hm⟩ := hV
    have ev : (kI (v : Int)).toInt = v := kN_toInt (by omega)
    have en : nm (upd V f (kI (v : Int))) = nm V := nm_eq (upd_ne (by omega))
    have hlow : ∀ k, k ≠ f → upd V f (kI (v : Int)) k = V k := fun k hk => upd_ne hk
    refine ⟨g.1, by omega, ⟨⟨by rw [en, hlow 4 (by omega)]; exact h4, by omega⟩, by rw [hlow 5 (by omega)]; exact h5, ?_, ?_, ?_, fun m hm9 => ?_⟩, hlow 0 (by omega)⟩
    · by_cases e1 : f = 1
      · subst e1
        rw [upd_self]
        unfold btw
        omega
      · rw [hlow 1 (by omega)]; exact b1'
    · by_cases e1 : f = 2
      · subst e1
        rw [upd_self]
        unfold btw
        omega
      · rw [hlow 2 (by omega)]; exact b2
    · by_cases e1 : f = 3
      · subst e1
        rw [upd_self]
        unfold btw
        omega
      · rw [hlow 3 (by omega)]; exact b3
    · rw [en] at hm9
      have q1 : vR (upd V f (kI (v : Int))) m = vR V m := hlow _ (by omega)
      have q2 : vN (upd V f (kI (v : Int))) m = vN V m := hlow _ (by omega)
      have q3 : vC (upd V f (kI (v : Int))) m = vC V m := hlow _ (by omega)
      have q4 : vU (upd V f (kI (v : Int))) m = vU V m := hlow _ (by omega)
      rw [q1, q2, q3, q4]
      exact hm m hm9
theorem bodS_ok {τ : Nat → Nat} {n : Nat} {t t' : TK} {V V' : VT} (h : tkOK τ n t) (hV : DOK V) (e : bodS τ n t V = .inr (t', V')) : tkOK τ n t' ∧ t.1 < t'.1 ∧ DOK V' ∧ V' 0 = V 0 := by
  have hk : ∀ x, isW τ t x = true → t.1 < t.2.1 := fun x hx => h.2.2.2.2.1 (by rw [isW_k hx]; decide)
  unfold bodS at e
  split at e
  · rename_i hx
    have g := memS_ok h hV e
    have := hk _ hx
    exact ⟨g.1, by omega, g.2.2⟩
  split at e
  · rename_i hx
    have g := setS_ok h hV (Or.inl ⟨rfl, rfl, rfl⟩) e
    have := hk _ hx
    exact ⟨g.1, by omega, g.2.2⟩
  split at e
  · rename_i hx
    have g := setS_ok h hV (Or.inr (Or.inl ⟨rfl, rfl⟩)) e
    have := hk _ hx
    exact ⟨g.1, by omega, g.2.2⟩
  split at e
  · rename_i hx
    have g := setS_ok h hV (Or.inr (Or.inr ⟨rfl, rfl⟩)) e
    have := hk _ hx
    exact ⟨g.1, by omega, g.2.2⟩
  · cases e
theorem semS_ok {τ : Nat → Nat} {n : Nat} {t t' : TK} (h : tkOK τ n t) (e : semS τ n t = .inr t') : tkOK τ n t' ∧ t.1 ≤ t'.1 := by
  unfold semS at e
  split at e
  · cases e
    have h1 := tk_ok (τ := τ) h.2.1
    have := h.1
    exact ⟨h1.1, by omega⟩
  · cases e
theorem DrC.set {w : Wst} {i f : Nat} {V : VT} {x : Int32} (h : DrC w i V) (hf : f < 4) : DrC (sn w i f x) i (upd V f x) := by
  obtain ⟨⟨a0, a1, a2, a3, a4, a6⟩, hm, hu⟩ := h
  have en : nm (upd V f x) = nm V := nm_eq (upd_ne (by omega))
  have hlow : ∀ k, k ≠ f → upd V f x k = V k := fun k hk => upd_ne hk
  have hf0 : ∀ j, j ≠ f → wn (sn w i f x) i j = wn w i j := fun j hj => by rw [wn_sn, if_neg (fun z => hj z.2)]
  have hb9 : ∀ j, wn w i j = V j → wn (sn w i f x) i j = upd V f x j := fun j hj => by
    by_cases e : j = f
    · rw [e, upd_self, wn_sn, if_pos ⟨rfl, rfl⟩]
    · rw [hf0 j e, hlow j e, hj]
  refine ⟨⟨hb9 0 a0, hb9 1 a1, hb9 2 a2, hb9 3 a3, hb9 4 a4, ?_⟩, fun m hm9 => ?_, fun m => ?_⟩
  · rw [hf0 6 (by omega), hlow 5 (by omega)]; exact a6
  · rw [en] at hm9
    have q1 : vR (upd V f x) m = vR V m := hlow _ (by omega)
    have q2 : vN (upd V f x) m = vN V m := hlow _ (by omega)
    have q3 : vC (upd V f x) m = vC V m := hlow _ (by omega)
    rw [q1, q2, q3]
    exact hm m hm9
  · have q4 : vU (upd V f x) m = vU V m := hlow _ (by omega)
    rw [hf0 5 (by omega), en, q4]
    exact hu m
section W1
variable {τ : Nat → Nat} {n : Nat} {t : TK}
variable {ga : Nat → Nat} {L : Nat} {xs : Nat → Int32} {d : Nat} {h : ac_H} {P : ac_P} {ad : Nat → Nat} {w : Wst} {i : Nat} {V : VT}
theorem lin_f {τ : Nat → Nat} {n : Nat} {t : TK} {V : VT} {f : Ft} (h : bodS τ n t V = .inl f) : linS τ n t V = .inl f := by
  unfold linS
  rw [h]
theorem lin_g {τ : Nat → Nat} {n : Nat} {t t1 : TK} {V V' : VT} {f : Ft} (h : bodS τ n t V = .inr (t1, V')) (g : semS τ n t1 = .inl f) : linS τ n t V = .inl f := by
  unfold linS
  rw [h]
  show (match semS τ n t1 with | .inl f => _ | .inr t'' => _) = _
  rw [g]
theorem c_readLine {i : Nat} {V : VT} (W : WW ad w h) (hd : RdC w τ n t) (ht : tkOK τ n t) (hn7 : n ≤ 700) (hτ : ∀ k, τ k < 256) (hi : i = 10 ∨ i = 15) (hdr : wr w 42 8 = i) (hD : DrC w i V) (hO : DOK V) (kf : ∀ f, linS τ n t V = .inl f → ∀ h' w', WW ad w' h' → kD i lflt w w' → wn w' 42 2 = kI (f.1 : Int) → wn w' 42 3 = kI (f.2 : Int) → P (.inl (some (.int (bI false)))) h') (kk : ∀ t1 V' t', bodS τ n t V = .inr (t1, V') → semS τ n t1 = .inr t' → ∀ h' w', WW ad w' h' → kD i l567 w w' → RdC w' τ n t' → DrC w' i V' → P (.inl (some (.int (bI true)))) h') : WP ga L xs (d + 5) 44 [.ref (ad 42)] h P := by
  have hC : isC i := hi.elim (fun e => Or.inl e) (fun e => Or.inr (Or.inl e))
  have ht1 := (tk_ok (τ := τ) ht.2.1).1
  refine WP.enter kX2_readLine (Nat.le_of_ble_eq_true rfl) (fun J hJ => ?_)
  have c12 : isW τ t 0 = false → isW τ t 14 = false → isW τ t 15 = false → isW τ t 16 = false → J 12 [some (.ref (ad 42))] [] h (0, 0) := fun n0 n1 n2 n3 => ?_
  · have c9 : isW τ t 0 = false → isW τ t 14 = false → isW τ t 15 = false → J 9 [some (.ref (ad 42))] [] h (0, 0) := fun n0 n1 n2 => ?_
    · have c6 : isW τ t 0 = false → isW τ t 14 = false → J 6 [some (.ref (ad 42))] [] h (0, 0) := fun n0 n1 => ?_
      · have c3 : isW τ t 0 = false → J 3 [some (.ref (ad 42))] [] h (0, 0) := fun n0 => ?_
        · refine hJ 0 _ _ rfl _ _ _ _ (x_aload rfl (x_ldc (x_cv rfl (Nat.le_of_ble_eq_true rfl) (isO_W W (by decide) shp_42) (c_isWord (x := 0) W hd ht hn7 hτ (by omega) (xk_go (x_br (fun q1 => have q1 := bI_eq0.mp q1; ?_) (fun q1 => have q1 := bI_ne0.mp q1; x_aload rfl (x_cv rfl (Nat.le_of_ble_eq_true rfl) (isO_W W (by decide) shp_42) (c_readMember W hd ht hn7 hτ hi hdr hD hO.1 (fun f9 hf9 h5 w5 W5 e5 g1 g2 => ?_) (fun t9 V9 hv9 h1 w1 W1 e9 r9 d9 => xk_go (x_br (fun q2 => have q2 := bI_eq0.mp q2; hJ 1 _ _ rfl _ _ _ _ (x_sipush (x_goto (hJ 2 _ _ rfl _ _ _ _ (x_iret (by first | exact nrwB _ | rfl | decide) ?_))))) (fun q2 => have q2 := bI_ne0.mp q2; x_aload rfl (x_cv rfl (Nat.le_of_ble_eq_true rfl) (isO_W W1 (by decide) shp_42) (c_takeSemi W1 r9 (memS_ok ht hO hv9).1 hn7 hτ (fun f8 hf8 h2 w2 W2 e8 g3 g4 => xk_go (x_br (fun q3 => have q3 := bI_eq0.mp q3; hJ 1 _ _ rfl _ _ _ _ (x_sipush (x_goto (hJ 2 _ _ rfl _ _ _ _ (x_iret (by first | exact nrwB _ | rfl | decide) ?_))))) (fun q3 => have q3 := bI_ne0.mp q3; x_sipush (x_goto (hJ 2 _ _ rfl _ _ _ _ (x_iret (by first | exact nrwB _ | rfl | decide) ?_)))))) (fun t8 ht8 h2 w2 W2 e8 r8 => xk_go (x_br (fun q3 => have q3 := bI_eq0.mp q3; hJ 1 _ _ rfl _ _ _ _ (x_sipush (x_goto (hJ 2 _ _ rfl _ _ _ _ (x_iret (by first | exact nrwB _ | rfl | decide) ?_))))) (fun q3 => have q3 := bI_ne0.mp q3; x_sipush (x_goto (hJ 2 _ _ rfl _ _ _ _ (x_iret (by first | exact nrwB _ | rfl | decide) ?_))))))))))))))))))))
          · have hb : isW τ t 0 = false := q1
            exact c3 hb
          · refine xk_go (x_br (fun z1 => have z1 := bI_eq0.mp z1; hJ 1 _ _ rfl _ _ _ _ (x_sipush (x_goto (hJ 2 _ _ rfl _ _ _ _ (x_iret (by first | exact nrwB _ | rfl | decide) ?_))))) (fun z1 => absurd (show bI false = 0 by decide) z1))
            exact kf f9 (lin_f (by unfold bodS; rw [if_pos q1]; exact hf9)) h5 w5 W5 e5 g1 g2
          · exact absurd q2 (by decide)
          · have hbd : bodS τ n t V = .inr (t9, V9) := by unfold bodS; rw [if_pos q1]; exact hv9
            exact kf f8 (lin_g hbd hf8) h2 w2 W2 ((e9.mono l567f).trans e8.d) g3 g4
          · exact absurd q3 (by decide)
          · exact absurd q3 (by decide)
          · have hbd : bodS τ n t V = .inr (t9, V9) := by unfold bodS; rw [if_pos q1]; exact hv9
            exact kk t9 V9 t8 hbd ht8 h2 w2 W2 (e9.trans e8.d) r8 (d9.kr hi e8)
        refine hJ 3 _ _ rfl _ _ _ _ (x_aload rfl (x_ldc (x_cv rfl (Nat.le_of_ble_eq_true rfl) (isO_W W (by decide) shp_42) (c_isWord (x := 14) W hd ht hn7 hτ (by omega) (xk_go (x_br (fun q1 => have q1 := bI_eq0.mp q1; ?_) (fun q1 => have q1 := bI_ne0.mp q1; x_aload rfl (x_cv rfl (Nat.le_of_ble_eq_true rfl) (isO_W W (by decide) shp_42) (c_advance W hd ht.2.1 hn7 hτ (fun h1 w1 W1 e1 r1 => xk_v (x_aload rfl (w_getr W1 2 8 (t := i) (by decide) shp_42 rfl rfl ((congrFun e1.2.1 8).trans hdr) (x_aload rfl (x_sipush (x_sipush (x_cv rfl (Nat.le_of_ble_eq_true rfl) (isO_W W1 (by decide) shp_42) (c_takeNum (lo := 1) (hi := 12) W1 r1 ht1 hn7 hτ rfl rfl (by omega) (fun f9 hf9 h5 w5 W5 e5 g1 g2 => ?_) (fun t9 v9 hv9 h2 w2 W2 e2 r2 => xk_go (w_puti W2 0 1 hC.lt hC.sh rfl rfl (okI rfl) (fun h3 W3 => x_aload rfl (w_getr W3 2 8 (t := i) (by decide) shp_42 rfl rfl ((congrFun e2.2.1 8).trans ((congrFun e1.2.1 8).trans hdr)) (w_geti W3 0 1 hC.lt hC.sh rfl rfl (x_sipush (x_br2 (fun q2 => have q2 := cy_eq q2; hJ 4 _ _ rfl _ _ _ _ (x_sipush (x_goto (hJ 5 _ _ rfl _ _ _ _ (x_iret (by first | exact nrwB _ | rfl | decide) ?_))))) (fun q2 => have q2 := cn_eq q2; x_aload rfl (x_cv rfl (Nat.le_of_ble_eq_true rfl) (isO_W W3 (by decide) shp_42) (c_takeSemi W3 (r2.keep hi (fun a ha => same_sn (by omega))) (numS_ok ht1 hv9).1 hn7 hτ (fun f8 hf8 h4 w4 W4 e8 g3 g4 => xk_go (x_br (fun q3 => have q3 := bI_eq0.mp q3; hJ 4 _ _ rfl _ _ _ _ (x_sipush (x_goto (hJ 5 _ _ rfl _ _ _ _ (x_iret (by first | exact nrwB _ | rfl | decide) ?_))))) (fun q3 => have q3 := bI_ne0.mp q3; x_sipush (x_goto (hJ 5 _ _ rfl _ _ _ _ (x_iret (by first | exact nrwB _ | rfl | decide) ?_)))))) (fun t8 ht8 h4 w4 W4 e8 r8 => xk_go (x_br (fun q3 => have q3 := bI_eq0.mp q3; hJ 4 _ _ rfl _ _ _ _ (x_sipush (x_goto (hJ 5 _ _ rfl _ _ _ _ (x_iret (by first | exact nrwB _ | rfl | decide) ?_))))) (fun q3 => have q3 := bI_ne0.mp q3; x_sipush (x_goto (hJ 5 _ _ rfl _ _ _ _ (x_iret (by first | exact nrwB _ | rfl | decide) ?_)))))))))))))))))))))))))))))))))
        · exact c6 n0 q1
        · refine xk_go (w_puti W5 0 1 hC.lt hC.sh rfl rfl (okI rfl) (fun h1' W1' => x_aload rfl (w_getr W1' 2 8 (t := i) (by decide) shp_42 rfl rfl ((congrFun e5.2.1 8).trans ((congrFun e1.2.1 8).trans hdr)) (w_geti W1' 0 1 hC.lt hC.sh rfl rfl (x_sipush (x_br2 (fun z1 => have z1 := cy_eq z1; hJ 4 _ _ rfl _ _ _ _ (x_sipush (x_goto (hJ 5 _ _ rfl _ _ _ _ (x_iret (by first | exact nrwB _ | rfl | decide) ?_))))) (fun z1 => absurd (show wn (sn w5 i 1 (kI (-1))) i 1 = kI (-1) from by rw [wn_sn, if_pos ⟨rfl, rfl⟩]) z1)))))))
          exact kf f9 (lin_f (by unfold bodS; rw [if_neg (by rw [n0]; decide)]; rw [if_pos q1]; unfold setS; rw [hf9])) h1' _ W1' (((e1.mono l567f).trans e5).d.trans (kD_of hi (fun a ha => same_sn (by omega)))) (by rw [wn_sn, if_neg (by omega)]; exact g1) (by rw [wn_sn, if_neg (by omega)]; exact g2)
        · exact absurd (by rw [wn_sn, if_pos ⟨rfl, rfl⟩] at q2; exact q2) (kIm1 (v := v9) (by have := (numS_ok ht1 hv9).2.2.2.1; omega))
        · have hbd : bodS τ n t V = .inr (t9, upd V 1 (kI (v9 : Int))) := by unfold bodS; rw [if_neg (by rw [n0]; decide)]; rw [if_pos q1]; unfold setS; rw [hv9]
          exact kf f8 (lin_g hbd hf8) h4 w4 W4 ((((e1.trans e2).mono l567f).d.trans (kD_of hi (fun a ha => same_sn (by omega)))).trans e8.d) g3 g4
        · exact absurd q3 (by decide)
        · exact absurd q3 (by decide)
        · have hbd : bodS τ n t V = .inr (t9, upd V 1 (kI (v9 : Int))) := by unfold bodS; rw [if_neg (by rw [n0]; decide)]; rw [if_pos q1]; unfold setS; rw [hv9]
          exact kk t9 _ t8 hbd ht8 h4 w4 W4 (((e1.trans e2).d.trans (kD_of hi (fun a ha => same_sn (by omega)))).trans e8.d) r8 ((((hD.kr hi (e1.trans e2))).set (by omega)).kr hi e8)
      refine hJ 6 _ _ rfl _ _ _ _ (x_aload rfl (x_ldc (x_cv rfl (Nat.le_of_ble_eq_true rfl) (isO_W W (by decide) shp_42) (c_isWord (x := 15) W hd ht hn7 hτ (by omega) (xk_go (x_br (fun q1 => have q1 := bI_eq0.mp q1; ?_) (fun q1 => have q1 := bI_ne0.mp q1; x_aload rfl (x_cv rfl (Nat.le_of_ble_eq_true rfl) (isO_W W (by decide) shp_42) (c_advance W hd ht.2.1 hn7 hτ (fun h1 w1 W1 e1 r1 => xk_v (x_aload rfl (w_getr W1 2 8 (t := i) (by decide) shp_42 rfl rfl ((congrFun e1.2.1 8).trans hdr) (x_aload rfl (x_sipush (x_sipush (x_cv rfl (Nat.le_of_ble_eq_true rfl) (isO_W W1 (by decide) shp_42) (c_takeNum (lo := 0) (hi := 999) W1 r1 ht1 hn7 hτ rfl rfl (by omega) (fun f9 hf9 h5 w5 W5 e5 g1 g2 => ?_) (fun t9 v9 hv9 h2 w2 W2 e2 r2 => xk_go (w_puti W2 0 2 hC.lt hC.sh rfl rfl (okI rfl) (fun h3 W3 => x_aload rfl (w_getr W3 2 8 (t := i) (by decide) shp_42 rfl rfl ((congrFun e2.2.1 8).trans ((congrFun e1.2.1 8).trans hdr)) (w_geti W3 0 2 hC.lt hC.sh rfl rfl (x_sipush (x_br2 (fun q2 => have q2 := cy_eq q2; hJ 7 _ _ rfl _ _ _ _ (x_sipush (x_goto (hJ 8 _ _ rfl _ _ _ _ (x_iret (by first | exact nrwB _ | rfl | decide) ?_))))) (fun q2 => have q2 := cn_eq q2; x_aload rfl (x_cv rfl (Nat.le_of_ble_eq_true rfl) (isO_W W3 (by decide) shp_42) (c_takeSemi W3 (r2.keep hi (fun a ha => same_sn (by omega))) (numS_ok ht1 hv9).1 hn7 hτ (fun f8 hf8 h4 w4 W4 e8 g3 g4 => xk_go (x_br (fun q3 => have q3 := bI_eq0.mp q3; hJ 7 _ _ rfl _ _ _ _ (x_sipush (x_goto (hJ 8 _ _ rfl _ _ _ _ (x_iret (by first | exact nrwB _ | rfl | decide) ?_))))) (fun q3 => have q3 := bI_ne0.mp q3; x_sipush (x_goto (hJ 8 _ _ rfl _ _ _ _ (x_iret (by first | exact nrwB _ | rfl | decide) ?_)))))) (fun t8 ht8 h4 w4 W4 e8 r8 => xk_go (x_br (fun q3 => have q3 := bI_eq0.mp q3; hJ 7 _ _ rfl _ _ _ _ (x_sipush (x_goto (hJ 8 _ _ rfl _ _ _ _ (x_iret (by first | exact nrwB _ | rfl | decide) ?_))))) (fun q3 => have q3 := bI_ne0.mp q3; x_sipush (x_goto (hJ 8 _ _ rfl _ _ _ _ (x_iret (by first | exact nrwB _ | rfl | decide) ?_)))))))))))))))))))))))))))))))))
      · exact c9 n0 n1 q1
      · refine xk_go (w_puti W5 0 2 hC.lt hC.sh rfl rfl (okI rfl) (fun h1' W1' => x_aload rfl (w_getr W1' 2 8 (t := i) (by decide) shp_42 rfl rfl ((congrFun e5.2.1 8).trans ((congrFun e1.2.1 8).trans hdr)) (w_geti W1' 0 2 hC.lt hC.sh rfl rfl (x_sipush (x_br2 (fun z1 => have z1 := cy_eq z1; hJ 7 _ _ rfl _ _ _ _ (x_sipush (x_goto (hJ 8 _ _ rfl _ _ _ _ (x_iret (by first | exact nrwB _ | rfl | decide) ?_))))) (fun z1 => absurd (show wn (sn w5 i 2 (kI (-1))) i 2 = kI (-1) from by rw [wn_sn, if_pos ⟨rfl, rfl⟩]) z1)))))))
        exact kf f9 (lin_f (by unfold bodS; rw [if_neg (by rw [n0]; decide)]; rw [if_neg (by rw [n1]; decide)]; rw [if_pos q1]; unfold setS; rw [hf9])) h1' _ W1' (((e1.mono l567f).trans e5).d.trans (kD_of hi (fun a ha => same_sn (by omega)))) (by rw [wn_sn, if_neg (by omega)]; exact g1) (by rw [wn_sn, if_neg (by omega)]; exact g2)
      · exact absurd (by rw [wn_sn, if_pos ⟨rfl, rfl⟩] at q2; exact q2) (kIm1 (v := v9) (by have := (numS_ok ht1 hv9).2.2.2.1; omega))
      · have hbd : bodS τ n t V = .inr (t9, upd V 2 (kI (v9 : Int))) := by unfold bodS; rw [if_neg (by rw [n0]; decide)]; rw [if_neg (by rw [n1]; decide)]; rw [if_pos q1]; unfold setS; rw [hv9]
        exact kf f8 (lin_g hbd hf8) h4 w4 W4 ((((e1.trans e2).mono l567f).d.trans (kD_of hi (fun a ha => same_sn (by omega)))).trans e8.d) g3 g4
      · exact absurd q3 (by decide)
      · exact absurd q3 (by decide)
      · have hbd : bodS τ n t V = .inr (t9, upd V 2 (kI (v9 : Int))) := by unfold bodS; rw [if_neg (by rw [n0]; decide)]; rw [if_neg (by rw [n1]; decide)]; rw [if_pos q1]; unfold setS; rw [hv9]
        exact kk t9 _ t8 hbd ht8 h4 w4 W4 (((e1.trans e2).d.trans (kD_of hi (fun a ha => same_sn (by omega)))).trans e8.d) r8 ((((hD.kr hi (e1.trans e2))).set (by omega)).kr hi e8)
    refine hJ 9 _ _ rfl _ _ _ _ (x_aload rfl (x_ldc (x_cv rfl (Nat.le_of_ble_eq_true rfl) (isO_W W (by decide) shp_42) (c_isWord (x := 16) W hd ht hn7 hτ (by omega) (xk_go (x_br (fun q1 => have q1 := bI_eq0.mp q1; ?_) (fun q1 => have q1 := bI_ne0.mp q1; x_aload rfl (x_cv rfl (Nat.le_of_ble_eq_true rfl) (isO_W W (by decide) shp_42) (c_advance W hd ht.2.1 hn7 hτ (fun h1 w1 W1 e1 r1 => xk_v (x_aload rfl (w_getr W1 2 8 (t := i) (by decide) shp_42 rfl rfl ((congrFun e1.2.1 8).trans hdr) (x_aload rfl (x_sipush (x_sipush (x_cv rfl (Nat.le_of_ble_eq_true rfl) (isO_W W1 (by decide) shp_42) (c_takeNum (lo := 0) (hi := 100) W1 r1 ht1 hn7 hτ rfl rfl (by omega) (fun f9 hf9 h5 w5 W5 e5 g1 g2 => ?_) (fun t9 v9 hv9 h2 w2 W2 e2 r2 => xk_go (w_puti W2 0 3 hC.lt hC.sh rfl rfl (okI rfl) (fun h3 W3 => x_aload rfl (w_getr W3 2 8 (t := i) (by decide) shp_42 rfl rfl ((congrFun e2.2.1 8).trans ((congrFun e1.2.1 8).trans hdr)) (w_geti W3 0 3 hC.lt hC.sh rfl rfl (x_sipush (x_br2 (fun q2 => have q2 := cy_eq q2; hJ 10 _ _ rfl _ _ _ _ (x_sipush (x_goto (hJ 11 _ _ rfl _ _ _ _ (x_iret (by first | exact nrwB _ | rfl | decide) ?_))))) (fun q2 => have q2 := cn_eq q2; x_aload rfl (x_cv rfl (Nat.le_of_ble_eq_true rfl) (isO_W W3 (by decide) shp_42) (c_takeSemi W3 (r2.keep hi (fun a ha => same_sn (by omega))) (numS_ok ht1 hv9).1 hn7 hτ (fun f8 hf8 h4 w4 W4 e8 g3 g4 => xk_go (x_br (fun q3 => have q3 := bI_eq0.mp q3; hJ 10 _ _ rfl _ _ _ _ (x_sipush (x_goto (hJ 11 _ _ rfl _ _ _ _ (x_iret (by first | exact nrwB _ | rfl | decide) ?_))))) (fun q3 => have q3 := bI_ne0.mp q3; x_sipush (x_goto (hJ 11 _ _ rfl _ _ _ _ (x_iret (by first | exact nrwB _ | rfl | decide) ?_)))))) (fun t8 ht8 h4 w4 W4 e8 r8 => xk_go (x_br (fun q3 => have q3 := bI_eq0.mp q3; hJ 10 _ _ rfl _ _ _ _ (x_sipush (x_goto (hJ 11 _ _ rfl _ _ _ _ (x_iret (by first | exact nrwB _ | rfl | decide) ?_))))) (fun q3 => have q3 := bI_ne0.mp q3; x_sipush (x_goto (hJ 11 _ _ rfl _ _ _ _ (x_iret (by first | exact nrwB _ | rfl | decide) ?_)))))))))))))))))))))))))))))))))
    · exact c12 n0 n1 n2 q1
    · refine xk_go (w_puti W5 0 3 hC.lt hC.sh rfl rfl (okI rfl) (fun h1' W1' => x_aload rfl (w_getr W1' 2 8 (t := i) (by decide) shp_42 rfl rfl ((congrFun e5.2.1 8).trans ((congrFun e1.2.1 8).trans hdr)) (w_geti W1' 0 3 hC.lt hC.sh rfl rfl (x_sipush (x_br2 (fun z1 => have z1 := cy_eq z1; hJ 10 _ _ rfl _ _ _ _ (x_sipush (x_goto (hJ 11 _ _ rfl _ _ _ _ (x_iret (by first | exact nrwB _ | rfl | decide) ?_))))) (fun z1 => absurd (show wn (sn w5 i 3 (kI (-1))) i 3 = kI (-1) from by rw [wn_sn, if_pos ⟨rfl, rfl⟩]) z1)))))))
      exact kf f9 (lin_f (by unfold bodS; rw [if_neg (by rw [n0]; decide)]; rw [if_neg (by rw [n1]; decide)]; rw [if_neg (by rw [n2]; decide)]; rw [if_pos q1]; unfold setS; rw [hf9])) h1' _ W1' (((e1.mono l567f).trans e5).d.trans (kD_of hi (fun a ha => same_sn (by omega)))) (by rw [wn_sn, if_neg (by omega)]; exact g1) (by rw [wn_sn, if_neg (by omega)]; exact g2)
    · exact absurd (by rw [wn_sn, if_pos ⟨rfl, rfl⟩] at q2; exact q2) (kIm1 (v := v9) (by have := (numS_ok ht1 hv9).2.2.2.1; omega))
    · have hbd : bodS τ n t V = .inr (t9, upd V 3 (kI (v9 : Int))) := by unfold bodS; rw [if_neg (by rw [n0]; decide)]; rw [if_neg (by rw [n1]; decide)]; rw [if_neg (by rw [n2]; decide)]; rw [if_pos q1]; unfold setS; rw [hv9]
      exact kf f8 (lin_g hbd hf8) h4 w4 W4 ((((e1.trans e2).mono l567f).d.trans (kD_of hi (fun a ha => same_sn (by omega)))).trans e8.d) g3 g4
    · exact absurd q3 (by decide)
    · exact absurd q3 (by decide)
    · have hbd : bodS τ n t V = .inr (t9, upd V 3 (kI (v9 : Int))) := by unfold bodS; rw [if_neg (by rw [n0]; decide)]; rw [if_neg (by rw [n1]; decide)]; rw [if_neg (by rw [n2]; decide)]; rw [if_pos q1]; unfold setS; rw [hv9]
      exact kk t9 _ t8 hbd ht8 h4 w4 W4 (((e1.trans e2).d.trans (kD_of hi (fun a ha => same_sn (by omega)))).trans e8.d) r8 ((((hD.kr hi (e1.trans e2))).set (by omega)).kr hi e8)
  refine hJ 12 _ _ rfl _ _ _ _ (x_aload rfl (x_cv rfl (Nat.le_of_ble_eq_true rfl) (isO_W W (by decide) shp_42) (c_misfit W hd ht hn7 hτ (fun h1 w1 W1 e1 f1 g1 => xk_go (x_iret (by first | exact nrwB _ | rfl | decide) ?_)))))
  exact kf _ (lin_f (by unfold bodS; rw [if_neg (by rw [n0]; decide), if_neg (by rw [n1]; decide), if_neg (by rw [n2]; decide), if_neg (by rw [n3]; decide)])) h1 w1 W1 e1.d f1 g1
end W1
