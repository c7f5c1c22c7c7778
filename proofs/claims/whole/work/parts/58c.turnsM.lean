/-! ===== turns: the model ===== -/
theorem kN_add (a b : Nat) : kI (a : Int) + kI (b : Int) = kI ((a + b : Nat) : Int) := by
  rw [kI_add]
  exact congrArg kI (by omega)
theorem ix14 (a : Nat) : kI 14 * kI (a : Int) = kI ((14 * a : Nat) : Int) := by
  rw [kI_mul]
  exact congrArg kI (by omega)
theorem ix14m {q : Nat} (h : 1 ≤ q) : kI 14 * kI ((q : Int) - 1) = kI ((14 * (q - 1) : Nat) : Int) := by
  rw [ixm1 h, ix14]
theorem ix14q (q : Nat) : kI 14 * (kI ((q : Int) - 1) + kI 1) = kI ((14 * q : Nat) : Int) := by
  rw [ixq, ix14]
theorem or_k0 (x : Int32) : x ||| kI 0 = x := by
  apply hb_ext
  intro j _
  rw [hb_or, hb_zero, Bool.or_false]
theorem pc_set {s : Int32} {m : Nat} (hm : m < 12) (h : hb s m = false) : pc (s ||| b1 m) = pc s + 1 := by
  have e : s ||| b1 m = s ^^^ b1 m := hb_ext (fun j _ => by
    rw [hb_set (by omega), hb_tog (by omega)]
    by_cases ej : j = m
    · subst ej
      rw [h]
      simp
    · simp [ej])
  rw [e, pc_ex hm h]
theorem turS_ok {V : VT} {o : Nat → Nat} (hn : nm V ≤ 12) (ho : ∀ p, p < nm V → o p < nm V) (hd : ∀ p, p < nm V → ∀ p', p' < p → ¬ o p' = o p) : ∀ p, p ≤ nm V → sok (nm V) (turS V o p).1 ∧ pc (turS V o p).1 = (turS V o p).2 ∧ ∀ m, hb (turS V o p).1 m = true → ∃ p', p' < p ∧ o p' = m
  | 0, _ => ⟨sok.zero hn, by
      show pc (kI 0) = 0
      decide, fun m h => by
      have h9 : hb (kI 0) m = true := h
      rw [hb_zero] at h9
      cases h9⟩
  | p + 1, hp => by
    obtain ⟨h1, h2, h3⟩ := turS_ok hn ho hd p (by omega)
    have hop := ho p (by omega)
    show sok (nm V) (turF V o p (turS V o p)).1 ∧ pc (turF V o p (turS V o p)).1 = (turF V o p (turS V o p)).2 ∧ ∀ m, hb (turF V o p (turS V o p)).1 m = true → ∃ p', p' < p + 1 ∧ o p' = m
    unfold turF
    split
    · have hf : hb (turS V o p).1 (o p) = false := by
        cases e : hb (turS V o p).1 (o p) with
        | false => rfl
        | true =>
          obtain ⟨p', g1, g2⟩ := h3 _ e
          exact absurd g2 (hd p (by omega) p' g1)
      refine ⟨h1.or (sok.b1 hn hop), ?_, fun m hm => ?_⟩
      · show pc ((turS V o p).1 ||| b1 (o p)) = (turS V o p).2 + 1
        rw [pc_set (by omega) hf, h2]
      · have hm : hb ((turS V o p).1 ||| b1 (o p)) m = true := hm
        rw [hb_set (by omega), Bool.or_eq_true] at hm
        rcases hm with hm | hm
        · obtain ⟨p', g1, g2⟩ := h3 m hm
          exact ⟨p', by omega, g2⟩
        · exact ⟨p, by omega, (of_decide_eq_true hm).symm⟩
    · refine ⟨h1, h2, fun m hm => ?_⟩
      obtain ⟨p', g1, g2⟩ := h3 m hm
      exact ⟨p', by omega, g2⟩
theorem l88 : ∀ a ∈ [88], a ∈ SM := by decide
theorem l87 : ∀ a ∈ [87], a ∈ SM := by decide
theorem kf_of {w w' : Wst} {l m : List Nat} (h : kp m w w') (hm : 80 ∉ m) : kf l w w' := fun b _ => by rw [(h 80 hm).1]
section W1
variable {o : Nat → Nat} {T : TT}
variable {ga : Nat → Nat} {L : Nat} {xs : Nat → Int32} {d : Nat} {h : ac_H} {P : ac_P} {ad : Nat → Nat} {w : Wst} {V : VT}
theorem c7_wants {x y : Int32} {p c e : Nat} (W : WW ad w h) (hK : wa w 81 = V) (hV : VOK V) (hx : x = kI (p : Int)) (hp : p < nm V) (hy : y = kI (c : Int)) (hc : c ≤ p) (ho : wa w 87 p = kI (o p : Int) ∧ o p < nm V) (he : wa w 88 (14 * (p + 1) + c + 1) = kI (e : Int)) (hP : P (.inl (some (.int (bI (wnt V (o p) e))))) h) : WP ga L xs (d + 2) 199 [.ref (ad 80), .int x, .int y] h P := by
  have hn := hV.n.2
  have hix : kI 14 * (x + kI 1) + y + kI 1 = kI ((14 * (p + 1) + c + 1 : Nat) : Int) := by
    rw [hx, hy, kN_succ, ix14, kN_add, kN_succ]
  unfold wnt at hP
  refine WP.enter kX7_wants (Nat.le_of_ble_eq_true rfl) (fun J hJ => ?_)
  refine hJ 0 _ _ rfl _ _ _ _ (x_aload rfl (w_getr W 7 20 (t := 88) (by decide) shp_80 rfl rfl rfl (x_sipush (x_iload rfl (x_sipush (x_iadd (x_imul (x_iload rfl (x_iadd (x_sipush (x_iadd (w_iald W ((14 * (p + 1) + c + 1)) (by decide) shp_88 hix (by omega) (by decide) (x_aload rfl (w_getr W 7 0 (t := 81) (by decide) shp_80 rfl rfl rfl (x_sipush (w_iald W 1 (by decide) shp_81 rfl (by decide) (by decide) (x_br2 (fun q1 => have q1 := cy_ne q1; hJ 1 _ _ rfl _ _ _ _ (x_sipush (x_goto (hJ 2 _ _ rfl _ _ _ _ (x_iret (by first | exact nrwB _ | rfl | decide) ?_))))) (fun q1 => have q1 := cn_ne q1; x_aload rfl (w_getr W 7 0 (t := 81) (by decide) shp_80 rfl rfl rfl (x_sipush (w_iald W 2 (by decide) shp_81 rfl (by decide) (by decide) (x_aload rfl (x_aload rfl (w_getr W 7 19 (t := 87) (by decide) shp_80 rfl rfl rfl (x_iload rfl (w_iald W p (by decide) shp_87 hx (by omega) (by decide) (x_sipush (x_cv rfl (Nat.le_of_ble_eq_true rfl) (isO_W W (by decide) shp_80) (c7_of W hK ho.1 rfl (by omega) (by decide) (xk_go (x_br2 (fun q2 => have q2 := cy_le q2; hJ 1 _ _ rfl _ _ _ _ (x_sipush (x_goto (hJ 2 _ _ rfl _ _ _ _ (x_iret (by first | exact nrwB _ | rfl | decide) ?_))))) (fun q2 => have q2 := cn_le q2; x_sipush (x_goto (hJ 2 _ _ rfl _ _ _ _ (x_iret (by first | exact nrwB _ | rfl | decide) ?_)))))))))))))))))))))))))))))))))))
  · rw [he, hK] at q1
    rw [decide_eq_false q1] at hP
    exact hP
  · rw [he, hK] at q1
    rw [hK, show 6 + 4 * o p + 2 = 8 + 4 * o p by omega] at q2
    rw [decide_eq_false (show ¬ vC V (o p) < V 2 from Int32.not_lt.mpr q2), Bool.and_false] at hP
    exact hP
  · rw [he, hK] at q1
    rw [hK, show 6 + 4 * o p + 2 = 8 + 4 * o p by omega] at q2
    rw [decide_eq_true q1, decide_eq_true (show vC V (o p) < V 2 from q2)] at hP
    exact hP
theorem c7_byTurns (W : WW ad w h) (hK : wa w 81 = V) (hV : VOK V) (ho : ∀ p, p < nm V → wa w 87 p = kI (o p : Int) ∧ o p < nm V) (hd : ∀ p, p < nm V → ∀ p', p' < p → ¬ o p' = o p) (kk : ∀ h' w', WW ad w' h' → kp [88] w w' → P (.inl (some (.int (turV V o)))) h') : WP ga L xs (d + 3) 200 [.ref (ad 80)] h P := by
  have hn := hV.n.2
  have hKk : ∀ w', kp [88] w w' → wa w' 81 = V := fun w' hk => (hk 81 (by decide)).2.2.1.trans hK
  have hok : ∀ w', kp [88] w w' → ∀ p, p < nm V → wa w' 87 p = kI (o p : Int) ∧ o p < nm V := fun w' hk p hp => by
    rw [(hk 87 (by decide)).2.2.1]
    exact ho p hp
  refine WP.enter kX7_byTurns (Nat.le_of_ble_eq_true rfl) (fun J hJ => ?_)
  have loop9 : ∀ h0 w0, WW ad w0 h0 → kp [88] w w0 → (∀ p, p ≤ nm V → ∀ c, c ≤ p → wa w0 88 (14 * p + c) = kI (enE V o (nm V - p) c : Int)) → ∀ p, p ≤ nm V → J 9 [some (.ref (ad 80)), some (.int (kI (nm V : Int))), some (.int (turS V o p).1), some (.int (kI (p : Int)))] [] h0 (0, 0) := fun h0 w0 W0 hk hE => up_ind (fun p hp ih => ?_)
  · have loop3 : ∀ q, q ≤ nm V → ∀ h' w' z3, WW ad w' h' → kp [88] w w' → (∀ p, q ≤ p → p ≤ nm V → ∀ c, c ≤ p → wa w' 88 (14 * p + c) = kI (enE V o (nm V - p) c : Int)) → J 3 [some (.ref (ad 80)), some (.int (kI (nm V : Int))), some (.int (kI ((q : Int) - 1))), z3] [] h' (0, 0) := dn_ind (fun q ihq hq h0 w0 z3 W0 hk hE => ?_)
    · have loop1 : ∀ m, m ≤ nm V + 1 → ∀ h' w', WW ad w' h' → kp [88] w w' → (∀ c, c < m → wa w' 88 (14 * nm V + c) = kI (c : Int)) → J 1 [some (.ref (ad 80)), some (.int (kI (nm V : Int))), some (.int (kI (m : Int))), none] [] h' (0, 0) := up_ind (fun m hm ih h0 w0 W0 hk hE => ?_)
      · refine hJ 0 _ _ rfl _ _ _ _ (x_aload rfl (x_cv rfl (Nat.le_of_ble_eq_true rfl) (isO_W W (by decide) shp_80) (c7_many W hK hV (xk_go (x_istore rfl (x_sipush (x_istore rfl (x_goto (?_)))))))))
        exact loop1 0 (Nat.zero_le _) _ _ W kp_refl (fun c hc => by omega)
      refine hJ 1 _ _ rfl _ _ _ _ (x_iload rfl (x_iload rfl (x_br2 (fun q1 => have q1 := gt_y rfl (by omega) q1; hJ 2 _ _ rfl _ _ _ _ (x_iload rfl (x_sipush (x_isub (x_istore rfl (x_goto (?_))))))) (fun q1 => have q1 := gt_n rfl (by omega) q1; x_aload rfl (w_getr W0 7 20 (t := 88) (by decide) shp_80 rfl rfl rfl (x_sipush (x_iload rfl (x_imul (x_eqi (ix14 _) (x_iload rfl (x_iadd (x_eqi (kN_add _ _) (x_iload rfl (w_iast W0 (14 * nm V + m) (by decide) shp_88 rfl (by omega) (by decide) (fun h1 W1 => x_iinc rfl rfl (x_goto (?_)))))))))))))))))
      · rw [kI_sub]
        refine loop3 (nm V) (Nat.le_refl _) _ _ none W0 hk (fun p h1 h2 c hc => ?_)
        rw [show p = nm V by omega, Nat.sub_self]
        exact hE c (by omega)
      · refine J_c (ih (by omega) h1 _ W1 (hk.trans (kp_sa (by simp))) (fun c hc => ?_)) (by simp only [sI, kN_succ])
        rw [wa_self]
        by_cases e : c = m
        · rw [e, upd_self]
        · rw [upd_ne (by omega)]
          exact hE c (by omega)
    have loop4 : 1 ≤ q → ∀ c, c ≤ q → ∀ h' w', WW ad w' h' → kp [88] w w' → (∀ p, q ≤ p → p ≤ nm V → ∀ c, c ≤ p → wa w' 88 (14 * p + c) = kI (enE V o (nm V - p) c : Int)) → (∀ c', c' < c → wa w' 88 (14 * (q - 1) + c') = kI (enE V o (nm V - (q - 1)) c' : Int)) → J 4 [some (.ref (ad 80)), some (.int (kI (nm V : Int))), some (.int (kI ((q : Int) - 1))), some (.int (kI (c : Int)))] [] h' (0, 0) := by
      intro hq1
      refine up_ind (fun c hc ih h9 w9 W9 hk9 hE9 hE8 => ?_)
      have hK9 := hKk w9 hk9
      have ho9 := hok w9 hk9 (q - 1) (by omega)
      have he9 : c < q → wa w9 88 (14 * (q - 1 + 1) + c + 1) = kI (enE V o (nm V - q) (c + 1) : Int) := fun h => by
        rw [show 14 * (q - 1 + 1) + c + 1 = 14 * q + (c + 1) by omega]
        exact hE9 q (Nat.le_refl _) hq (c + 1) (by omega)
      have hq9 : 1 ≤ q ∧ q ≤ 1000 ∧ c ≤ 1000 := by omega
      have est : enE V o (nm V - (q - 1)) c = if wnt V (o (q - 1)) (enE V o (nm V - q) (c + 1)) = true then enE V o (nm V - q) (c + 1) else enE V o (nm V - q) c := by
        rw [show nm V - (q - 1) = nm V - q + 1 by omega]
        show (if wnt V (o (nm V - (nm V - q + 1))) (enE V o (nm V - q) (c + 1)) = true then enE V o (nm V - q) (c + 1) else enE V o (nm V - q) c) = _
        rw [show nm V - (nm V - q + 1) = q - 1 by omega]
      have keep : c < q → ∀ v, v = kI (enE V o (nm V - (q - 1)) c : Int) → (∀ p, q ≤ p → p ≤ nm V → ∀ c', c' ≤ p → wa (sa w9 88 (upd (wa w9 88) (14 * (q - 1) + c) v)) 88 (14 * p + c') = kI (enE V o (nm V - p) c' : Int)) ∧ (∀ c', c' < c + 1 → wa (sa w9 88 (upd (wa w9 88) (14 * (q - 1) + c) v)) 88 (14 * (q - 1) + c') = kI (enE V o (nm V - (q - 1)) c' : Int)) := fun hcq v hv => by
        refine ⟨fun p h1 h2 c' hc' => ?_, fun c' hc' => ?_⟩
        · rw [wa_self, upd_ne (by omega)]
          exact hE9 p h1 h2 c' hc'
        · rw [wa_self]
          by_cases e : c' = c
          · rw [e, upd_self, hv]
          · rw [upd_ne (by omega)]
            exact hE8 c' (by omega)
      refine hJ 4 _ _ rfl _ _ _ _ (x_iload rfl (x_iload rfl (x_br2 (fun q1 => have q1 := gtq hq9 q1; hJ 7 _ _ rfl _ _ _ _ (x_iinc rfl rfl (x_goto (?_)))) (fun q1 => have q1 := gtqn hq9 q1; x_aload rfl (w_getr W9 7 20 (t := 88) (by decide) shp_80 rfl rfl rfl (x_sipush (x_iload rfl (x_imul (x_eqi (ix14m hq1) (x_iload rfl (x_iadd (x_eqi (kN_add _ _) (x_aload rfl (w_getr W9 7 20 (t := 88) (by decide) shp_80 rfl rfl rfl (x_sipush (x_iload rfl (x_sipush (x_iadd (x_imul (x_eqi (ix14q q) (x_aload rfl (x_iload rfl (x_iload rfl (x_cv rfl (Nat.le_of_ble_eq_true rfl) (isO_W W9 (by decide) shp_80) (c7_wants (o := o) (p := q - 1) (c := c) (e := enE V o (nm V - q) (c + 1)) W9 hK9 hV (ixm1 hq1) (by omega) rfl (by omega) ho9 (he9 (by omega)) (xk_go (x_br (fun q2 => have q2 := bI_eq0.mp q2; hJ 5 _ _ rfl _ _ _ _ (x_iload rfl (x_goto (hJ 6 _ _ rfl _ _ _ _ (x_iadd (x_eqi (kN_add _ _) (w_iald W9 _ (by decide) shp_88 rfl (by omega) (by decide) (w_iast W9 ((14 * (q - 1) + c)) (by decide) shp_88 rfl (by omega) (by decide) (fun h1 W1 => x_iinc rfl rfl (x_goto (?_))))))))))) (fun q2 => have q2 := bI_ne0.mp q2; x_iload rfl (x_sipush (x_iadd (x_eqi (kN_succ c) (x_goto (hJ 6 _ _ rfl _ _ _ _ (x_iadd (x_eqi (kN_add _ _) (w_iald W9 _ (by decide) shp_88 rfl (by omega) (by decide) (w_iast W9 ((14 * (q - 1) + c)) (by decide) shp_88 rfl (by omega) (by decide) (fun h2 W2 => x_iinc rfl rfl (x_goto (?_))))))))))))))))))))))))))))))))))))))))
      · have ec : c = q := by omega
        refine J_c (ihq (by omega) (by omega) _ _ (some (.int (kI (c : Int)))) W9 hk9 (fun p h1 h2 c' hc' => ?_)) ?_
        · by_cases e : p = q - 1
          · rw [e]
            exact hE8 c' (by omega)
          · exact hE9 p (by omega) h2 c' hc'
        · simp only [sI]
          rw [ixmd hq1]
      · rw [q2, if_neg (by decide)] at est
        have kp2 := keep q1 (wa w9 88 (14 * q + c)) (by rw [est]; exact hE9 q (Nat.le_refl _) hq c (by omega))
        refine J_c (ih (by omega) h1 _ W1 (hk9.trans (kp_sa (by simp))) kp2.1 kp2.2) (by simp only [sI, kN_succ])
      · rw [q2, if_pos rfl] at est
        have kp2 := keep q1 (wa w9 88 (14 * q + (c + 1))) (by rw [est]; exact hE9 q (Nat.le_refl _) hq (c + 1) (by omega))
        refine J_c (ih (by omega) h2 _ W2 (hk9.trans (kp_sa (by simp))) kp2.1 kp2.2) (by simp only [sI, kN_succ])
    refine hJ 3 _ _ rfl _ _ _ _ (x_iload rfl (x_br (fun q1 => have q1 := k_m1y (by omega) q1; hJ 8 _ _ rfl _ _ _ _ (x_sipush (x_istore rfl (x_sipush (x_istore rfl (x_goto (?_))))))) (fun q1 => have q1 := k_m1n (by omega) q1; x_sipush (x_istore rfl (x_goto (?_))))))
    · subst q1
      exact J_c (loop9 h0 w0 W0 hk (fun p h1 c hc => hE p (Nat.zero_le _) h1 c hc) 0 (Nat.zero_le _)) rfl
    · exact loop4 q1 0 (Nat.zero_le _) _ _ W0 hk hE (fun c' hc' => by omega)
  have hK0 := hKk w0 hk
  have ho0 : p < nm V → wa w0 87 p = kI (o p : Int) ∧ o p < nm V := fun h => hok w0 hk p h
  have hle := turS_le (V := V) (o := o) p
  have htk := turS_ok hn (fun p hp => (ho p hp).2) hd p hp
  have hcs : kI (pc (turS V o p).1 : Int) = kI ((turS V o p).2 : Int) := by rw [htk.2.1]
  have he0 : p < nm V → wa w0 88 (14 * (p + 1) + (turS V o p).2 + 1) = kI (enE V o (nm V - (p + 1)) ((turS V o p).2 + 1) : Int) := fun h => hE (p + 1) h ((turS V o p).2 + 1) (by omega)
  have es : turS V o (p + 1) = turF V o p (turS V o p) := rfl
  unfold turF at es
  have hsh : p < nm V → kI 1 <<< (wa w0 87 p &&& 31) = b1 (o p) := fun h => by rw [(ho0 h).1, shl1 _ (by have := (ho0 h).2; omega)]
  refine hJ 9 _ _ rfl _ _ _ _ (x_iload rfl (x_iload rfl (x_br2 (fun q1 => have q1 := ge_y rfl (by omega) q1; hJ 12 _ _ rfl _ _ _ _ (x_iload rfl (x_iret (nrwI _) ?_))) (fun q1 => have q1 := ge_n rfl (by omega) q1; x_iload rfl (x_aload rfl (x_iload rfl (x_iload rfl (x_cs rfl (Nat.le_of_ble_eq_true rfl) (c7_size htk.1 (xk_go (x_cv rfl (Nat.le_of_ble_eq_true rfl) (isO_W W0 (by decide) shp_80) (c7_wants (o := o) (p := p) (c := (turS V o p).2) (e := enE V o (nm V - (p + 1)) ((turS V o p).2 + 1)) W0 hK0 hV rfl (by omega) hcs (by omega) (ho0 q1) (he0 q1) (xk_go (x_br (fun q2 => have q2 := bI_eq0.mp q2; hJ 10 _ _ rfl _ _ _ _ (x_sipush (x_goto (hJ 11 _ _ rfl _ _ _ _ (x_ior (x_istore rfl (x_iinc rfl rfl (x_goto (?_))))))))) (fun q2 => have q2 := bI_ne0.mp q2; x_sipush (x_aload rfl (w_getr W0 7 19 (t := 87) (by decide) shp_80 rfl rfl rfl (x_iload rfl (w_iald W0 p (by decide) shp_87 rfl (by omega) (by decide) (x_ishl (x_goto (hJ 11 _ _ rfl _ _ _ _ (x_ior (x_istore rfl (x_iinc rfl rfl (x_goto (?_)))))))))))))))))))))))))))
  · have e : p = nm V := by omega
    subst e
    exact kk h0 w0 W0 hk
  · rw [if_neg (by rw [q2]; decide)] at es
    refine J_c (ih (by omega)) ?_
    rw [es, or_k0]
    simp only [sI, kN_succ]
  · rw [if_pos q2] at es
    refine J_c (ih (by omega)) ?_
    rw [es, hsh q1]
    simp only [sI, kN_succ]
theorem m_inTurn (W : WW ad w h) (hK : wa w 81 = V) (hV : VOK V) (kk : KQ ad P w 0 (.int (turV V (fun p => p)))) : WP ga L xs (d + 9) 201 [.ref (ad 80)] h P := by
  have hn := hV.n.2
  refine WP.enter kX7_inTurn (Nat.le_of_ble_eq_true rfl) (fun J hJ => ?_)
  have loop : ∀ m, m ≤ nm V → ∀ h' w', WW ad w' h' → kp SM w w' → kf FM w w' → wn w' 80 4 = kI 0 → (∀ p, p < m → wa w' 87 p = kI (p : Int)) → J 1 [some (.ref (ad 80)), some (.int (kI (m : Int)))] [] h' (0, 0) := up_ind (fun m hm ih h0 w0 W0 k0 f0 n0 hE => ?_)
  · refine hJ 0 _ _ rfl _ _ _ _ (x_aload rfl (x_sipush (w_puti W 7 4 (by decide) shp_80 rfl rfl (okI rfl) (fun h1 W1 => x_sipush (x_istore rfl (x_goto (?_)))))))
    exact loop 0 (Nat.zero_le _) _ _ W1 kpM4 kfM4 wn4 (fun p hp => by omega)
  have hK0 : wa w0 81 = V := (k0 81 (by decide)).2.2.1.trans hK
  refine hJ 1 _ _ rfl _ _ _ _ (x_iload rfl (x_aload rfl (x_cv rfl (Nat.le_of_ble_eq_true rfl) (isO_W W0 (by decide) shp_80) (c7_many W0 hK0 hV (xk_go (x_br2 (fun q1 => have q1 := ge_y rfl (by omega) q1; hJ 2 _ _ rfl _ _ _ _ (x_aload rfl (x_cv rfl (Nat.le_of_ble_eq_true rfl) (isO_W W0 (by decide) shp_80) (c7_byTurns (o := fun p => p) W0 hK0 hV (fun p hp => ⟨hE p (by omega), hp⟩) (fun p _ p2 h => by omega) (fun h1 w1 W1 e1 => xk_go (x_iret (nrwI _) ?_)))))) (fun q1 => have q1 := ge_n rfl (by omega) q1; x_aload rfl (w_getr W0 7 19 (t := 87) (by decide) shp_80 rfl rfl rfl (x_iload rfl (x_iload rfl (w_iast W0 m (by decide) shp_87 rfl (by omega) (by decide) (fun h2 W2 => x_iinc rfl rfl (x_goto (?_))))))))))))))
  · exact kk.go W1 (k0.trans (e1.mono l88)) (f0.trans (kf_of e1 (by decide))) rfl (by rw [(e1 80 (by decide)).1]; exact n0) (fun _ => rfl)
  · refine J_c (ih q1 h2 _ W2 (k0.trans (kp_sa (by decide))) (f0.trans kf_sa) n0 (fun p hp => ?_)) (by simp only [sI, kN_succ])
    rw [wa_self]
    by_cases e : p = m
    · rw [e, upd_self]
    · rw [upd_ne e]
      exact hE p (by omega)
end W1
