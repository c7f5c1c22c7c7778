/-! ===== the best rule: the class ===== -/
section STG
variable {call : Nat → List Value → ac_H → ac_P → Prop} {cs : Nat → Nat × Nat} {ga : Nat → Nat} {L : Nat} {xs : Nat → Int32} {sl : Nat → List Int32} {mb : Nat × Nat} {hands : List (Nat × Int)} {rt : Option FieldType} {Q : ac_P} {J : Nat → ac_X}
variable {is : ac_I} {ls : ac_L} {s : List Value} {h : ac_H} {bg : Nat × Nat} {z : Nat}
theorem x_gst {n : Nat} (kk : xB call cs ga L xs sl mb hands rt Q J is ls (.ref (ga (1 + n)) :: s) h bg) : xB call cs ga L xs sl mb hands rt Q J ((.getstatic n, z) :: is) ls s h bg := by
  simp only [xB]
  exact kk
theorem x_least {n : Nat} {x : Int32} (hx : x = kI (n : Int)) (hn : n < 11) (kk : xB call cs ga L xs sl mb hands rt Q J is ls (.int (kI (lsN n : Int)) :: s) h bg) : xB call cs ga L xs sl mb hands rt Q J ((.daload, z) :: is) ls (.int x :: .ref (ga (1 + 0)) :: s) h bg := by
  subst hx
  simp only [xB]
  rw [(least_N n hn).1]
  exact ⟨trivial, (vp_inN hn (by omega)).1, kk⟩
theorem x_most {n : Nat} {x : Int32} (hx : x = kI (n : Int)) (hn : n < 11) (kk : xB call cs ga L xs sl mb hands rt Q J is ls (.int (kI (msN n : Int)) :: s) h bg) : xB call cs ga L xs sl mb hands rt Q J ((.saload, z) :: is) ls (.int x :: .ref (ga (1 + 1)) :: s) h bg := by
  subst hx
  simp only [xB]
  rw [(most_N n hn).1]
  exact ⟨trivial, (vp_inN hn (by omega)).1, kk⟩
end STG
theorem brI_low {V : VT} {a n r : Nat} {st : Int32 × Int32 × Int32} : ∀ k, k ≤ lsN r → brI V a n r st k = st
  | 0, _ => rfl
  | k + 1, h => by
    show brF V a n r k (brI V a n r st k) = st
    rw [brI_low k (by omega)]
    unfold brF
    exact if_neg (fun z => by have := of_decide_eq_true z.1; omega)
theorem brI_high {V : VT} {a n r : Nat} {st : Int32 × Int32 × Int32} : ∀ k, msN r + 1 ≤ k → brI V a n r st k = brI V a n r st (msN r + 1)
  | 0, h => by omega
  | k + 1, h => by
    by_cases e : k = msN r
    · rw [e]
    · show brF V a n r k (brI V a n r st k) = _
      rw [brI_high k (by omega)]
      unfold brF
      exact if_neg (fun z => by have := of_decide_eq_true z.1; omega)
theorem CR.rn {w : Wst} {V : VT} {a : Nat} {u v y z : Int32} (ha : a < 12) (h : CR w 20 (setRN V a u v)) : CR (sa (sa w (20 + 1) (upd (wa w (20 + 1)) a y)) (20 + 2) (upd (wa w (20 + 2)) a z)) 20 (setRN V a y z) := by
  obtain ⟨⟨a0, a1, a2, a3, a4, a6⟩, hm, hj, h5, h7, h8, h9⟩ := h
  have g1 : wa (sa (sa w (20 + 1) (upd (wa w (20 + 1)) a y)) (20 + 2) (upd (wa w (20 + 2)) a z)) (20 + 1) = upd (wa w (20 + 1)) a y := rfl
  have g2 : wa (sa (sa w (20 + 1) (upd (wa w (20 + 1)) a y)) (20 + 2) (upd (wa w (20 + 2)) a z)) (20 + 2) = upd (wa w (20 + 2)) a z := rfl
  have g3 : wa (sa (sa w (20 + 1) (upd (wa w (20 + 1)) a y)) (20 + 2) (upd (wa w (20 + 2)) a z)) (20 + 3) = wa w (20 + 3) := rfl
  have g4 : wa (sa (sa w (20 + 1) (upd (wa w (20 + 1)) a y)) (20 + 2) (upd (wa w (20 + 2)) a z)) (20 + 4) = wa w (20 + 4) := rfl
  have f : ∀ j, wn (sa (sa w (20 + 1) (upd (wa w (20 + 1)) a y)) (20 + 2) (upd (wa w (20 + 2)) a z)) 20 j = wn w 20 j := fun j => rfl
  rw [rn_nm] at hm h5 h7 h8 h9
  rw [rn_wk] at hj
  refine ⟨⟨?_, ?_, ?_, ?_, ?_, ?_⟩, fun m hm9 => ?_, fun j hj9 => ?_, fun m => ?_, fun m => ?_, fun m => ?_, fun m => ?_⟩
  · rw [f, a0, rn_low (by omega), rn_low (by omega)]
  · rw [f, a1, rn_low (by omega), rn_low (by omega)]
  · rw [f, a2, rn_low (by omega), rn_low (by omega)]
  · rw [f, a3, rn_low (by omega), rn_low (by omega)]
  · rw [f, a4, rn_low (by omega), rn_low (by omega)]
  · rw [f, a6, rn_low (by omega), rn_low (by omega)]
  · rw [rn_nm] at hm9
    have hh := hm m hm9
    rw [rn_R, rn_N, rn_C] at hh
    rw [g1, g2, g3, rn_R, rn_N, rn_C]
    by_cases e : m = a
    · subst e
      rw [upd_self, upd_self, if_pos rfl, if_pos rfl]
      exact ⟨rfl, rfl, hh.2.2⟩
    · rw [if_neg e, if_neg e] at hh
      rw [upd_ne e, upd_ne e, if_neg e, if_neg e]
      exact hh
  · rw [rn_wk] at hj9
    have hh := hj j hj9
    rw [rn_S ha] at hh
    rw [g4, rn_S ha]
    exact hh
  · have hh := h5 m
    rw [rn_U] at hh
    rw [f, hh, rn_nm, rn_U]
  · have hh := h7 m
    rw [rn_C, rn_low (by omega)] at hh
    rw [f, hh, rn_nm, rn_C, rn_low (by omega)]
  · have hh := h8 m
    rw [rn_C] at hh
    rw [f, hh, rn_nm, rn_C]
  · have hh := h9 m
    rw [rn_C, rn_low (by omega)] at hh
    rw [f, hh, rn_nm, rn_C, rn_low (by omega)]
theorem in02 {x : Int32} (h : inV x 0 2 = true) : x = kI 0 ∨ x = kI 1 ∨ x = kI 2 := by
  have h := of_decide_eq_true h
  have e := kI_of x
  have h3 : x.toInt = 0 ∨ x.toInt = 1 ∨ x.toInt = 2 := by omega
  rcases h3 with h3 | h3 | h3 <;> rw [h3] at e
  · exact Or.inl e.symm
  · exact Or.inr (Or.inl e.symm)
  · exact Or.inr (Or.inr e.symm)
section B1
variable {ga : Nat → Nat} {L : Nat} {xs : Nat → Int32} {d : Nat} {h : ac_H} {P : ac_P} {ad : Nat → Nat} {w : Wst} {i : Nat} {V : VT}
theorem x_bestRule {x y z : Int32} (W : WW ad w h) (hC : isC i) (hR : CR w i V) (hV : VOK V) (hc : wr w 0 0 = i) (h20 : i ≠ 20) (kk : KC ad P w [1, 0] (bestRuleT V x y z) (.int (bestRuleV V (tN x) (tN y) z))) : WP ga L xs (d + 7) 110 [.ref (ad 0), .int x, .int y, .int z] h P := by
  have hn := hV.n.2
  have hw := hV.w.2
  have hC20 : isC 20 := Or.inr (Or.inr (Or.inl rfl))
  unfold bestRuleT at kk
  refine WP.enter kX6_bestRule (Nat.le_of_ble_eq_true rfl) (fun J hJ => ?_)
  have loop5 : isMemV V x = true → inV y 1 30 = true → inV z 0 2 = true → ∀ bg r, r ≤ 11 → ∀ h' w' z11 z12, WW ad w' h' → kp SC w w' → (∃ u v, CR w' 20 (setRN V (tN x) u v)) → J 1 [some (.ref (ad 0)), some (.int x), some (.int y), some (.int z), some (.int (brO V (tN x) (tN y) r).1), some (.int (brO V (tN x) (tN y) r).2.1), some (.int (brO V (tN x) (tN y) r).2.2), some (.int (kI (r : Int))), z11, z12] [] h' bg := by
    intro hm hy hz bg
    obtain ⟨hx1, hx2⟩ := isMem_m hm
    obtain ⟨hy1, y2, y3⟩ := xnV (a := 1) (b := 30) hy
    refine up_ind (fun r hr ih5 h5 w5 z11 z12 W5 k5 u5 => ?_)
    obtain ⟨u5a, u5b, u5⟩ := u5
    have loop6 : r < 11 → ∀ i, i ≤ msN r + 1 → lsN r ≤ i → ∀ h' w' z12, WW ad w' h' → kp SC w w' → (∃ u v, CR w' 20 (setRN V (tN x) u v)) → J 2 [some (.ref (ad 0)), some (.int x), some (.int y), some (.int z), some (.int (brI V (tN x) (tN y) r (brO V (tN x) (tN y) r) i).1), some (.int (brI V (tN x) (tN y) r (brO V (tN x) (tN y) r) i).2.1), some (.int (brI V (tN x) (tN y) r (brO V (tN x) (tN y) r) i).2.2), some (.int (kI (r : Int))), some (.int (kI (i : Int))), z12] [] h' bg := by
      intro hr9
      have hms := (most_N r hr9).2
      refine up_ind (fun i hi ih6 hls h6 w6 z12 W6 k6 u6 => ?_)
      obtain ⟨u6a, u6b, u6⟩ := u6
      have hrul : i ≤ msN r → rulN r i = true := fun h => decide_eq_true ⟨hls, h⟩
      have hVr : i ≤ msN r → VOK (setRN V (tN x) (kI (r : Int)) (kI (i : Int))) := fun h1 => hV.rn (by omega) hr9 (by omega) (hrul h1)
      have estep : brI V (tN x) (tN y) r (brO V (tN x) (tN y) r) (i + 1) = brF V (tN x) (tN y) r i (brI V (tN x) (tN y) r (brO V (tN x) (tN y) r) i) := rfl
      unfold brF at estep
      refine hJ 2 _ _ rfl _ _ _ _ (x_iload rfl (x_gst (x_iload rfl (x_most rfl hr9 (x_br2 (fun q1 => have q1 := gt_y rfl (by omega) q1; hJ 5 _ _ rfl _ _ _ _ (x_iinc rfl rfl (x_goto (?_)))) (fun q1 => have q1 := gt_n rfl (by omega) q1; x_aload rfl (w_getr W6 6 2 (t := 20) (by decide) shp_0 rfl rfl rfl (x_iload rfl (x_iload rfl (x_iload rfl (x_cv rfl (Nat.le_of_ble_eq_true rfl) (isO_W W6 (by decide) shp_20) (c_giveRule W6 hC20 hx1 (by omega) (fun h1 W1 => xk_v (x_aload rfl (w_getr W1 6 4 (t := 40) (by decide) shp_0 rfl rfl rfl (x_aload rfl (w_getr W1 6 2 (t := 20) (by decide) shp_0 rfl rfl rfl (x_iload rfl (x_iload rfl (x_cv rfl (Nat.le_of_ble_eq_true rfl) (isO_W W1 (by decide) shp_40) (c_payAhead W1 hC20 (u6.rn (by omega)) (hVr q1) hy1 (by omega) hx1 (by rw [rn_nm]; exact hx2) (fun h2 w2 W2 e2 => xk_go (x_istore rfl (x_iload rfl (x_sipush (x_br2 (fun q2 => have q2 := cy_eq q2; hJ 3 _ _ rfl _ _ _ _ (x_iload rfl (x_istore rfl (x_iload rfl (x_istore rfl (x_iload rfl (x_istore rfl (x_goto (hJ 4 _ _ rfl _ _ _ _ (x_iinc rfl rfl (x_goto (?_)))))))))))) (fun q2 => have q2 := cn_eq q2; x_iload rfl (x_iload rfl (x_br2 (fun q3 => have q3 := cy_le q3; hJ 4 _ _ rfl _ _ _ _ (x_iinc rfl rfl (x_goto (?_)))) (fun q3 => have q3 := cn_le q3; x_goto (hJ 3 _ _ rfl _ _ _ _ (x_iload rfl (x_istore rfl (x_iload rfl (x_istore rfl (x_iload rfl (x_istore rfl (x_goto (hJ 4 _ _ rfl _ _ _ _ (x_iinc rfl rfl (x_goto (?_))))))))))))))))))))))))))))))))))))))))))
      · have e : i = msN r + 1 := by omega
        subst e
        refine J_c (ih5 hr9 _ _ (some (.int (kI ((msN r + 1 : Nat) : Int)))) z12 W6 k6 ⟨_, _, u6⟩) ?_
        have e2 : brO V (tN x) (tN y) (r + 1) = brI V (tN x) (tN y) r (brO V (tN x) (tN y) r) (msN r + 1) := brI_high 13 (by omega)
        rw [e2]
        simp only [sI, kN_succ] <;> rfl
      · rw [if_pos ⟨hrul q1, Or.inl q2⟩] at estep
        refine J_c (ih6 (by omega) (by omega) _ _ (some (.int (payAV (setRN V (tN x) (kI (r : Int)) (kI (i : Int))) (tN x) (tN y)))) W2 (((k6.trans (kp_sa (by simp [SC]))).trans (kp_sa (by simp [SC]))).trans (e2.mono l4041')) ⟨_, _, (u6.rn (by omega)).far e2 hC20 (by simp)⟩) ?_
        rw [estep]
        simp only [sI, kN_succ] <;> rfl
      · rw [if_neg (fun z => z.2.elim q2 (Int32.not_lt.mpr q3))] at estep
        refine J_c (ih6 (by omega) (by omega) _ _ (some (.int (payAV (setRN V (tN x) (kI (r : Int)) (kI (i : Int))) (tN x) (tN y)))) W2 (((k6.trans (kp_sa (by simp [SC]))).trans (kp_sa (by simp [SC]))).trans (e2.mono l4041')) ⟨_, _, (u6.rn (by omega)).far e2 hC20 (by simp)⟩) ?_
        rw [estep]
        simp only [sI, kN_succ] <;> rfl
      · rw [if_pos ⟨hrul q1, Or.inr q3⟩] at estep
        refine J_c (ih6 (by omega) (by omega) _ _ (some (.int (payAV (setRN V (tN x) (kI (r : Int)) (kI (i : Int))) (tN x) (tN y)))) W2 (((k6.trans (kp_sa (by simp [SC]))).trans (kp_sa (by simp [SC]))).trans (e2.mono l4041')) ⟨_, _, (u6.rn (by omega)).far e2 hC20 (by simp)⟩) ?_
        rw [estep]
        simp only [sI, kN_succ] <;> rfl
    have hT : (if isMemV V x = true then (if inV y 1 30 = true ∧ inV z 0 2 = true then 0 else 2) else 1) = 0 := by rw [if_pos hm, if_pos ⟨hy, hz⟩]
    refine hJ 1 _ _ rfl _ _ _ _ (x_iload rfl (x_sipush (x_br2 (fun q1 => have q1 := ge_y (n := 11) rfl (by omega) q1; hJ 6 _ _ rfl _ _ _ _ (x_iload rfl (x_sipush (x_br2 (fun q2 => have q2 := cy_ne q2; hJ 7 _ _ rfl _ _ _ _ (x_iload rfl (x_br (fun q3 => have q3 := cy_ne q3; hJ 8 _ _ rfl _ _ _ _ (x_iload rfl (x_goto (hJ 9 _ _ rfl _ _ _ _ (x_iret (nrwI _) ?_))))) (fun q3 => have q3 := cn_ne q3; x_iload rfl (x_goto (hJ 9 _ _ rfl _ _ _ _ (x_iret (nrwI _) ?_))))))) (fun q2 => have q2 := cn_ne q2; x_iload rfl (x_iret (nrwI _) ?_)))))) (fun q1 => have q1 := ge_n (n := 11) rfl (by omega) q1; x_gst (x_iload rfl (x_least rfl (by omega) (x_istore rfl (x_goto (?_)))))))))
    · have e : r = 11 := by omega
      subst e
      have z1 : z = kI 1 := ((in02 hz).resolve_left (show ¬ z = kI 0 from q3)).resolve_right q2
      have ev : bestRuleV V (tN x) (tN y) z = (brO V (tN x) (tN y) 11).2.1 := by
        unfold bestRuleV
        rw [if_neg (show ¬ z = kI 0 from q3), if_pos z1]
      rw [ev] at kk
      exact kk.yes hT W5 k5
    · have e : r = 11 := by omega
      subst e
      have ev : bestRuleV V (tN x) (tN y) z = (brO V (tN x) (tN y) 11).1 := by
        unfold bestRuleV
        rw [if_pos (show z = kI 0 from q3)]
      rw [ev] at kk
      exact kk.yes hT W5 k5
    · have e : r = 11 := by omega
      subst e
      have ev : bestRuleV V (tN x) (tN y) z = (brO V (tN x) (tN y) 11).2.2 := by
        unfold bestRuleV
        rw [if_neg (fun h => absurd (h.symm.trans q2) (by decide)), if_neg (fun h => absurd (h.symm.trans q2) (by decide))]
      rw [ev] at kk
      exact kk.yes hT W5 k5
    · have ls12 := (least_N r (by omega)).2
      have lm : lsN r ≤ msN r + 1 := by
        have : ∀ r, r < 11 → lsN r ≤ msN r + 1 := by decide
        exact this r (by omega)
      refine J_c (loop6 (by omega) (lsN r) lm (Nat.le_refl _) _ _ z12 W5 k5 ⟨_, _, u5⟩) ?_
      rw [brI_low _ (Nat.le_refl _)]
      rfl
  refine hJ 0 _ _ rfl _ _ _ _ (x_aload rfl (x_iload rfl (x_cvb rfl (Nat.le_of_ble_eq_true rfl) (isO_W W (by decide) shp_0) ⟨by decide, by decide⟩ (c_reqMember W hC hR hV hc (fun t1 => ?_) (fun t1 => xk_v (x_iload rfl (x_sipush (x_sipush (x_csb rfl (Nat.le_of_ble_eq_true rfl) ⟨by decide, by decide⟩ (c_reqWithin rfl rfl (by omega) (fun t2 => ?_) (fun t2 => xk_v (x_iload rfl (x_sipush (x_sipush (x_csb rfl (Nat.le_of_ble_eq_true rfl) ⟨by decide, by decide⟩ (c_reqWithin rfl rfl (by omega) (fun t3 => ?_) (fun t3 => xk_v (x_aload rfl (w_getr W 6 2 (t := 20) (by decide) shp_0 rfl rfl rfl (x_aload rfl (w_getr W 6 0 (t := i) (by decide) shp_0 rfl rfl hc (x_cv rfl (Nat.le_of_ble_eq_true rfl) (isO_W W (by decide) shp_20) (c_become W hC hC20 h20 hR hV (fun h1 w1 W1 e0 c0 => xk_v (x_sipush (x_istore rfl (x_sipush (x_istore rfl (x_sipush (x_istore rfl (x_sipush (x_istore rfl (x_goto (?_))))))))))))))))))))))))))))))))))
  · exact kk.no 0 (if_neg (by rw [t1]; decide)) W kp_refl
  · exact kk.no 1 (by rw [if_pos t1, if_neg (fun z => by rw [t2] at z; cases z.1)]) W kp_refl
  · exact kk.no 1 (by rw [if_pos t1, if_neg (fun z => by rw [t3] at z; cases z.2)]) W kp_refl
  · exact loop5 t1 t2 t3 _ 0 (Nat.zero_le _) _ _ none none W1 (e0.mono lTC) ⟨_, _, (rn_id V (tN x)).symm ▸ c0⟩
end B1
