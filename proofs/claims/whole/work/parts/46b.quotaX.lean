/-! ===== the best quota: the class ===== -/
section B1
variable {ga : Nat → Nat} {L : Nat} {xs : Nat → Int32} {d : Nat} {h : ac_H} {P : ac_P} {ad : Nat → Nat} {w : Wst} {i : Nat} {V : VT}
theorem lTC : ∀ a ∈ [20, 20 + 1, 20 + 2, 20 + 3, 20 + 4], a ∈ SC := by decide
theorem x_bestQuota {x : Int32} (W : WW ad w h) (hC : isC i) (hR : CR w i V) (hV : VOK V) (hc : wr w 0 0 = i) (h20 : i ≠ 20) (kk : KC ad P w [0] (weeksT x) (.int (bqV V (tN x)))) : WP ga L xs (d + 7) 109 [.ref (ad 0), .int x] h P := by
  have hn := hV.n.2
  have hw := hV.w.2
  have hC20 : isC 20 := Or.inr (Or.inr (Or.inl rfl))
  refine WP.enter kX6_bestQuota (Nat.le_of_ble_eq_true rfl) (fun J hJ => ?_)
  have loop : inV x 1 60 = true → ∀ bg m, m ≤ 12 → ∀ h' w' z, WW ad w' h' → kp SC w w' → (∃ y, CR w' 20 (upd V 1 y)) → J 1 [some (.ref (ad 0)), some (.int x), some (.int (bqS V (tN x) m).1), some (.int (bqS V (tN x) m).2), some (.int (kI ((m + 1 : Nat) : Int))), z] [] h' bg := fun hx bg => up_ind (fun m hm ih h0 w0 z W0 k1 hc0 => ?_)
  · refine hJ 0 _ _ rfl _ _ _ _ (x_iload rfl (x_sipush (x_sipush (x_csb rfl (Nat.le_of_ble_eq_true rfl) ⟨by decide, by decide⟩ (c_reqWithin rfl rfl (by omega) (fun t1 => ?_) (fun t1 => xk_v (x_aload rfl (w_getr W 6 2 (t := 20) (by decide) shp_0 rfl rfl rfl (x_aload rfl (w_getr W 6 0 (t := i) (by decide) shp_0 rfl rfl hc (x_cv rfl (Nat.le_of_ble_eq_true rfl) (isO_W W (by decide) shp_20) (c_become W hC hC20 h20 hR hV (fun h1 w1 W1 e0 c0 => xk_v (x_sipush (x_istore rfl (x_sipush (x_istore rfl (x_sipush (x_istore rfl (x_goto (?_)))))))))))))))))))))
    · exact kk.no 0 (if_neg (by rw [t1]; decide)) W kp_refl
    · exact loop t1 _ 0 (Nat.zero_le _) _ _ none W1 (e0.mono lTC) ⟨V 1, by rw [upd_id]; exact c0⟩
  have xn := xnV (a := 1) (b := 60) hx
  obtain ⟨y, hc0⟩ := hc0
  have hVq : m + 1 ≤ 12 → VOK (setQ V (m + 1)) := fun h => hV.setQ (by omega) h
  have es : bqS V (tN x) (m + 1) = bqF V (tN x) m (bqS V (tN x) m) := rfl
  unfold bqF at es
  refine hJ 1 _ _ rfl _ _ _ _ (x_iload rfl (x_sipush (x_br2 (fun q1 => have q1 := gt_y (n := 12) rfl (by omega) q1; hJ 3 _ _ rfl _ _ _ _ (x_iload rfl (x_iret (nrwI _) ?_))) (fun q1 => have q1 := gt_n (n := 12) rfl (by omega) q1; x_aload rfl (w_getr W0 6 2 (t := 20) (by decide) shp_0 rfl rfl rfl (x_iload rfl (w_puti W0 0 1 (by decide) shp_20 rfl rfl (okI rfl) (fun h1 W1 => x_aload rfl (w_getr W1 6 4 (t := 40) (by decide) shp_0 rfl rfl rfl (x_aload rfl (w_getr W1 6 2 (t := 20) (by decide) shp_0 rfl rfl rfl (x_iload rfl (x_cv rfl (Nat.le_of_ble_eq_true rfl) (isO_W W1 (by decide) shp_40) (c_meetings W1 hC20 (hc0.setQ (q := m + 1) hC20) (hVq q1) xn.1 xn.2.2 (fun h2 w2 W2 e2 => xk_go (x_istore rfl (x_iload rfl (x_iload rfl (x_br2 (fun q2 => have q2 := cy_le q2; hJ 2 _ _ rfl _ _ _ _ (x_iinc rfl rfl (x_goto (?_)))) (fun q2 => have q2 := cn_le q2; x_iload rfl (x_istore rfl (x_iload rfl (x_istore rfl (x_goto (hJ 2 _ _ rfl _ _ _ _ (x_iinc rfl rfl (x_goto (?_))))))))))))))))))))))))))))
  · have e : m = 12 := by omega
    subst e
    exact kk.yes (if_pos hx) W0 k1
  · have q2 : metV (setQ V (m + 1)) (tN x) ≤ (bqS V (tN x) m).2 := q2
    rw [if_neg (Int32.not_lt.mpr q2)] at es
    refine J_c (ih q1 _ _ (some (.int (metV (setQ V (m + 1)) (tN x)))) W2 ((k1.trans (kp_sn (by simp [SC]))).trans (e2.mono l4041')) ⟨_, (hc0.setQ (q := m + 1) hC20).far e2 hC20 (by simp)⟩) ?_
    rw [es]
    simp only [sI, kN_succ]
    rfl
  · have q2 : (bqS V (tN x) m).2 < metV (setQ V (m + 1)) (tN x) := q2
    rw [if_pos q2] at es
    refine J_c (ih q1 _ _ (some (.int (metV (setQ V (m + 1)) (tN x)))) W2 ((k1.trans (kp_sn (by simp [SC]))).trans (e2.mono l4041')) ⟨_, (hc0.setQ (q := m + 1) hC20).far e2 hC20 (by simp)⟩) ?_
    rw [es]
    simp only [sI, kN_succ]
    rfl
end B1
