/-! ===== the model: weeks that go by ===== -/
section M1
variable {p : PT} {fog : Bool}
variable {ga : Nat → Nat} {L : Nat} {xs : Nat → Int32} {d : Nat} {h : ac_H} {P : ac_P} {ad : Nat → Nat} {w : Wst} {V : VT}
theorem c7_learns {m : Nat} {x : Int32} (W : WW ad w h) (hK : wa w 81 = V) (hV : VOK V) (hr : PR w p) (hp : POK V p) (hx : x = kI (m : Int)) (hm : m < nm V) (hP : P (.inl (some (.int (bI (decide (0 < lrnV V p m)))))) h) : WP ga L xs (d + 4) 170 [.ref (ad 80), .int x] h P := by
  subst hx
  have hn := hV.n.2
  have hp2 := hp.1
  refine WP.enter kX7_learns (Nat.le_of_ble_eq_true rfl) (fun J hJ => ?_)
  have loop : ∀ k, k ≤ p.2 → J 1 [some (.ref (ad 80)), some (.int (kI (m : Int))), some (.int (lrnV V (p.1, k) m)), some (.int (kI (k : Int)))] [] h (0, 0) := up_ind (fun k hk ih => ?_)
  · exact hJ 0 _ _ rfl _ _ _ _ (x_sipush (x_istore rfl (x_sipush (x_istore rfl (x_goto (loop 0 (Nat.zero_le _)))))))
  have hs : k < p.2 → sok (nm V) (wa w 86 k ||| b1 m) := fun h9 => by
    rw [hr.2 k h9]
    exact (hp.2 k h9).or (sok.b1 hn hm)
  refine hJ 1 _ _ rfl _ _ _ _ (x_iload rfl (x_aload rfl (w_geti W 7 17 (by decide) shp_80 rfl rfl (x_br2 (fun q1 => have q1 := ge_y hr.1 (by omega) q1; hJ 2 _ _ rfl _ _ _ _ (x_iload rfl (x_br (fun q2 => have q2 := cy_le q2; hJ 3 _ _ rfl _ _ _ _ (x_sipush (x_goto (hJ 4 _ _ rfl _ _ _ _ (x_iret (by first | exact nrwB _ | rfl | decide) ?_))))) (fun q2 => have q2 := cn_le q2; x_sipush (x_goto (hJ 4 _ _ rfl _ _ _ _ (x_iret (by first | exact nrwB _ | rfl | decide) ?_))))))) (fun q1 => have q1 := ge_n hr.1 (by omega) q1; x_iload rfl (x_aload rfl (x_aload rfl (w_getr W 7 16 (t := 86) (by decide) shp_80 rfl rfl rfl (x_iload rfl (w_iald W _ (by decide) shp_86 rfl (by omega) (by decide) (x_sipush (x_iload rfl (x_shl1 (by omega) (x_ior (x_iload rfl (x_cv rfl (Nat.le_of_ble_eq_true rfl) (isO_W W (by decide) shp_80) (c7_payOf W hK (hs q1) rfl (by omega) (xk_go (x_iadd (x_istore rfl (x_iinc rfl rfl (x_goto (?_)))))))))))))))))))))))
  · have e : k = p.2 := by omega
    subst e
    rw [show lrnV V (p.1, p.2) m = lrnV V p m from rfl] at q2
    rw [decide_eq_false (Int32.not_lt.mpr q2)] at hP
    exact hP
  · have e : k = p.2 := by omega
    subst e
    rw [show lrnV V (p.1, p.2) m = lrnV V p m from rfl] at q2
    rw [decide_eq_true q2] at hP
    exact hP
  · refine J_c (ih q1) ?_
    have e : lrnV V (p.1, k + 1) m = lrnV V (p.1, k) m + payV V (p.1 k ||| b1 m) m := rfl
    simp only [sI, kN_succ, e, hr.2 k q1]
theorem c7_comes {come x y z : Int32} {m : Nat} (W : WW ad w h) (hK : wa w 81 = V) (hV : VOK V) (hr : PR w p) (hp : POK V p) (hx : x = kI (m : Int)) (hm : m < nm V) (hs : sok (nm V) come) (hy : y = lastP p) (hz : z = kI (p.2 : Int)) (kk : ∀ h', WW ad (sn w 80 18 (comesG V p fog m (come, wn w 80 18)).2) h' → P (.inl (some (.int (bI (comesG V p fog m (come, wn w 80 18)).1)))) h') : WP ga L xs (d + 5) 175 [.ref (ad 80), .int x, .int come, .int y, .int z, .int (bI fog)] h P := by
  subst hx hy hz
  have hn := hV.n.2
  have hlast := hp.last hn
  obtain ⟨hR1, hN, -, -, h6, h9⟩ := hV.2.1 m hm
  have hp2 := hp.1
  obtain ⟨c, hc, c1, c2⟩ := btw_k hR1
  have f1 : V (6 + 4 * m + 0) = vR V m := rfl
  have f2 : V (6 + 4 * m + 1) = vN V m := by unfold vN; congr 1; omega
  have hnum : vN V m = kI (nN V m : Int) ∧ nN V m ≤ 12 := by
    refine ⟨?_, ?_⟩
    · unfold nN
      rw [Int.toNat_of_nonneg hN.1, kI_of]
    · unfold nN
      have := hN.2
      omega
  have hW0 : WW ad (sn w 80 18 (wn w 80 18)) h := by rw [sn_self]; exact W
  have hl := seenG_le (V := V) (fog := fog) (come := come) (x := wn w 80 18) m
  refine WP.enter kX7_comes (Nat.le_of_ble_eq_true rfl) (fun J hJ => ?_)
  have hcs : c = 0 ∨ c = 1 ∨ c = 2 ∨ c = 3 ∨ c = 4 ∨ c = 5 ∨ c = 6 ∨ c = 7 ∨ c = 8 ∨ c = 9 ∨ c = 10 := by omega
  rcases hcs with rfl | rfl | rfl | rfl | rfl | rfl | rfl | rfl | rfl | rfl | rfl
  · refine hJ 0 _ _ rfl _ _ _ _ (x_aload rfl (x_iload rfl (x_sipush (x_cv rfl (Nat.le_of_ble_eq_true rfl) (isO_W W (by decide) shp_80) (c7_of W hK rfl rfl (by omega) (by decide) (xk_go (x_istore rfl (x_aload rfl (x_iload rfl (x_sipush (x_cv rfl (Nat.le_of_ble_eq_true rfl) (isO_W W (by decide) shp_80) (c7_of W hK rfl rfl (by omega) (by decide) (xk_go (x_ts (b := 1) (by rw [f1, hc]; rfl) (hJ 1 _ _ rfl _ _ _ _ (x_sipush (x_iret (by first | exact nrwB _ | rfl | decide) ?_)))))))))))))))))
    have e : comesG V p fog m (come, wn w 80 18) = (true, wn w 80 18) := by unfold comesG; simp (decide := true) only [hc, if_true, if_false]
    rw [e] at kk
    have kk := kk h hW0
    exact kk
  · refine hJ 0 _ _ rfl _ _ _ _ (x_aload rfl (x_iload rfl (x_sipush (x_cv rfl (Nat.le_of_ble_eq_true rfl) (isO_W W (by decide) shp_80) (c7_of W hK rfl rfl (by omega) (by decide) (xk_go (x_istore rfl (x_aload rfl (x_iload rfl (x_sipush (x_cv rfl (Nat.le_of_ble_eq_true rfl) (isO_W W (by decide) shp_80) (c7_of W hK rfl rfl (by omega) (by decide) (xk_go (x_ts (b := 2) (by rw [f1, hc]; rfl) (hJ 2 _ _ rfl _ _ _ _ (x_sipush (x_iret (by first | exact nrwB _ | rfl | decide) ?_)))))))))))))))))
    have e : comesG V p fog m (come, wn w 80 18) = (false, wn w 80 18) := by unfold comesG; simp (decide := true) only [hc, if_true, if_false]
    rw [e] at kk
    have kk := kk h hW0
    exact kk
  · refine hJ 0 _ _ rfl _ _ _ _ (x_aload rfl (x_iload rfl (x_sipush (x_cv rfl (Nat.le_of_ble_eq_true rfl) (isO_W W (by decide) shp_80) (c7_of W hK rfl rfl (by omega) (by decide) (xk_go (x_istore rfl (x_aload rfl (x_iload rfl (x_sipush (x_cv rfl (Nat.le_of_ble_eq_true rfl) (isO_W W (by decide) shp_80) (c7_of W hK rfl rfl (by omega) (by decide) (xk_go (x_ts (b := 3) (by rw [f1, hc]; rfl) (hJ 3 _ _ rfl _ _ _ _ (x_iload rfl (x_iload rfl (x_cs rfl (Nat.le_of_ble_eq_true rfl) (c7_has rfl (by omega) (xk_go (x_iret (by first | exact nrwB _ | rfl | decide) ?_)))))))))))))))))))))
    have e : comesG V p fog m (come, wn w 80 18) = (hb (lastP p) m, wn w 80 18) := by unfold comesG; simp (decide := true) only [hc, if_true, if_false]
    rw [e] at kk
    have kk := kk h hW0
    exact kk
  · refine hJ 0 _ _ rfl _ _ _ _ (x_aload rfl (x_iload rfl (x_sipush (x_cv rfl (Nat.le_of_ble_eq_true rfl) (isO_W W (by decide) shp_80) (c7_of W hK rfl rfl (by omega) (by decide) (xk_go (x_istore rfl (x_aload rfl (x_iload rfl (x_sipush (x_cv rfl (Nat.le_of_ble_eq_true rfl) (isO_W W (by decide) shp_80) (c7_of W hK rfl rfl (by omega) (by decide) (xk_go (x_ts (b := 4) (by rw [f1, hc]; rfl) (hJ 4 _ _ rfl _ _ _ _ (x_iload rfl (x_iload rfl (x_cs rfl (Nat.le_of_ble_eq_true rfl) (c7_has rfl (by omega) (xk_go (x_br (fun q1 => have q1 := bI_ne0.mp q1; hJ 5 _ _ rfl _ _ _ _ (x_sipush (x_goto (hJ 6 _ _ rfl _ _ _ _ (x_iret (by first | exact nrwB _ | rfl | decide) ?_))))) (fun q1 => have q1 := bI_nn q1; x_sipush (x_goto (hJ 6 _ _ rfl _ _ _ _ (x_iret (by first | exact nrwB _ | rfl | decide) ?_)))))))))))))))))))))))))
    · have e : comesG V p fog m (come, wn w 80 18) = (!hb (lastP p) m, wn w 80 18) := by unfold comesG; simp (decide := true) only [hc, if_true, if_false]
      rw [e] at kk
      have kk := kk h hW0
      rw [q1] at kk
      exact kk
    · have e : comesG V p fog m (come, wn w 80 18) = (!hb (lastP p) m, wn w 80 18) := by unfold comesG; simp (decide := true) only [hc, if_true, if_false]
      rw [e] at kk
      have kk := kk h hW0
      rw [q1] at kk
      exact kk
  · refine hJ 0 _ _ rfl _ _ _ _ (x_aload rfl (x_iload rfl (x_sipush (x_cv rfl (Nat.le_of_ble_eq_true rfl) (isO_W W (by decide) shp_80) (c7_of W hK rfl rfl (by omega) (by decide) (xk_go (x_istore rfl (x_aload rfl (x_iload rfl (x_sipush (x_cv rfl (Nat.le_of_ble_eq_true rfl) (isO_W W (by decide) shp_80) (c7_of W hK rfl rfl (by omega) (by decide) (xk_go (x_ts (b := 7) (by rw [f1, hc]; rfl) (hJ 7 _ _ rfl _ _ _ _ (x_iload rfl (x_cs rfl (Nat.le_of_ble_eq_true rfl) (c7_size hlast (xk_go (x_iload rfl (x_br2 (fun q1 => have q1 := cy_ge q1; hJ 8 _ _ rfl _ _ _ _ (x_sipush (x_goto (hJ 9 _ _ rfl _ _ _ _ (x_iret (by first | exact nrwB _ | rfl | decide) ?_))))) (fun q1 => have q1 := cn_ge q1; x_sipush (x_goto (hJ 9 _ _ rfl _ _ _ _ (x_iret (by first | exact nrwB _ | rfl | decide) ?_)))))))))))))))))))))))))
    · have e : comesG V p fog m (come, wn w 80 18) = (decide (kI (pc (lastP p) : Int) < vN V m), wn w 80 18) := by unfold comesG; simp (decide := true) only [hc, if_true, if_false]
      rw [e] at kk
      have kk := kk h hW0
      rw [f2] at q1
      rw [decide_eq_false (Int32.not_lt.mpr q1)] at kk
      exact kk
    · have e : comesG V p fog m (come, wn w 80 18) = (decide (kI (pc (lastP p) : Int) < vN V m), wn w 80 18) := by unfold comesG; simp (decide := true) only [hc, if_true, if_false]
      rw [e] at kk
      have kk := kk h hW0
      rw [f2] at q1
      rw [decide_eq_true q1] at kk
      exact kk
  · refine hJ 0 _ _ rfl _ _ _ _ (x_aload rfl (x_iload rfl (x_sipush (x_cv rfl (Nat.le_of_ble_eq_true rfl) (isO_W W (by decide) shp_80) (c7_of W hK rfl rfl (by omega) (by decide) (xk_go (x_istore rfl (x_aload rfl (x_iload rfl (x_sipush (x_cv rfl (Nat.le_of_ble_eq_true rfl) (isO_W W (by decide) shp_80) (c7_of W hK rfl rfl (by omega) (by decide) (xk_go (x_ts (b := 10) (by rw [f1, hc]; rfl) (hJ 10 _ _ rfl _ _ _ _ (x_iload rfl (x_cs rfl (Nat.le_of_ble_eq_true rfl) (c7_size hlast (xk_go (x_iload rfl (x_br2 (fun q1 => have q1 := cy_le q1; hJ 11 _ _ rfl _ _ _ _ (x_sipush (x_goto (hJ 12 _ _ rfl _ _ _ _ (x_iret (by first | exact nrwB _ | rfl | decide) ?_))))) (fun q1 => have q1 := cn_le q1; x_sipush (x_goto (hJ 12 _ _ rfl _ _ _ _ (x_iret (by first | exact nrwB _ | rfl | decide) ?_)))))))))))))))))))))))))
    · have e : comesG V p fog m (come, wn w 80 18) = (decide (vN V m < kI (pc (lastP p) : Int)), wn w 80 18) := by unfold comesG; simp (decide := true) only [hc, if_true, if_false]
      rw [e] at kk
      have kk := kk h hW0
      rw [f2] at q1
      rw [decide_eq_false (Int32.not_lt.mpr q1)] at kk
      exact kk
    · have e : comesG V p fog m (come, wn w 80 18) = (decide (vN V m < kI (pc (lastP p) : Int)), wn w 80 18) := by unfold comesG; simp (decide := true) only [hc, if_true, if_false]
      rw [e] at kk
      have kk := kk h hW0
      rw [f2] at q1
      rw [decide_eq_true q1] at kk
      exact kk
  · have h61 : 1 ≤ nN V m := by
      have := h6 hc
      unfold nN
      omega
    have hmod := Nat.mod_lt p.2 (show nN V m > 0 by omega)
    refine hJ 0 _ _ rfl _ _ _ _ (x_aload rfl (x_iload rfl (x_sipush (x_cv rfl (Nat.le_of_ble_eq_true rfl) (isO_W W (by decide) shp_80) (c7_of W hK rfl rfl (by omega) (by decide) (xk_go (x_istore rfl (x_aload rfl (x_iload rfl (x_sipush (x_cv rfl (Nat.le_of_ble_eq_true rfl) (isO_W W (by decide) shp_80) (c7_of W hK rfl rfl (by omega) (by decide) (xk_go (x_ts (b := 13) (by rw [f1, hc]; rfl) (hJ 13 _ _ rfl _ _ _ _ (x_iload rfl (x_iload rfl (x_irem (fun z => by rw [f2, hnum.1, kN_eq0 (by omega)] at z; omega) (x_br (fun q1 => have q1 := cy_ne q1; hJ 14 _ _ rfl _ _ _ _ (x_sipush (x_goto (hJ 15 _ _ rfl _ _ _ _ (x_iret (by first | exact nrwB _ | rfl | decide) ?_))))) (fun q1 => have q1 := cn_ne q1; x_sipush (x_goto (hJ 15 _ _ rfl _ _ _ _ (x_iret (by first | exact nrwB _ | rfl | decide) ?_)))))))))))))))))))))))
    · have e : comesG V p fog m (come, wn w 80 18) = (decide (p.2 % nN V m = 0), wn w 80 18) := by unfold comesG; simp (decide := true) only [hc, if_true, if_false]
      rw [e] at kk
      have kk := kk h hW0
      rw [f2, hnum.1, kN_rem (by omega) (by omega), kN_eq0 (by omega)] at q1
      rw [decide_eq_false q1] at kk
      exact kk
    · have e : comesG V p fog m (come, wn w 80 18) = (decide (p.2 % nN V m = 0), wn w 80 18) := by unfold comesG; simp (decide := true) only [hc, if_true, if_false]
      rw [e] at kk
      have kk := kk h hW0
      rw [f2, hnum.1, kN_rem (by omega) (by omega), kN_eq0 (by omega)] at q1
      rw [decide_eq_true q1] at kk
      exact kk
  · have e : comesG V p fog m (come, wn w 80 18) = (decide (kI ((seenG V fog come (wn w 80 18) m).1 : Int) < vN V m), (seenG V fog come (wn w 80 18) m).2) := by unfold comesG bySee; simp (decide := true) only [hc, if_true, if_false]
    rw [e] at kk
    refine hJ 0 _ _ rfl _ _ _ _ (x_aload rfl (x_iload rfl (x_sipush (x_cv rfl (Nat.le_of_ble_eq_true rfl) (isO_W W (by decide) shp_80) (c7_of W hK rfl rfl (by omega) (by decide) (xk_go (x_istore rfl (x_aload rfl (x_iload rfl (x_sipush (x_cv rfl (Nat.le_of_ble_eq_true rfl) (isO_W W (by decide) shp_80) (c7_of W hK rfl rfl (by omega) (by decide) (xk_go (x_ts (b := 16) (by rw [f1, hc]; rfl) (hJ 16 _ _ rfl _ _ _ _ (x_aload rfl (x_iload rfl (x_iload rfl (x_iload rfl (x_cv rfl (Nat.le_of_ble_eq_true rfl) (isO_W W (by decide) shp_80) (c7_seen W hK hV rfl (Nat.le_of_lt hm) (fun h1 W1 => xk_go (x_iload rfl (x_br2 (fun q1 => have q1 := cy_ge q1; hJ 17 _ _ rfl _ _ _ _ (x_sipush (x_goto (hJ 18 _ _ rfl _ _ _ _ (x_iret (by first | exact nrwB _ | rfl | decide) ?_))))) (fun q1 => have q1 := cn_ge q1; x_sipush (x_goto (hJ 18 _ _ rfl _ _ _ _ (x_iret (by first | exact nrwB _ | rfl | decide) ?_))))))))))))))))))))))))))))
    · rw [f2] at q1
      rw [decide_eq_false (Int32.not_lt.mpr q1)] at kk
      exact kk _ W1
    · rw [f2] at q1
      rw [decide_eq_true q1] at kk
      exact kk _ W1
  · have e : comesG V p fog m (come, wn w 80 18) = (decide (kI ((seenG V fog come (wn w 80 18) m).1 : Int) = vN V m), (seenG V fog come (wn w 80 18) m).2) := by unfold comesG bySee; simp (decide := true) only [hc, if_true, if_false]
    rw [e] at kk
    refine hJ 0 _ _ rfl _ _ _ _ (x_aload rfl (x_iload rfl (x_sipush (x_cv rfl (Nat.le_of_ble_eq_true rfl) (isO_W W (by decide) shp_80) (c7_of W hK rfl rfl (by omega) (by decide) (xk_go (x_istore rfl (x_aload rfl (x_iload rfl (x_sipush (x_cv rfl (Nat.le_of_ble_eq_true rfl) (isO_W W (by decide) shp_80) (c7_of W hK rfl rfl (by omega) (by decide) (xk_go (x_ts (b := 19) (by rw [f1, hc]; rfl) (hJ 19 _ _ rfl _ _ _ _ (x_aload rfl (x_iload rfl (x_iload rfl (x_iload rfl (x_cv rfl (Nat.le_of_ble_eq_true rfl) (isO_W W (by decide) shp_80) (c7_seen W hK hV rfl (Nat.le_of_lt hm) (fun h1 W1 => xk_go (x_iload rfl (x_br2 (fun q1 => have q1 := cy_ne q1; hJ 20 _ _ rfl _ _ _ _ (x_sipush (x_goto (hJ 21 _ _ rfl _ _ _ _ (x_iret (by first | exact nrwB _ | rfl | decide) ?_))))) (fun q1 => have q1 := cn_ne q1; x_sipush (x_goto (hJ 21 _ _ rfl _ _ _ _ (x_iret (by first | exact nrwB _ | rfl | decide) ?_))))))))))))))))))))))))))))
    · rw [f2] at q1
      rw [decide_eq_false q1] at kk
      exact kk _ W1
    · rw [f2] at q1
      rw [decide_eq_true q1] at kk
      exact kk _ W1
  · have h91 : nN V m ≤ 6 := by
      have := h9 hc
      unfold nN
      omega
    refine hJ 0 _ _ rfl _ _ _ _ (x_aload rfl (x_iload rfl (x_sipush (x_cv rfl (Nat.le_of_ble_eq_true rfl) (isO_W W (by decide) shp_80) (c7_of W hK rfl rfl (by omega) (by decide) (xk_go (x_istore rfl (x_aload rfl (x_iload rfl (x_sipush (x_cv rfl (Nat.le_of_ble_eq_true rfl) (isO_W W (by decide) shp_80) (c7_of W hK rfl rfl (by omega) (by decide) (xk_go (x_ts (b := 22) (by rw [f1, hc]; rfl) (hJ 22 _ _ rfl _ _ _ _ (x_aload rfl (x_iload rfl (x_iload rfl (x_cv rfl (Nat.le_of_ble_eq_true rfl) (isO_W W (by decide) shp_80) (c7_thoughts W hK hV hlast (f2.trans hnum.1) (by omega) (xk_go (x_iload rfl (x_cs rfl (Nat.le_of_ble_eq_true rfl) (c7_has rfl (by omega) (xk_go (x_iret (by first | exact nrwB _ | rfl | decide) ?_))))))))))))))))))))))))))
    have e : comesG V p fog m (come, wn w 80 18) = (hb (thoughtsV V (lastP p) (nN V m)) m, wn w 80 18) := by unfold comesG; simp (decide := true) only [hc, if_true, if_false]
    rw [e] at kk
    have kk := kk h hW0
    exact kk
  · have e : comesG V p fog m (come, wn w 80 18) = (decide (0 < lrnV V p m), wn w 80 18) := by unfold comesG; simp (decide := true) only [hc, if_true, if_false]
    rw [e] at kk
    have kk := kk h hW0
    exact hJ 0 _ _ rfl _ _ _ _ (x_aload rfl (x_iload rfl (x_sipush (x_cv rfl (Nat.le_of_ble_eq_true rfl) (isO_W W (by decide) shp_80) (c7_of W hK rfl rfl (by omega) (by decide) (xk_go (x_istore rfl (x_aload rfl (x_iload rfl (x_sipush (x_cv rfl (Nat.le_of_ble_eq_true rfl) (isO_W W (by decide) shp_80) (c7_of W hK rfl rfl (by omega) (by decide) (xk_go (x_ts (b := 23) (by rw [f1, hc]; rfl) (hJ 23 _ _ rfl _ _ _ _ (x_aload rfl (x_iload rfl (x_cv rfl (Nat.le_of_ble_eq_true rfl) (isO_W W (by decide) shp_80) (c7_learns W hK hV hr hp rfl hm (xk_go (x_iret (by first | exact nrwB _ | rfl | decide) kk)))))))))))))))))))))
theorem c7_goes {y z : Int32} (W : WW ad w h) (hK : wa w 81 = V) (hV : VOK V) (hr : PR w p) (hp : POK V p) (hy : y = lastP p) (hz : z = kI (p.2 : Int)) (kk : ∀ h', WW ad (sn w 80 18 (goesG V p fog (wn w 80 18)).2) h' → P (.inl (some (.int (goesG V p fog (wn w 80 18)).1))) h') : WP ga L xs (d + 6) 176 [.ref (ad 80), .int y, .int z, .int (bI fog)] h P := by
  have hn := hV.n.2
  refine WP.enter kX7_goes (Nat.le_of_ble_eq_true rfl) (fun J hJ => ?_)
  have loop : ∀ m, m ≤ nm V → ∀ h', WW ad (sn w 80 18 (fo (goesF V p fog) (kI 0, wn w 80 18) m).2) h' → J 1 [some (.ref (ad 80)), some (.int y), some (.int z), some (.int (bI fog)), some (.int (fo (goesF V p fog) (kI 0, wn w 80 18) m).1), some (.int (kI (m : Int)))] [] h' (0, 0) := up_ind (fun m hm ih h0 W0 => ?_)
  · refine hJ 0 _ _ rfl _ _ _ _ (x_sipush (x_istore rfl (x_sipush (x_istore rfl (x_goto (?_))))))
    exact loop 0 (Nat.zero_le _) h (by show WW ad (sn w 80 18 (wn w 80 18)) h; rw [sn_self]; exact W)
  have hs0 := sok_goes (V := V) (p := p) (fog := fog) (x := wn w 80 18) hn m hm
  have hr0 : PR (sn w 80 18 (fo (goesF V p fog) (kI 0, wn w 80 18) m).2) p := hr
  have ec : m < nm V → fo (goesF V p fog) (kI 0, wn w 80 18) (m + 1) = ((fo (goesF V p fog) (kI 0, wn w 80 18) m).1 ||| (if (comesG V p fog m (fo (goesF V p fog) (kI 0, wn w 80 18) m)).1 = true then b1 m else kI 0), (comesG V p fog m (fo (goesF V p fog) (kI 0, wn w 80 18) m)).2) := fun _ => rfl
  have ew : ∀ x : Int32, wn (sn w 80 18 x) 80 18 = x := fun x => by rw [wn_sn, if_pos ⟨rfl, rfl⟩]
  refine hJ 1 _ _ rfl _ _ _ _ (x_iload rfl (x_aload rfl (x_cv rfl (Nat.le_of_ble_eq_true rfl) (isO_W W0 (by decide) shp_80) (c7_many W0 hK hV (xk_go (x_br2 (fun q1 => have q1 := ge_y rfl (by omega) q1; hJ 4 _ _ rfl _ _ _ _ (x_iload rfl (x_iret (nrwI _) ?_))) (fun q1 => have q1 := ge_n rfl (by omega) q1; x_iload rfl (x_aload rfl (x_iload rfl (x_iload rfl (x_iload rfl (x_iload rfl (x_iload rfl (x_cv rfl (Nat.le_of_ble_eq_true rfl) (isO_W W0 (by decide) shp_80) (c7_comes W0 hK hV hr0 hp rfl q1 hs0 hy hz (fun h1 W1 => xk_go (x_br (fun q2 => have q2 := bI_eq0.mp q2; hJ 2 _ _ rfl _ _ _ _ (x_sipush (x_goto (hJ 3 _ _ rfl _ _ _ _ (x_ior (x_istore rfl (x_iinc rfl rfl (x_goto (?_))))))))) (fun q2 => have q2 := bI_ne0.mp q2; x_sipush (x_iload rfl (x_shl1 (by omega) (x_goto (hJ 3 _ _ rfl _ _ _ _ (x_ior (x_istore rfl (x_iinc rfl rfl (x_goto (?_)))))))))))))))))))))))))))
  · have e : m = nm V := by omega
    subst e
    exact kk h0 W0
  · rw [ew] at q2 W1
    rw [sn_sn] at W1
    have q2 : (comesG V p fog m (fo (goesF V p fog) (kI 0, wn w 80 18) m)).1 = false := q2
    have ec := ec q1
    rw [q2] at ec
    refine J_c (ih q1 h1 (by rw [ec]; exact W1)) ?_
    rw [ec]
    simp only [sI, kN_succ]
    rfl
  · rw [ew] at q2 W1
    rw [sn_sn] at W1
    have q2 : (comesG V p fog m (fo (goesF V p fog) (kI 0, wn w 80 18) m)).1 = true := q2
    have ec := ec q1
    rw [q2] at ec
    refine J_c (ih q1 h1 (by rw [ec]; exact W1)) ?_
    rw [ec]
    simp only [sI, kN_succ]
    rfl
theorem c7_lays (W : WW ad w h) (hK : wa w 81 = V) (hV : VOK V) (kk : ∀ h' w', WW ad w' h' → kp [80, 86] w w' → kf [17] w w' → PR w' (startP V) → P (.inl none) h') : WP ga L xs (d + 1) 168 [.ref (ad 80)] h P := by
  have hw := hV.w.2
  refine WP.enter kX7_lays (Nat.le_of_ble_eq_true rfl) (fun J hJ => ?_)
  have e5 : wa w 81 5 = kI (wk V : Int) := by rw [hK]; exact hV.w.1
  have loop : ∀ m, m ≤ wk V → ∀ h' w', WW ad w' h' → kp [80, 86] w w' → kf [17] w w' → PR w' (vS V, m) ∨ (wn w' 80 17 = kI (wk V : Int) ∧ ∀ j, j < m → wa w' 86 j = vS V j) → (wn w' 80 17 = kI (wk V : Int) ∧ ∀ j, j < m → wa w' 86 j = vS V j) → J 1 [some (.ref (ad 80)), some (.int (kI (m : Int)))] [] h' (0, 0) := up_ind (fun m hm ih h0 w0 W0 k1 k2 _ hr => ?_)
  · refine hJ 0 _ _ rfl _ _ _ _ (x_aload rfl (x_aload rfl (w_getr W 7 0 (t := 81) (by decide) shp_80 rfl rfl rfl (x_sipush (w_iald W 5 (by decide) shp_81 rfl (by decide) (by decide) (w_puti W 7 17 (by decide) shp_80 rfl rfl (okI rfl) (fun h1 W1 => x_sipush (x_istore rfl (x_goto (?_))))))))))
    rw [e5] at W1
    refine loop 0 (Nat.zero_le _) _ _ W1 (kp_sn (by simp)) (kf_sn (by simp)) (Or.inr ⟨?_, fun j hj => by omega⟩) ⟨?_, fun j hj => by omega⟩
    · rw [wn_sn, if_pos ⟨rfl, rfl⟩]
    · rw [wn_sn, if_pos ⟨rfl, rfl⟩]
  have e81 : wa w0 81 = V := by rw [(k1 81 (by simp)).2.2.1]; exact hK
  refine hJ 1 _ _ rfl _ _ _ _ (x_iload rfl (x_aload rfl (w_geti W0 7 17 (by decide) shp_80 rfl rfl (x_br2 (fun q1 => have q1 := ge_y hr.1 (by omega) q1; hJ 2 _ _ rfl _ _ _ _ (x_vret rfl ?_)) (fun q1 => have q1 := ge_n hr.1 (by omega) q1; x_aload rfl (w_getr W0 7 16 (t := 86) (by decide) shp_80 rfl rfl rfl (x_iload rfl (x_aload rfl (w_getr W0 7 0 (t := 81) (by decide) shp_80 rfl rfl rfl (x_sipush (x_iload rfl (x_iadd (w_iald W0 (54 + m) (by decide) shp_81 (came_ix m) (by omega) (by decide) (w_iast W0 _ (by decide) shp_86 rfl (by omega) (by decide) (fun h1 W1 => x_iinc rfl rfl (x_goto (?_)))))))))))))))))
  · have e : m = wk V := by omega
    subst e
    exact kk h0 _ W0 k1 k2 hr
  · have hr2 : wn (sa w0 86 (upd (wa w0 86) m (wa w0 81 (54 + m)))) 80 17 = kI (wk V : Int) ∧ ∀ j, j < m + 1 → wa (sa w0 86 (upd (wa w0 86) m (wa w0 81 (54 + m)))) 86 j = vS V j := by
      refine ⟨hr.1, fun j hj => ?_⟩
      rw [wa_self]
      by_cases e : j = m
      · rw [e, upd_self, e81]
        rfl
      · rw [upd_ne e]
        exact hr.2 j (by omega)
    refine J_c (ih q1 h1 _ W1 (k1.trans (kp_sa (by simp))) (k2.trans kf_sa) (Or.inr hr2) hr2) ?_
    simp only [sI, kN_succ]
theorem c7_goesOn (W : WW ad w h) (hK : wa w 81 = V) (hV : VOK V) (hr : PR w p) (hp : POK V p) (hp2 : p.2 < 470) (kk : ∀ h' w', WW ad w' h' → kp [80, 86] w w' → kf [17] w w' → PR w' (goP V p) → P (.inl (some (.int (nextP V p)))) h') : WP ga L xs (d + 7) 169 [.ref (ad 80)] h P := by
  have hn := hV.n.2
  have hg : goesG V p false (wn w 80 18) = (nextP V p, wn w 80 18) := goes_nofog
  refine WP.enter kX7_goesOn (Nat.le_of_ble_eq_true rfl) (fun J hJ => ?_)
  refine hJ 0 _ _ rfl _ _ _ _ (x_aload rfl (x_aload rfl (w_geti W 7 17 (by decide) shp_80 rfl rfl (x_br (fun q1 => have q1 := ne0_n hr.1 (by omega) q1; hJ 1 _ _ rfl _ _ _ _ (x_aload rfl (w_getr W 7 16 (t := 86) (by decide) shp_80 rfl rfl rfl (x_aload rfl (w_geti W 7 17 (by decide) shp_80 rfl rfl (x_sipush (x_isub (w_iald W (p.2 - 1) (by decide) shp_86 (by rw [hr.1]; exact kN_pred q1) (by omega) (by decide) (x_goto (hJ 2 _ _ rfl _ _ _ _ (x_aload rfl (w_geti W 7 17 (by decide) shp_80 rfl rfl (x_sipush (x_cv rfl (Nat.le_of_ble_eq_true rfl) (isO_W W (by decide) shp_80) (c7_goes (fog := false) W hK hV hr hp (by unfold lastP; first | (rw [if_pos (by omega)]; exact hr.2 _ (by omega)) | (rw [if_neg (by omega)])) hr.1 (fun h1 W1 => xk_go (x_istore rfl (x_aload rfl (w_getr W1 7 16 (t := 86) (by decide) shp_80 rfl rfl rfl (x_aload rfl (w_geti W1 7 17 (by decide) shp_80 rfl rfl (x_iload rfl (w_iast W1 p.2 (by decide) shp_86 hr.1 (by omega) (by decide) (fun h2 W2 => x_aload rfl (x_dupr (w_geti W2 7 17 (by decide) shp_80 rfl rfl (x_sipush (x_iadd (w_puti W2 7 17 (by decide) shp_80 rfl rfl (okI rfl) (fun h3 W3 => x_iload rfl (x_iret (nrwI _) ?_))))))))))))))))))))))))))))))) (fun q1 => have q1 := eq0_n hr.1 (by omega) (cn_ne q1); x_sipush (x_goto (hJ 2 _ _ rfl _ _ _ _ (x_aload rfl (w_geti W 7 17 (by decide) shp_80 rfl rfl (x_sipush (x_cv rfl (Nat.le_of_ble_eq_true rfl) (isO_W W (by decide) shp_80) (c7_goes (fog := false) W hK hV hr hp (by unfold lastP; first | (rw [if_pos (by omega)]; exact hr.2 _ (by omega)) | (rw [if_neg (by omega)])) hr.1 (fun h4 W4 => xk_go (x_istore rfl (x_aload rfl (w_getr W4 7 16 (t := 86) (by decide) shp_80 rfl rfl rfl (x_aload rfl (w_geti W4 7 17 (by decide) shp_80 rfl rfl (x_iload rfl (w_iast W4 p.2 (by decide) shp_86 hr.1 (by omega) (by decide) (fun h5 W5 => x_aload rfl (x_dupr (w_geti W5 7 17 (by decide) shp_80 rfl rfl (x_sipush (x_iadd (w_puti W5 7 17 (by decide) shp_80 rfl rfl (okI rfl) (fun h6 W6 => x_iload rfl (x_iret (nrwI _) ?_))))))))))))))))))))))))))))
  · simp only [hg, sn_self] at W3
    rw [hg]
    refine kk _ _ W3 ((kp_sa (by simp)).trans (kp_sn (by simp))) (kf_sa.trans (kf_sn (by simp))) ⟨?_, fun j hj => ?_⟩
    · show wn w 80 17 + kI 1 = _
      rw [hr.1, kN_succ]
      rfl
    · rw [wa_sn, wa_self]
      show upd (wa w 86) p.2 (nextP V p) j = upd p.1 p.2 (nextP V p) j
      by_cases e : j = p.2
      · rw [e, upd_self, upd_self]
      · rw [upd_ne e, upd_ne e]
        exact hr.2 j (by have : j < p.2 + 1 := hj; omega)
  · simp only [hg, sn_self] at W6
    rw [hg]
    refine kk _ _ W6 ((kp_sa (by simp)).trans (kp_sn (by simp))) (kf_sa.trans (kf_sn (by simp))) ⟨?_, fun j hj => ?_⟩
    · show wn w 80 17 + kI 1 = _
      rw [hr.1, kN_succ]
      rfl
    · rw [wa_sn, wa_self]
      show upd (wa w 86) p.2 (nextP V p) j = upd p.1 p.2 (nextP V p) j
      by_cases e : j = p.2
      · rw [e, upd_self, upd_self]
      · rw [upd_ne e, upd_ne e]
        exact hr.2 j (by have : j < p.2 + 1 := hj; omega)
theorem c7_goesBy {s : Int32} (W : WW ad w h) (hK : wa w 81 = V) (hV : VOK V) (hw9 : wk V < 60) (kk : ∀ h' w', WW ad w' h' → w' = sa w 81 (upd (upd V (54 + wk V) s) 5 (kI ((wk V + 1 : Nat) : Int))) → P (.inl none) h') : WP ga L xs (d + 1) 177 [.ref (ad 80), .int s] h P := by
  have e5 : wa w 81 5 = kI (wk V : Int) := by rw [hK]; exact hV.w.1
  refine WP.enter kX7_goesBy (Nat.le_of_ble_eq_true rfl) (fun J hJ => ?_)
  refine hJ 0 _ _ rfl _ _ _ _ (x_aload rfl (w_getr W 7 0 (t := 81) (by decide) shp_80 rfl rfl rfl (x_sipush (x_aload rfl (w_getr W 7 0 (t := 81) (by decide) shp_80 rfl rfl rfl (x_sipush (w_iald W 5 (by decide) shp_81 rfl (by decide) (by decide) (x_iadd (x_iload rfl (w_iast W (54 + wk V) (by decide) shp_81 (by rw [e5]; exact came_ix _) (by omega) (by decide) (fun h1 W1 => x_aload rfl (w_getr W1 7 0 (t := 81) (by decide) shp_80 rfl rfl rfl (x_sipush (x_dup2 (w_iald W1 5 (by decide) shp_81 rfl (by decide) (by decide) (x_sipush (x_iadd (w_iast W1 5 (by decide) shp_81 rfl (by decide) (by decide) (fun h2 W2 => x_vret rfl ?_)))))))))))))))))))
  refine kk _ _ W2 ?_
  rw [wa_self, sa_sa, upd_ne (show 5 ≠ 54 + wk V by omega), e5, hK, kN_succ]
end M1
