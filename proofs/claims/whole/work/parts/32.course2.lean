/-! ===== the course: who comes ===== -/
def seenHG (V : VT) (fog : Bool) (hats x : Int32) : Nat × Int32 := if fog = true then seenH V hats x (nm V) else (pc hats, x)
theorem seenHG_eq {V : VT} {fog : Bool} {come x : Int32} {m : Nat} (hm : m ≤ nm V) (hn : nm V ≤ 12) : seenHG V fog (hatsV V come m) x = seenG V fog come x m := by
  unfold seenHG
  cases fog
  · rw [if_neg (by decide), seen0_eq, pc_hats (by omega)]
  · rw [if_pos rfl]
    exact seenH_eq2 (by omega) _ hm
section C1
variable {p : PT} {fog : Bool}
variable {ga : Nat → Nat} {L : Nat} {xs : Nat → Int32} {d : Nat} {h : ac_H} {P : ac_P} {ad : Nat → Nat} {w : Wst} {i : Nat} {V : VT}
theorem c_hatsSeen {hats : Int32} (W : WW ad w h) (hC : isC i) (hR : CR w i V) (hV : VOK V) (hr : wr w 40 0 = i) (hf : wn w 40 3 = bI fog) (hs : sok (nm V) hats) (kk : ∀ h', WW ad (sn w 40 4 (seenHG V fog hats (wn w 40 4)).2) h' → P (.inl (some (.int (kI ((seenHG V fog hats (wn w 40 4)).1 : Int))))) h') : WP ga L xs (d + 2) 38 [.ref (ad 40), .int hats] h P := by
  have hn := hV.n.2
  refine WP.enter kX1_hatsSeen (Nat.le_of_ble_eq_true rfl) (fun J hJ => ?_)
  unfold seenHG at kk
  cases fog
  · rw [if_neg (by decide)] at kk
    refine hJ 0 _ _ rfl _ _ _ _ (x_aload rfl (w_geti W 1 3 (by decide) shp_40 rfl rfl (x_br (fun b1 => absurd (show wn w 40 3 = 0 from by rw [hf]; rfl) b1) (fun b1 => have b1 := cn_ne b1; x_iload rfl (x_cs rfl (Nat.le_of_ble_eq_true rfl) (c_bitc hs (xk_go (x_iret (nrwI _) ?_))))))))
    exact kk h (by rw [sn_self]; exact W)
  · rw [if_pos rfl] at kk
    have hle : ∀ m, (seenH V hats (wn w 40 4) m).1 ≤ m := by
      intro m
      induction m with
      | zero => exact Nat.le_refl _
      | succ m ih =>
        unfold seenH
        split
        · split <;> simp <;> omega
        · omega
    have loop : ∀ m, m ≤ nm V → ∀ h', WW ad (sn w 40 4 (seenH V hats (wn w 40 4) m).2) h' → J 2 [some (.ref (ad 40)), some (.int hats), some (.int (kI ((seenH V hats (wn w 40 4) m).1 : Int))), some (.int (kI (m : Int)))] [] h' (0, 0) := up_ind (fun m hm ih h0 W0 => ?_)
    · refine hJ 0 _ _ rfl _ _ _ _ (x_aload rfl (w_geti W 1 3 (by decide) shp_40 rfl rfl (x_br (fun b1 => have b1 := cy_ne b1; hJ 1 _ _ rfl _ _ _ _ (x_sipush (x_istore rfl (x_sipush (x_istore rfl (x_goto (?_))))))) (fun b1 => absurd (cn_ne b1) (by rw [hf]; decide)))))
      exact loop 0 (Nat.zero_le _) h (by show WW ad (sn w 40 4 (wn w 40 4)) h; rw [sn_self]; exact W)
    have hR0 : CR (sn w 40 4 (seenH V hats (wn w 40 4) m).2) i V := hR.draw hC
    have hl := hle m
    refine hJ 2 _ _ rfl _ _ _ _ (x_iload rfl (x_aload rfl (w_getr W0 1 0 (t := i) (by decide) shp_40 rfl rfl hr (w_geti W0 0 4 hC.lt hC.sh rfl rfl (x_br2 (fun b1 => have b1 := ge_y (hR0.n hV) (by omega) b1; hJ 6 _ _ rfl _ _ _ _ (x_iload rfl (x_iret (nrwI _) ?_))) (fun b1 => have b1 := ge_n (hR0.n hV) (by omega) b1; x_aload rfl (w_getr W0 1 0 (t := i) (by decide) shp_40 rfl rfl hr (x_iload rfl (x_iload rfl (x_cv rfl (Nat.le_of_ble_eq_true rfl) (isO_W W0 hC.lt hC.sh) (c_has rfl (by omega) (xk_go (x_br (fun b2 => have b2 := bI_eq0.mp b2; hJ 5 _ _ rfl _ _ _ _ (x_iinc rfl rfl (x_goto (?_)))) (fun b2 => have b2 := bI_ne0.mp b2; x_aload rfl (x_sipush (x_aload rfl (w_geti W0 1 4 (by decide) shp_40 rfl rfl (x_imul (x_sipush (x_iadd (w_puti W0 1 4 (by decide) shp_40 rfl rfl (okI rfl) (fun h1 W1 => x_iload rfl (x_aload rfl (w_geti W1 1 4 (by decide) shp_40 rfl rfl (x_sipush (x_iushr (x_sipush (x_irem (by decide) (x_aload rfl (w_getr W1 1 0 (t := i) (by decide) shp_40 rfl rfl hr (w_geti W1 0 3 hC.lt hC.sh rfl rfl (x_br2 (fun b3 => have b3 := cy_ge b3; hJ 3 _ _ rfl _ _ _ _ (x_sipush (x_goto (hJ 4 _ _ rfl _ _ _ _ (x_iadd (x_istore rfl (x_goto (hJ 5 _ _ rfl _ _ _ _ (x_iinc rfl rfl (x_goto (?_))))))))))) (fun b3 => have b3 := cn_ge b3; x_sipush (x_goto (hJ 4 _ _ rfl _ _ _ _ (x_iadd (x_istore rfl (x_goto (hJ 5 _ _ rfl _ _ _ _ (x_iinc rfl rfl (x_goto (?_))))))))))))))))))))))))))))))))))))))))))
    · have e : m = nm V := by omega
      subst e
      exact kk h0 W0
    · have e : seenH V hats (wn w 40 4) (m + 1) = seenH V hats (wn w 40 4) m := by
        show (if hb hats m = true then _ else seenH V hats (wn w 40 4) m) = _
        rw [b2]
        rfl
      refine J_c (ih (by omega) h0 (by rw [e]; exact W0)) ?_
      rw [e]
      simp only [sI, kN_succ]
    · rw [(hR0.draw hC).1.2.2.2.1] at b3
      simp only [wn_sn, and_self, if_true] at b3 W1
      rw [sn_sn] at W1
      have e : seenH V hats (wn w 40 4) (m + 1) = ((seenH V hats (wn w 40 4) m).1 + 1, dnx (seenH V hats (wn w 40 4) m).2) := by
        show (if hb hats m = true then ((if dvl (dnx (seenH V hats (wn w 40 4) m).2) < V 3 then (seenH V hats (wn w 40 4) m).1 else (seenH V hats (wn w 40 4) m).1 + 1), dnx (seenH V hats (wn w 40 4) m).2) else _) = _
        have b3 : V 3 ≤ dvl (dnx (seenH V hats (wn w 40 4) m).2) := b3
        rw [b2, if_pos rfl, if_neg (Int32.not_lt.mpr b3)]
      refine J_c (ih (by omega) h1 (by rw [e]; exact W1)) ?_
      rw [e]
      simp only [sI, kN_succ]
    · rw [(hR0.draw hC).1.2.2.2.1] at b3
      simp only [wn_sn, and_self, if_true] at b3 W1
      rw [sn_sn] at W1
      have e : seenH V hats (wn w 40 4) (m + 1) = ((seenH V hats (wn w 40 4) m).1, dnx (seenH V hats (wn w 40 4) m).2) := by
        show (if hb hats m = true then ((if dvl (dnx (seenH V hats (wn w 40 4) m).2) < V 3 then (seenH V hats (wn w 40 4) m).1 else (seenH V hats (wn w 40 4) m).1 + 1), dnx (seenH V hats (wn w 40 4) m).2) else _) = _
        have b3 : dvl (dnx (seenH V hats (wn w 40 4) m).2) < V 3 := b3
        rw [b2, if_pos rfl, if_pos b3]
      refine J_c (ih (by omega) h1 (by rw [e]; exact W1)) ?_
      rw [e]
      simp only [sI, kN_succ, kI_zero, Int32.add_zero]
theorem c_comes {come x : Int32} {m : Nat} (W : WW ad w h) (hC : isC i) (hR : CR w i V) (hV : VOK V) (hco : CoR w i V p fog) (hp : POK V p) (hx : x = kI (m : Int)) (hm : m < nm V) (hs : sok (nm V) come) (kk : ∀ h', WW ad (sn w 40 4 (comesG V p fog m (come, wn w 40 4)).2) h' → P (.inl (some (.int (bI (comesG V p fog m (come, wn w 40 4)).1)))) h') : WP ga L xs (d + 3) 37 [.ref (ad 40), .int x, .int come] h P := by
  subst hx
  have hn := hV.n.2
  have hr := hco.1
  have hlast := hp.last hn
  obtain ⟨hR1, hN, -, -, h6, h9⟩ := hV.2.1 m hm
  obtain ⟨f1, f2, -⟩ := hR.2.1 m hm
  have hp2 := hp.1
  obtain ⟨c, hc, c1, c2⟩ := btw_k hR1
  have hnum : vN V m = kI (nN V m : Int) ∧ nN V m ≤ 12 := by
    refine ⟨?_, ?_⟩
    · unfold nN
      rw [Int.toNat_of_nonneg hN.1, kI_of]
    · unfold nN
      have := hN.2
      omega
  have hw2 : wn w 40 2 = lastP p := hco.2.2.1
  have hs2 : sok (nm V) (wn w 40 2) := by rw [hw2]; exact hlast
  have hW0 : WW ad (sn w 40 4 (wn w 40 4)) h := by rw [sn_self]; exact W
  refine WP.enter kX1_comes (Nat.le_of_ble_eq_true rfl) (fun J hJ => ?_)
  have hcs : c = 0 ∨ c = 1 ∨ c = 2 ∨ c = 3 ∨ c = 4 ∨ c = 5 ∨ c = 6 ∨ c = 7 ∨ c = 8 ∨ c = 9 ∨ c = 10 := by omega
  rcases hcs with rfl | rfl | rfl | rfl | rfl | rfl | rfl | rfl | rfl | rfl | rfl
  · refine hJ 0 _ _ rfl _ _ _ _ (x_aload rfl (w_getr W 1 0 (t := i) (by decide) shp_40 rfl rfl hr (w_getr W 0 11 (t := i + 2) hC.lt hC.sh rfl rfl (hC.rf2 _) (x_iload rfl (w_iald W _ hC.lt2 hC.sh2 rfl (by omega) (by decide) (x_istore rfl (x_aload rfl (w_getr W 1 0 (t := i) (by decide) shp_40 rfl rfl hr (w_getr W 0 10 (t := i + 1) hC.lt hC.sh rfl rfl (hC.rf1 _) (x_iload rfl (w_iald W _ hC.lt1 hC.sh1 rfl (by omega) (by decide) (x_ts (b := 1) (by rw [f1, hc]; rfl) (hJ 1 _ _ rfl _ _ _ _ (x_sipush (x_iret (by first | exact nrwB _ | rfl | decide) ?_)))))))))))))))
    have e : comesG V p fog m (come, wn w 40 4) = (true, wn w 40 4) := by unfold comesG; simp (decide := true) only [hc, if_true, if_false]
    rw [e] at kk
    have kk := kk h hW0
    exact kk
  · refine hJ 0 _ _ rfl _ _ _ _ (x_aload rfl (w_getr W 1 0 (t := i) (by decide) shp_40 rfl rfl hr (w_getr W 0 11 (t := i + 2) hC.lt hC.sh rfl rfl (hC.rf2 _) (x_iload rfl (w_iald W _ hC.lt2 hC.sh2 rfl (by omega) (by decide) (x_istore rfl (x_aload rfl (w_getr W 1 0 (t := i) (by decide) shp_40 rfl rfl hr (w_getr W 0 10 (t := i + 1) hC.lt hC.sh rfl rfl (hC.rf1 _) (x_iload rfl (w_iald W _ hC.lt1 hC.sh1 rfl (by omega) (by decide) (x_ts (b := 20) (by rw [f1, hc]; rfl) (hJ 20 _ _ rfl _ _ _ _ (x_sipush (x_iret (by first | exact nrwB _ | rfl | decide) ?_)))))))))))))))
    have e : comesG V p fog m (come, wn w 40 4) = (false, wn w 40 4) := by unfold comesG; simp (decide := true) only [hc, if_true, if_false]
    rw [e] at kk
    have kk := kk h hW0
    exact kk
  · refine hJ 0 _ _ rfl _ _ _ _ (x_aload rfl (w_getr W 1 0 (t := i) (by decide) shp_40 rfl rfl hr (w_getr W 0 11 (t := i + 2) hC.lt hC.sh rfl rfl (hC.rf2 _) (x_iload rfl (w_iald W _ hC.lt2 hC.sh2 rfl (by omega) (by decide) (x_istore rfl (x_aload rfl (w_getr W 1 0 (t := i) (by decide) shp_40 rfl rfl hr (w_getr W 0 10 (t := i + 1) hC.lt hC.sh rfl rfl (hC.rf1 _) (x_iload rfl (w_iald W _ hC.lt1 hC.sh1 rfl (by omega) (by decide) (x_ts (b := 2) (by rw [f1, hc]; rfl) (hJ 2 _ _ rfl _ _ _ _ (x_aload rfl (w_getr W 1 0 (t := i) (by decide) shp_40 rfl rfl hr (x_aload rfl (w_geti W 1 2 (by decide) shp_40 rfl rfl (x_iload rfl (x_cv rfl (Nat.le_of_ble_eq_true rfl) (isO_W W hC.lt hC.sh) (c_has rfl (by omega) (xk_go (x_iret (by first | exact nrwB _ | rfl | decide) ?_))))))))))))))))))))))
    have e : comesG V p fog m (come, wn w 40 4) = (hb (lastP p) m, wn w 40 4) := by unfold comesG; simp (decide := true) only [hc, if_true, if_false]
    rw [e] at kk
    have kk := kk h hW0
    rw [hw2]
    exact kk
  · refine hJ 0 _ _ rfl _ _ _ _ (x_aload rfl (w_getr W 1 0 (t := i) (by decide) shp_40 rfl rfl hr (w_getr W 0 11 (t := i + 2) hC.lt hC.sh rfl rfl (hC.rf2 _) (x_iload rfl (w_iald W _ hC.lt2 hC.sh2 rfl (by omega) (by decide) (x_istore rfl (x_aload rfl (w_getr W 1 0 (t := i) (by decide) shp_40 rfl rfl hr (w_getr W 0 10 (t := i + 1) hC.lt hC.sh rfl rfl (hC.rf1 _) (x_iload rfl (w_iald W _ hC.lt1 hC.sh1 rfl (by omega) (by decide) (x_ts (b := 3) (by rw [f1, hc]; rfl) (hJ 3 _ _ rfl _ _ _ _ (x_aload rfl (w_getr W 1 0 (t := i) (by decide) shp_40 rfl rfl hr (x_aload rfl (w_geti W 1 2 (by decide) shp_40 rfl rfl (x_iload rfl (x_cv rfl (Nat.le_of_ble_eq_true rfl) (isO_W W hC.lt hC.sh) (c_has rfl (by omega) (xk_go (x_br (fun b1 => have b1 := bI_ne0.mp b1; hJ 4 _ _ rfl _ _ _ _ (x_sipush (x_goto (hJ 5 _ _ rfl _ _ _ _ (x_iret (by first | exact nrwB _ | rfl | decide) ?_))))) (fun b1 => have b1 := bI_nn b1; x_sipush (x_goto (hJ 5 _ _ rfl _ _ _ _ (x_iret (by first | exact nrwB _ | rfl | decide) ?_))))))))))))))))))))))))))
    · have e : comesG V p fog m (come, wn w 40 4) = (!hb (lastP p) m, wn w 40 4) := by unfold comesG; simp (decide := true) only [hc, if_true, if_false]
      rw [e] at kk
      have kk := kk h hW0
      rw [hw2] at b1
      rw [b1] at kk
      exact kk
    · have e : comesG V p fog m (come, wn w 40 4) = (!hb (lastP p) m, wn w 40 4) := by unfold comesG; simp (decide := true) only [hc, if_true, if_false]
      rw [e] at kk
      have kk := kk h hW0
      rw [hw2] at b1
      rw [b1] at kk
      exact kk
  · refine hJ 0 _ _ rfl _ _ _ _ (x_aload rfl (w_getr W 1 0 (t := i) (by decide) shp_40 rfl rfl hr (w_getr W 0 11 (t := i + 2) hC.lt hC.sh rfl rfl (hC.rf2 _) (x_iload rfl (w_iald W _ hC.lt2 hC.sh2 rfl (by omega) (by decide) (x_istore rfl (x_aload rfl (w_getr W 1 0 (t := i) (by decide) shp_40 rfl rfl hr (w_getr W 0 10 (t := i + 1) hC.lt hC.sh rfl rfl (hC.rf1 _) (x_iload rfl (w_iald W _ hC.lt1 hC.sh1 rfl (by omega) (by decide) (x_ts (b := 6) (by rw [f1, hc]; rfl) (hJ 6 _ _ rfl _ _ _ _ (x_aload rfl (w_geti W 1 2 (by decide) shp_40 rfl rfl (x_cs rfl (Nat.le_of_ble_eq_true rfl) (c_bitc hs2 (xk_go (x_iload rfl (x_br2 (fun b1 => have b1 := cy_ge b1; hJ 7 _ _ rfl _ _ _ _ (x_sipush (x_goto (hJ 8 _ _ rfl _ _ _ _ (x_iret (by first | exact nrwB _ | rfl | decide) ?_))))) (fun b1 => have b1 := cn_ge b1; x_sipush (x_goto (hJ 8 _ _ rfl _ _ _ _ (x_iret (by first | exact nrwB _ | rfl | decide) ?_))))))))))))))))))))))))
    · have e : comesG V p fog m (come, wn w 40 4) = (decide (kI (pc (lastP p) : Int) < vN V m), wn w 40 4) := by unfold comesG; simp (decide := true) only [hc, if_true, if_false]
      rw [e] at kk
      have kk := kk h hW0
      rw [hw2, f2] at b1
      rw [decide_eq_false (Int32.not_lt.mpr b1)] at kk
      exact kk
    · have e : comesG V p fog m (come, wn w 40 4) = (decide (kI (pc (lastP p) : Int) < vN V m), wn w 40 4) := by unfold comesG; simp (decide := true) only [hc, if_true, if_false]
      rw [e] at kk
      have kk := kk h hW0
      rw [hw2, f2] at b1
      rw [decide_eq_true b1] at kk
      exact kk
  · refine hJ 0 _ _ rfl _ _ _ _ (x_aload rfl (w_getr W 1 0 (t := i) (by decide) shp_40 rfl rfl hr (w_getr W 0 11 (t := i + 2) hC.lt hC.sh rfl rfl (hC.rf2 _) (x_iload rfl (w_iald W _ hC.lt2 hC.sh2 rfl (by omega) (by decide) (x_istore rfl (x_aload rfl (w_getr W 1 0 (t := i) (by decide) shp_40 rfl rfl hr (w_getr W 0 10 (t := i + 1) hC.lt hC.sh rfl rfl (hC.rf1 _) (x_iload rfl (w_iald W _ hC.lt1 hC.sh1 rfl (by omega) (by decide) (x_ts (b := 9) (by rw [f1, hc]; rfl) (hJ 9 _ _ rfl _ _ _ _ (x_aload rfl (w_geti W 1 2 (by decide) shp_40 rfl rfl (x_cs rfl (Nat.le_of_ble_eq_true rfl) (c_bitc hs2 (xk_go (x_iload rfl (x_br2 (fun b1 => have b1 := cy_le b1; hJ 10 _ _ rfl _ _ _ _ (x_sipush (x_goto (hJ 11 _ _ rfl _ _ _ _ (x_iret (by first | exact nrwB _ | rfl | decide) ?_))))) (fun b1 => have b1 := cn_le b1; x_sipush (x_goto (hJ 11 _ _ rfl _ _ _ _ (x_iret (by first | exact nrwB _ | rfl | decide) ?_))))))))))))))))))))))))
    · have e : comesG V p fog m (come, wn w 40 4) = (decide (vN V m < kI (pc (lastP p) : Int)), wn w 40 4) := by unfold comesG; simp (decide := true) only [hc, if_true, if_false]
      rw [e] at kk
      have kk := kk h hW0
      rw [hw2, f2] at b1
      rw [decide_eq_false (Int32.not_lt.mpr b1)] at kk
      exact kk
    · have e : comesG V p fog m (come, wn w 40 4) = (decide (vN V m < kI (pc (lastP p) : Int)), wn w 40 4) := by unfold comesG; simp (decide := true) only [hc, if_true, if_false]
      rw [e] at kk
      have kk := kk h hW0
      rw [hw2, f2] at b1
      rw [decide_eq_true b1] at kk
      exact kk
  · have h61 : 1 ≤ nN V m := by
      have := h6 hc
      unfold nN
      omega
    have hmod := Nat.mod_lt p.2 (show nN V m > 0 by omega)
    refine hJ 0 _ _ rfl _ _ _ _ (x_aload rfl (w_getr W 1 0 (t := i) (by decide) shp_40 rfl rfl hr (w_getr W 0 11 (t := i + 2) hC.lt hC.sh rfl rfl (hC.rf2 _) (x_iload rfl (w_iald W _ hC.lt2 hC.sh2 rfl (by omega) (by decide) (x_istore rfl (x_aload rfl (w_getr W 1 0 (t := i) (by decide) shp_40 rfl rfl hr (w_getr W 0 10 (t := i + 1) hC.lt hC.sh rfl rfl (hC.rf1 _) (x_iload rfl (w_iald W _ hC.lt1 hC.sh1 rfl (by omega) (by decide) (x_ts (b := 12) (by rw [f1, hc]; rfl) (hJ 12 _ _ rfl _ _ _ _ (x_iload rfl (x_br (fun b1 => have b1 := cy_le b1; hJ 13 _ _ rfl _ _ _ _ (x_sipush (x_goto (hJ 14 _ _ rfl _ _ _ _ (x_iret (by first | exact nrwB _ | rfl | decide) ?_))))) (fun b1 => have b1 := cn_le b1; x_aload rfl (w_geti W 1 1 (by decide) shp_40 rfl rfl (x_iload rfl (x_irem (fun z => by rw [z] at b1; exact absurd b1 (by decide)) (x_br (fun b2 => have b2 := cy_ne b2; hJ 13 _ _ rfl _ _ _ _ (x_sipush (x_goto (hJ 14 _ _ rfl _ _ _ _ (x_iret (by first | exact nrwB _ | rfl | decide) ?_))))) (fun b2 => have b2 := cn_ne b2; x_sipush (x_goto (hJ 14 _ _ rfl _ _ _ _ (x_iret (by first | exact nrwB _ | rfl | decide) ?_))))))))))))))))))))))))
    · rw [f2, hnum.1, show (0 : Int32) = kI ((0 : Nat) : Int) from rfl, kN_le (by omega) (by omega)] at b1
      omega
    · have e : comesG V p fog m (come, wn w 40 4) = (decide (p.2 % nN V m = 0), wn w 40 4) := by unfold comesG; simp (decide := true) only [hc, if_true, if_false]
      rw [e] at kk
      have kk := kk h hW0
      rw [f2, hnum.1, hco.2.1, kN_rem (by omega) (by omega), kN_eq0 (by omega)] at b2
      rw [decide_eq_false b2] at kk
      exact kk
    · have e : comesG V p fog m (come, wn w 40 4) = (decide (p.2 % nN V m = 0), wn w 40 4) := by unfold comesG; simp (decide := true) only [hc, if_true, if_false]
      rw [e] at kk
      have kk := kk h hW0
      rw [f2, hnum.1, hco.2.1, kN_rem (by omega) (by omega), kN_eq0 (by omega)] at b2
      rw [decide_eq_true b2] at kk
      exact kk
  · have e : comesG V p fog m (come, wn w 40 4) = (bySee V m (kI ((seenG V fog come (wn w 40 4) m).1 : Int)), (seenG V fog come (wn w 40 4) m).2) := by unfold comesG; simp (decide := true) only [hc, if_true, if_false]
    rw [e, ← seenHG_eq (Nat.le_of_lt hm) hn] at kk
    exact hJ 0 _ _ rfl _ _ _ _ (x_aload rfl (w_getr W 1 0 (t := i) (by decide) shp_40 rfl rfl hr (w_getr W 0 11 (t := i + 2) hC.lt hC.sh rfl rfl (hC.rf2 _) (x_iload rfl (w_iald W _ hC.lt2 hC.sh2 rfl (by omega) (by decide) (x_istore rfl (x_aload rfl (w_getr W 1 0 (t := i) (by decide) shp_40 rfl rfl hr (w_getr W 0 10 (t := i + 1) hC.lt hC.sh rfl rfl (hC.rf1 _) (x_iload rfl (w_iald W _ hC.lt1 hC.sh1 rfl (by omega) (by decide) (x_ts (b := 15) (by rw [f1, hc]; rfl) (hJ 15 _ _ rfl _ _ _ _ (x_aload rfl (w_getr W 1 0 (t := i) (by decide) shp_40 rfl rfl hr (x_iload rfl (x_aload rfl (x_aload rfl (w_getr W 1 0 (t := i) (by decide) shp_40 rfl rfl hr (x_iload rfl (x_iload rfl (x_cv rfl (Nat.le_of_ble_eq_true rfl) (isO_W W hC.lt hC.sh) (c_hatsAhead W hC hR hV rfl hm (xk_go (x_cv rfl (Nat.le_of_ble_eq_true rfl) (isO_W W (by decide) shp_40) (c_hatsSeen W hC hR hV hr hco.2.2.2.1 (sok.mono (sok.mkS (by omega)) (Nat.le_of_lt hm) hn) (fun h1 W1 => xk_go (x_cv rfl (Nat.le_of_ble_eq_true rfl) (isO_W W1 hC.lt hC.sh) (c_comesBySeeing W1 hC (hR.draw hC) hV rfl hm (xk_go (x_iret (by first | exact nrwB _ | rfl | decide) (kk _ W1))))))))))))))))))))))))))))))))
  · have e : comesG V p fog m (come, wn w 40 4) = (bySee V m (kI ((seenG V fog come (wn w 40 4) m).1 : Int)), (seenG V fog come (wn w 40 4) m).2) := by unfold comesG; simp (decide := true) only [hc, if_true, if_false]
    rw [e, ← seenHG_eq (Nat.le_of_lt hm) hn] at kk
    exact hJ 0 _ _ rfl _ _ _ _ (x_aload rfl (w_getr W 1 0 (t := i) (by decide) shp_40 rfl rfl hr (w_getr W 0 11 (t := i + 2) hC.lt hC.sh rfl rfl (hC.rf2 _) (x_iload rfl (w_iald W _ hC.lt2 hC.sh2 rfl (by omega) (by decide) (x_istore rfl (x_aload rfl (w_getr W 1 0 (t := i) (by decide) shp_40 rfl rfl hr (w_getr W 0 10 (t := i + 1) hC.lt hC.sh rfl rfl (hC.rf1 _) (x_iload rfl (w_iald W _ hC.lt1 hC.sh1 rfl (by omega) (by decide) (x_ts (b := 15) (by rw [f1, hc]; rfl) (hJ 15 _ _ rfl _ _ _ _ (x_aload rfl (w_getr W 1 0 (t := i) (by decide) shp_40 rfl rfl hr (x_iload rfl (x_aload rfl (x_aload rfl (w_getr W 1 0 (t := i) (by decide) shp_40 rfl rfl hr (x_iload rfl (x_iload rfl (x_cv rfl (Nat.le_of_ble_eq_true rfl) (isO_W W hC.lt hC.sh) (c_hatsAhead W hC hR hV rfl hm (xk_go (x_cv rfl (Nat.le_of_ble_eq_true rfl) (isO_W W (by decide) shp_40) (c_hatsSeen W hC hR hV hr hco.2.2.2.1 (sok.mono (sok.mkS (by omega)) (Nat.le_of_lt hm) hn) (fun h1 W1 => xk_go (x_cv rfl (Nat.le_of_ble_eq_true rfl) (isO_W W1 hC.lt hC.sh) (c_comesBySeeing W1 hC (hR.draw hC) hV rfl hm (xk_go (x_iret (by first | exact nrwB _ | rfl | decide) (kk _ W1))))))))))))))))))))))))))))))))
  · have h91 : nN V m ≤ 6 := by
      have := h9 hc
      unfold nN
      omega
    refine hJ 0 _ _ rfl _ _ _ _ (x_aload rfl (w_getr W 1 0 (t := i) (by decide) shp_40 rfl rfl hr (w_getr W 0 11 (t := i + 2) hC.lt hC.sh rfl rfl (hC.rf2 _) (x_iload rfl (w_iald W _ hC.lt2 hC.sh2 rfl (by omega) (by decide) (x_istore rfl (x_aload rfl (w_getr W 1 0 (t := i) (by decide) shp_40 rfl rfl hr (w_getr W 0 10 (t := i + 1) hC.lt hC.sh rfl rfl (hC.rf1 _) (x_iload rfl (w_iald W _ hC.lt1 hC.sh1 rfl (by omega) (by decide) (x_ts (b := 16) (by rw [f1, hc]; rfl) (hJ 16 _ _ rfl _ _ _ _ (x_aload rfl (w_getr W 1 0 (t := i) (by decide) shp_40 rfl rfl hr (x_aload rfl (w_getr W 1 0 (t := i) (by decide) shp_40 rfl rfl hr (x_aload rfl (w_geti W 1 2 (by decide) shp_40 rfl rfl (x_iload rfl (x_cv rfl (Nat.le_of_ble_eq_true rfl) (isO_W W hC.lt hC.sh) (c_thoughts W hC hR hV hs2 (f2.trans hnum.1) (by omega) (xk_go (x_iload rfl (x_cv rfl (Nat.le_of_ble_eq_true rfl) (isO_W W hC.lt hC.sh) (c_has rfl (by omega) (xk_go (x_iret (by first | exact nrwB _ | rfl | decide) ?_))))))))))))))))))))))))))))
    have e : comesG V p fog m (come, wn w 40 4) = (hb (thoughtsV V (lastP p) (nN V m)) m, wn w 40 4) := by unfold comesG; simp (decide := true) only [hc, if_true, if_false]
    rw [e] at kk
    have kk := kk h hW0
    rw [hw2]
    exact kk
  · refine hJ 0 _ _ rfl _ _ _ _ (x_aload rfl (w_getr W 1 0 (t := i) (by decide) shp_40 rfl rfl hr (w_getr W 0 11 (t := i + 2) hC.lt hC.sh rfl rfl (hC.rf2 _) (x_iload rfl (w_iald W _ hC.lt2 hC.sh2 rfl (by omega) (by decide) (x_istore rfl (x_aload rfl (w_getr W 1 0 (t := i) (by decide) shp_40 rfl rfl hr (w_getr W 0 10 (t := i + 1) hC.lt hC.sh rfl rfl (hC.rf1 _) (x_iload rfl (w_iald W _ hC.lt1 hC.sh1 rfl (by omega) (by decide) (x_ts (b := 17) (by rw [f1, hc]; rfl) (hJ 17 _ _ rfl _ _ _ _ (x_aload rfl (w_getr W 1 5 (t := 41) (by decide) shp_40 rfl rfl rfl (x_iload rfl (w_iald W _ (by decide) shp_41 rfl (by omega) (by decide) (x_br (fun b1 => have b1 := cy_le b1; hJ 18 _ _ rfl _ _ _ _ (x_sipush (x_goto (hJ 19 _ _ rfl _ _ _ _ (x_iret (by first | exact nrwB _ | rfl | decide) ?_))))) (fun b1 => have b1 := cn_le b1; x_sipush (x_goto (hJ 19 _ _ rfl _ _ _ _ (x_iret (by first | exact nrwB _ | rfl | decide) ?_))))))))))))))))))))))
    · have e : comesG V p fog m (come, wn w 40 4) = (decide (0 < lrnV V p m), wn w 40 4) := by unfold comesG; simp (decide := true) only [hc, if_true, if_false]
      rw [e] at kk
      have kk := kk h hW0
      rw [hco.2.2.2.2 m hm hc] at b1
      rw [decide_eq_false (Int32.not_lt.mpr b1)] at kk
      exact kk
    · have e : comesG V p fog m (come, wn w 40 4) = (decide (0 < lrnV V p m), wn w 40 4) := by unfold comesG; simp (decide := true) only [hc, if_true, if_false]
      rw [e] at kk
      have kk := kk h hW0
      rw [hco.2.2.2.2 m hm hc] at b1
      rw [decide_eq_true b1] at kk
      exact kk
theorem c_comers (W : WW ad w h) (hC : isC i) (hR : CR w i V) (hV : VOK V) (hco : CoR w i V p fog) (hp : POK V p) (kk : ∀ h', WW ad (sn w 40 4 (goesG V p fog (wn w 40 4)).2) h' → P (.inl (some (.int (goesG V p fog (wn w 40 4)).1))) h') : WP ga L xs (d + 4) 36 [.ref (ad 40)] h P := by
  have hn := hV.n.2
  have hr := hco.1
  refine WP.enter kX1_comers (Nat.le_of_ble_eq_true rfl) (fun J hJ => ?_)
  have loop : ∀ m, m ≤ nm V → ∀ h', WW ad (sn w 40 4 (fo (goesF V p fog) (kI 0, wn w 40 4) m).2) h' → J 1 [some (.ref (ad 40)), some (.int (fo (goesF V p fog) (kI 0, wn w 40 4) m).1), some (.int (kI (m : Int)))] [] h' (0, 0) := up_ind (fun m hm ih h0 W0 => ?_)
  · refine hJ 0 _ _ rfl _ _ _ _ (x_sipush (x_istore rfl (x_sipush (x_istore rfl (x_goto (?_))))))
    exact loop 0 (Nat.zero_le _) h (by show WW ad (sn w 40 4 (wn w 40 4)) h; rw [sn_self]; exact W)
  have hR0 : CR (sn w 40 4 (fo (goesF V p fog) (kI 0, wn w 40 4) m).2) i V := hR.draw hC
  have hs0 := sok_goes (V := V) (p := p) (fog := fog) (x := wn w 40 4) hn m hm
  have ec : m < nm V → fo (goesF V p fog) (kI 0, wn w 40 4) (m + 1) = ((fo (goesF V p fog) (kI 0, wn w 40 4) m).1 ||| (if (comesG V p fog m (fo (goesF V p fog) (kI 0, wn w 40 4) m)).1 = true then b1 m else kI 0), (comesG V p fog m (fo (goesF V p fog) (kI 0, wn w 40 4) m)).2) := fun _ => rfl
  have ew : ∀ x : Int32, wn (sn w 40 4 x) 40 4 = x := fun x => by rw [wn_sn, if_pos ⟨rfl, rfl⟩]
  refine hJ 1 _ _ rfl _ _ _ _ (x_iload rfl (x_aload rfl (w_getr W0 1 0 (t := i) (by decide) shp_40 rfl rfl hr (w_geti W0 0 4 hC.lt hC.sh rfl rfl (x_br2 (fun b1 => have b1 := ge_y (hR0.n hV) (by omega) b1; hJ 3 _ _ rfl _ _ _ _ (x_iload rfl (x_iret (nrwI _) ?_))) (fun b1 => have b1 := ge_n (hR0.n hV) (by omega) b1; x_aload rfl (x_iload rfl (x_iload rfl (x_cv rfl (Nat.le_of_ble_eq_true rfl) (isO_W W0 (by decide) shp_40) (c_comes W0 hC hR0 hV hco.draw hp rfl b1 hs0 (fun h1 W1 => xk_go (x_br (fun b2 => have b2 := bI_eq0.mp b2; hJ 2 _ _ rfl _ _ _ _ (x_iinc rfl rfl (x_goto (?_)))) (fun b2 => have b2 := bI_ne0.mp b2; x_iload rfl (x_sipush (x_iload rfl (x_shl1 (by omega) (x_ior (x_istore rfl (x_goto (hJ 2 _ _ rfl _ _ _ _ (x_iinc rfl rfl (x_goto (?_)))))))))))))))))))))))
  · have e : m = nm V := by omega
    subst e
    exact kk h0 W0
  · rw [ew] at b2 W1
    rw [sn_sn] at W1
    have b2 : (comesG V p fog m (fo (goesF V p fog) (kI 0, wn w 40 4) m)).1 = false := b2
    have ec := ec b1
    rw [b2] at ec
    refine J_c (ih b1 h1 (by rw [ec]; exact W1)) ?_
    rw [ec]
    simp only [sI, kN_succ, Bool.false_eq_true, if_false, kI_zero, Int32.or_zero]
  · rw [ew] at b2 W1
    rw [sn_sn] at W1
    have b2 : (comesG V p fog m (fo (goesF V p fog) (kI 0, wn w 40 4) m)).1 = true := b2
    have ec := ec b1
    rw [b2] at ec
    refine J_c (ih b1 h1 (by rw [ec]; exact W1)) ?_
    rw [ec]
    simp only [sI, kN_succ, if_true]
end C1
