/-! ===== the fault, the quota, weeks ===== -/
theorem nm_eq {V V' : VT} (h : V' 4 = V 4) : nm V' = nm V := by
  unfold nm
  rw [h]
theorem CR.wks {w w' : Wst} {i : Nat} {V V' : VT} (h : CR w i V) (low : ∀ k, k < 54 → k ≠ 5 → V' k = V k) (hf : ∀ j, j ≠ 6 → wn w' i j = wn w i j) (h6 : wn w' i 6 = V' 5) (h1 : wa w' (i + 1) = wa w (i + 1)) (h2 : wa w' (i + 2) = wa w (i + 2)) (h3 : wa w' (i + 3) = wa w (i + 3)) (hn : nm V ≤ 12) (h4 : ∀ j, j < wk V' → wa w' (i + 4) j = vS V' j) : CR w' i V' := by
  obtain ⟨⟨a0, a1, a2, a3, a4, a6⟩, hm, hj, g5, g7, g8, g9⟩ := h
  have en : nm V' = nm V := nm_eq (low 4 (by omega) (by omega))
  have eR : ∀ m, m < nm V → vR V' m = vR V m := fun m h => low _ (by omega) (by omega)
  have eN : ∀ m, m < nm V → vN V' m = vN V m := fun m h => low _ (by omega) (by omega)
  have eC : ∀ m, m < nm V → vC V' m = vC V m := fun m h => low _ (by omega) (by omega)
  have eU : ∀ m, m < nm V → vU V' m = vU V m := fun m h => low _ (by omega) (by omega)
  have eb : ∀ (f g : Nat → Bool), (∀ m, m < nm V → f m = g m) → ∀ m, (decide (m < nm V) && f m) = (decide (m < nm V) && g m) := fun f g hfg m => by
    by_cases hm : m < nm V
    · rw [hfg m hm]
    · rw [decide_eq_false hm]
      rfl
  refine ⟨⟨?_, ?_, ?_, ?_, ?_, h6⟩, fun m hm9 => ?_, h4, fun m => ?_, fun m => ?_, fun m => ?_, fun m => ?_⟩
  · rw [hf 0 (by omega), a0, low 0 (by omega) (by omega)]
  · rw [hf 1 (by omega), a1, low 1 (by omega) (by omega)]
  · rw [hf 2 (by omega), a2, low 2 (by omega) (by omega)]
  · rw [hf 3 (by omega), a3, low 3 (by omega) (by omega)]
  · rw [hf 4 (by omega), a4, low 4 (by omega) (by omega)]
  · rw [en] at hm9
    rw [h1, h2, h3, eR m hm9, eN m hm9, eC m hm9]
    exact hm m hm9
  · rw [hf 5 (by omega), g5 m, en]
    exact eb (fun m => decide (vU V m = 1)) (fun m => decide (vU V' m = 1)) (fun m h => by show decide (vU V m = 1) = decide (vU V' m = 1); rw [eU m h]) m
  · rw [hf 7 (by omega), g7 m, en, low 2 (by omega) (by omega)]
    exact eb (fun m => decide (vC V m < V 2)) (fun m => decide (vC V' m < V 2)) (fun m h => by show decide (vC V m < V 2) = decide (vC V' m < V 2); rw [eC m h]) m
  · rw [hf 8 (by omega), g8 m, en]
    exact eb (fun m => decide (0 < vC V m)) (fun m => decide (0 < vC V' m)) (fun m h => by show decide (0 < vC V m) = decide (0 < vC V' m); rw [eC m h]) m
  · rw [hf 9 (by omega), g9 m, en, low 2 (by omega) (by omega)]
    exact eb (fun m => decide (V 2 < vC V m)) (fun m => decide (V 2 < vC V' m)) (fun m h => by show decide (V 2 < vC V m) = decide (V 2 < vC V' m); rw [eC m h]) m
theorem VOK.wks {V V' : VT} (h : VOK V) (low : ∀ k, k < 54 → k ≠ 5 → V' k = V k) (h5 : btw (V' 5) 0 60) (hj : ∀ j, j < wk V' → sok (nm V) (vS V' j)) : VOK V' := by
  have hn := h.n.2
  obtain ⟨⟨a0, a1, a2, a3, a4, a5⟩, hm, -⟩ := h
  have en : nm V' = nm V := nm_eq (low 4 (by omega) (by omega))
  refine ⟨⟨?_, ?_, ?_, ?_, ?_, h5⟩, fun m hm9 => ?_, fun j hj9 => by rw [en]; exact hj j hj9⟩
  · rw [low 0 (by omega) (by omega)]; exact a0
  · rw [low 1 (by omega) (by omega)]; exact a1
  · rw [low 2 (by omega) (by omega)]; exact a2
  · rw [low 3 (by omega) (by omega)]; exact a3
  · rw [low 4 (by omega) (by omega)]; exact a4
  · rw [en] at hm9
    have e1 : vR V' m = vR V m := low _ (by omega) (by omega)
    have e2 : vN V' m = vN V m := low _ (by omega) (by omega)
    have e3 : vC V' m = vC V m := low _ (by omega) (by omega)
    have e4 : vU V' m = vU V m := low _ (by omega) (by omega)
    rw [e1, e2, e3, e4]
    exact hm m hm9
def wkV (V : VT) (s : Int32) : VT := upd (upd V (54 + wk V) s) 5 (kI ((wk V + 1 : Nat) : Int))
theorem wkV_low {V : VT} {s : Int32} {k : Nat} (h : k < 54) (h5 : k ≠ 5) : wkV V s k = V k := (upd_ne h5).trans (upd_ne (by omega))
theorem wkV_wk {V : VT} {s : Int32} (h : wk V < 60) : wk (wkV V s) = wk V + 1 := by
  have e : wkV V s 5 = kI ((wk V + 1 : Nat) : Int) := upd_self _ _ _
  show (wkV V s 5).toInt.toNat = wk V + 1
  rw [e, kN_toInt (by omega)]
  rfl
theorem wkV_S {V : VT} {s : Int32} {j : Nat} : vS (wkV V s) j = if j = wk V then s else vS V j := by
  unfold vS wkV
  rw [upd_ne (by omega)]
  by_cases h : j = wk V
  · subst h
    rw [upd_self, if_pos rfl]
  · rw [upd_ne (by omega), if_neg h]
theorem VOK.addW {V : VT} {s : Int32} (h : VOK V) (hw : wk V < 60) (hs : sok (nm V) s) : VOK (wkV V s) := h.wks (fun k h1 h2 => wkV_low h1 h2) (by
  have e : wkV V s 5 = kI ((wk V + 1 : Nat) : Int) := upd_self _ _ _
  rw [e]
  unfold btw
  rw [kN_toInt (by omega)]
  omega) (fun j hj => by
  rw [wkV_wk hw] at hj
  rw [wkV_S]
  by_cases e : j = wk V
  · rw [if_pos e]; exact hs
  · rw [if_neg e]; exact h.2.2 j (by omega))
theorem meets_wkV {V : VT} {s t : Int32} : meetsV (wkV V s) t = meetsV V t := by
  unfold meetsV
  rw [wkV_low (by omega) (by omega)]
theorem RCl.club {w w' : Wst} {S : StT} {i : Nat} {V' : VT} (h : RCl w S) (hc : clb w i) (hs : ∀ a, ¬ (i ≤ a ∧ a < i + 5) → same w w' a) (hR : CR w' i V') : RCl w' (V', S.2) := by
  obtain ⟨-, hT, hI, hP, hF⟩ := h
  obtain ⟨hi, h0, h1⟩ := hc
  have hs2 : ∀ a, a < 10 ∨ 20 ≤ a → same w w' a := fun a ha => hs a (by omega)
  refine ⟨⟨i, ⟨hi, ?_, ?_⟩, hR⟩, fun t ht => ?_, fun j hj => ?_, ⟨?_, fun k hk => ?_⟩, ?_, ?_⟩
  · rw [(hs2 0 (by omega)).2.1]; exact h0
  · rw [(hs2 0 (by omega)).2.1]; exact h1
  · rw [(hs2 (63 + 2 * t) (by omega)).1, (hs2 (63 + 2 * t + 1) (by omega)).2.2.2]
    exact hT t ht
  · rw [(hs2 72 (by omega)).2.2.1]
    exact ⟨(hI j hj).1, fun hm => ((hI j hj).2 hm).sm (fun a ha => hs2 _ (by omega))⟩
  · rw [(hs2 42 (by omega)).1]; exact hP.1
  · rw [(hs2 43 (by omega)).2.2.1]; exact hP.2 k hk
  · rw [(hs2 42 (by omega)).1]; exact hF.1
  · rw [(hs2 42 (by omega)).1]; exact hF.2
theorem kcl_cl {w w' : Wst} {i : Nat} (hc : clb w i) (hs : ∀ a, ¬ (i ≤ a ∧ a < i + 5) → same w w' a) : kcl w w' := fun a ha => hs a (by have := hc.1; omega)
theorem RMo.club {w w' : Wst} {S : StT} {V' : VT} (h : RMo w S) (hn : ∀ j, j ≠ 4 → j ≠ 17 → j ≠ 18 → wn w' 80 j = wn w 80 j) (hs : ∀ a, a ≠ 80 → a ≠ 81 → a ≠ 82 → a ≠ 86 → same w w' a) (hK : wa w' 81 = V') : RMo w' (V', S.2) := by
  obtain ⟨-, hT, hI, hP, hF⟩ := h
  refine ⟨hK, ⟨fun t ht => ?_, fun k hk => ?_⟩, fun j hj => ?_, ⟨?_, fun k hk => ?_⟩, ?_, ?_⟩
  · rw [(hs 93 (by omega) (by omega) (by omega) (by omega)).2.2.1, (hs 94 (by omega) (by omega) (by omega) (by omega)).2.2.1]; exact hT.1 t ht
  · rw [(hs 95 (by omega) (by omega) (by omega) (by omega)).2.2.2]; exact hT.2 k hk
  · rw [(hs 84 (by omega) (by omega) (by omega) (by omega)).2.2.1, (hs 83 (by omega) (by omega) (by omega) (by omega)).2.2.1]; exact hI j hj
  · rw [hn 6 (by omega) (by omega) (by omega)]; exact hP.1
  · rw [(hs 85 (by omega) (by omega) (by omega) (by omega)).2.2.1]; exact hP.2 k hk
  · rw [hn 14 (by omega) (by omega) (by omega)]; exact hF.1
  · rw [hn 15 (by omega) (by omega) (by omega)]; exact hF.2
theorem same_sn {w : Wst} {i j a : Nat} {x : Int32} (h : a ≠ i) : same w (sn w i j x) a := (kp_sn (l := [i]) (by simp)) a (by simpa using h)
theorem same_sa {w : Wst} {i a : Nat} {f : Nat → Int32} (h : a ≠ i) : same w (sa w i f) a := (kp_sa (l := [i]) (by simp)) a (by simpa using h)
theorem same_sv {w : Wst} {i a : Nat} {f : Nat → Int64} (h : a ≠ i) : same w (sv w i f) a := (kp_sv (l := [i]) (by simp)) a (by simpa using h)
theorem same_refl {w : Wst} {a : Nat} : same w w a := ⟨rfl, rfl, rfl, rfl⟩
def roomT (V : VT) : Nat := if wk V < 60 then 0 else 1
def toldT (V : VT) (x : Int32) : Nat := if wk V < 60 then (if isSetV V x = true then 0 else 2) else 1
def quotT (x : Int32) : Nat := if inV x 1 12 = true then 0 else 1
def faultV (f : Int32 × Int32) (x : Int32) : Int32 := if x = kI 0 then f.1 else if x = kI 1 then f.2 else kI (-1)
section W1
variable {S : StT}
variable {ga : Nat → Nat} {L : Nat} {xs : Nat → Int32} {d : Nat} {h : ac_H} {P : ac_P} {ad : Nat → Nat} {w : Wst} {i : Nat} {V : VT}
theorem c_addWeek {s : Int32} (W : WW ad w h) (hC : isC i) (hR : CR w i V) (hV : VOK V) (hw : wk V < 60) (kk : ∀ h' w', WW ad w' h' → kp [i, i + 4] w w' → CR w' i (wkV V s) → P (.inl none) h') : WP ga L xs (d + 1) 6 [.ref (ad i), .int s] h P := by
  have ew : wn w i 6 = kI (wk V : Int) := hR.w hV
  refine WP.enter kX0_addWeek (Nat.le_of_ble_eq_true rfl) (fun J hJ => ?_)
  refine hJ 0 _ _ rfl _ _ _ _ (x_aload rfl (w_geti W 0 6 hC.lt hC.sh rfl rfl (x_sipush (x_br2 (fun q1 => have q1 := cy_ge q1; hJ 1 _ _ rfl _ _ _ _ (x_vret rfl ?_)) (fun q1 => have q1 := cn_ge q1; x_aload rfl (w_getr W 0 13 (t := i + 4) hC.lt hC.sh rfl rfl (hC.rf4 _) (x_aload rfl (w_geti W 0 6 hC.lt hC.sh rfl rfl (x_iload rfl (w_iast W (wk V) hC.lt4 hC.sh4 ew (by omega) (by decide) (fun h1 W1 => x_aload rfl (x_dupr (w_geti W1 0 6 hC.lt hC.sh rfl rfl (x_sipush (x_iadd (w_puti W1 0 6 hC.lt hC.sh rfl rfl (okI rfl) (fun h2 W2 => x_goto (hJ 1 _ _ rfl _ _ _ _ (x_vret rfl ?_)))))))))))))))))))
  · rw [ew] at q1
    exact absurd ((kN_le (a := 60) (by omega) (by omega)).mp q1) (by omega)
  · refine kk _ _ W2 ((kp_sa (by simp)).trans (kp_sn (by simp))) (hR.wks (fun k h1 h2 => wkV_low h1 h2) (fun j hj => ?_) ?_ ?_ ?_ ?_ hV.n.2 (fun j hj => ?_))
    · rw [wn_sn, if_neg (fun z => hj z.2)]
      rfl
    · rw [wn_sn, if_pos ⟨rfl, rfl⟩]
      show wn w i 6 + kI 1 = _
      rw [ew, kN_succ]
      exact (upd_self _ _ _).symm
    · rw [wa_sn, wa_sa, if_neg (by omega)]
    · rw [wa_sn, wa_sa, if_neg (by omega)]
    · rw [wa_sn, wa_sa, if_neg (by omega)]
    · rw [wkV_wk hw] at hj
      rw [wa_sn, wa_self, wkV_S]
      by_cases e : j = wk V
      · rw [e, upd_self, if_pos rfl]
      · rw [upd_ne e, if_neg e]
        exact hR.2.2.1 j (by omega)
theorem c_reqRoom (W : WW ad w h) (hC : isC i) (hR : CR w i V) (hV : VOK V) (hc : wr w 0 0 = i) (k1 : ¬ wk V < 60 → P (.inr 2) h) (k0 : wk V < 60 → P (.inl none) h) : WP ga L xs (d + 1) 129 [.ref (ad 0)] h P := by
  have hw := hV.w.2
  have ew : wn w i 6 = kI (wk V : Int) := hR.w hV
  refine WP.enter kX6_requireRoomForWeek (Nat.le_of_ble_eq_true rfl) (fun J hJ => ?_)
  refine hJ 0 _ _ rfl _ _ _ _ (x_aload rfl (w_getr W 6 0 (t := i) (by decide) shp_0 rfl rfl hc (w_geti W 0 6 hC.lt hC.sh rfl rfl (x_sipush (x_br2 (fun q1 => have q1 := cy_lt q1; hJ 1 _ _ rfl _ _ _ _ (x_vret rfl ?_)) (fun q1 => have q1 := cn_lt q1; x_thr ⟨by decide, by decide⟩ (Nat.le_of_ble_eq_true rfl) (by decide) ?_))))))
  · rw [ew] at q1
    exact k0 ((kN_lt (b := 60) (by omega) (by omega)).mp q1)
  · rw [ew] at q1
    have := (kN_le (a := 60) (by omega) (by omega)).mp q1
    exact k1 (by omega)
theorem same_ii {w w' : Wst} {i a : Nat} (h : kp [i, i + 4] w w') (ha : ¬ (i ≤ a ∧ a < i + 5)) : same w w' a := h a (by simp; omega)
theorem x_told {x : Int32} (W : WW ad w h) (hS : RCl w S) (hO : SOK S) (kk : KCm ad P w [2, 0] (toldT S.1 x) (some (.int (bI (meetsV S.1 x)))) S (wkV S.1 x, S.2)) : WP ga L xs (d + 4) 77 [.ref (ad 0), .int x] h P := by
  obtain ⟨i, hb, hR⟩ := hS.1
  have hC := hb.isC
  have hc := hb.2.1
  have hV := hO.1
  have hbi := hb.1
  unfold toldT at kk
  refine WP.enter kX6_told (Nat.le_of_ble_eq_true rfl) (fun J hJ => ?_)
  refine hJ 0 _ _ rfl _ _ _ _ (x_aload rfl (x_cvb rfl (Nat.le_of_ble_eq_true rfl) (isO_W W (by decide) shp_0) ⟨by decide, by decide⟩ (c_reqRoom W hC hR hV hc (fun t1 => ?_) (fun t1 => xk_v (x_aload rfl (x_iload rfl (x_cvb rfl (Nat.le_of_ble_eq_true rfl) (isO_W W (by decide) shp_0) ⟨by decide, by decide⟩ (c_reqSet W hC hR hV hc (fun t2 => ?_) (fun t2 => xk_v (x_aload rfl (w_getr W 6 0 (t := i) (by decide) shp_0 rfl rfl hc (x_iload rfl (x_cv rfl (Nat.le_of_ble_eq_true rfl) (isO_W W hC.lt hC.sh) (c_addWeek W hC hR hV t1 (fun h1 w1 W1 e0 c0 => xk_v (x_aload rfl (w_getr W1 6 0 (t := i) (by decide) shp_0 rfl rfl ((congrFun (e0 0 (by simp; omega)).2.1 0).trans hc) (x_iload rfl (x_cv rfl (Nat.le_of_ble_eq_true rfl) (isO_W W1 hC.lt hC.sh) (c_meets W1 hC c0 (isSet_sok hV t2) (xk_go (x_iret (by first | exact nrwB _ | rfl | decide) ?_))))))))))))))))))))))
  · exact kk.no 0 (if_neg t1) W kcl_refl hS
  · exact kk.no 1 (by rw [if_pos t1, if_neg (by rw [t2]; decide)]) W kcl_refl hS
  · rw [meets_wkV]
    exact kk.yes (by rw [if_pos t1, if_pos t2]) W1 (kcl_cl hb (fun a ha => same_ii e0 ha)) (hS.club hb (fun a ha => same_ii e0 ha) c0)
theorem x_week {x : Int32} (W : WW ad w h) (hS : RCl w S) (hO : SOK S) (kk : KCm ad P w [2] (roomT S.1) (some (.int (goesG S.1 (startP S.1) true x).1)) S (wkV S.1 (goesG S.1 (startP S.1) true x).1, S.2)) : WP ga L xs (d + 7) 76 [.ref (ad 0), .int x] h P := by
  obtain ⟨i, hb, hR⟩ := hS.1
  have hC := hb.isC
  have hc := hb.2.1
  have hV := hO.1
  have hbi := hb.1
  unfold roomT at kk
  refine WP.enter kX6_week (Nat.le_of_ble_eq_true rfl) (fun J hJ => ?_)
  refine hJ 0 _ _ rfl _ _ _ _ (x_aload rfl (x_cvb rfl (Nat.le_of_ble_eq_true rfl) (isO_W W (by decide) shp_0) ⟨by decide, by decide⟩ (c_reqRoom W hC hR hV hc (fun t1 => ?_) (fun t1 => xk_v (x_aload rfl (w_getr W 6 4 (t := 40) (by decide) shp_0 rfl rfl rfl (x_aload rfl (w_getr W 6 0 (t := i) (by decide) shp_0 rfl rfl hc (x_cv rfl (Nat.le_of_ble_eq_true rfl) (isO_W W (by decide) shp_40) (c_start W hC hR hV (fun h1 w1 W1 e1 c1 n1 => xk_v (x_aload rfl (w_getr W1 6 4 (t := 40) (by decide) shp_0 rfl rfl rfl (x_iload rfl (x_cv rfl (Nat.le_of_ble_eq_true rfl) (isO_W W1 (by decide) shp_40) (c_comersInFog W1 hC (hR.far e1 hC (by simp)) hV c1 (POK.start hV) (fun h2 w2 W2 e2 => xk_go (x_istore rfl (x_aload rfl (w_getr W2 6 0 (t := i) (by decide) shp_0 rfl rfl ((congrFun (e2 0 (by simp)).2.1 0).trans ((congrFun (e1 0 (by simp)).2.1 0).trans hc)) (x_iload rfl (x_cv rfl (Nat.le_of_ble_eq_true rfl) (isO_W W2 hC.lt hC.sh) (c_addWeek W2 hC ((hR.far e1 hC (by simp)).far e2 hC (by simp)) hV t1 (fun h3 w3 W3 e3 c3 => xk_v (x_iload rfl (x_iret (nrwI _) ?_))))))))))))))))))))))))))
  · exact kk.no 0 (if_neg t1) W kcl_refl hS
  · have hS2 := (hS.sc (e1.mono l4041')).sc (e2.mono (by decide))
    have hb2 : clb w2 i := ⟨hb.1, (congrFun (e2 0 (by simp)).2.1 0).trans ((congrFun (e1 0 (by simp)).2.1 0).trans hc), (congrFun (e2 0 (by simp)).2.1 1).trans ((congrFun (e1 0 (by simp)).2.1 1).trans hb.2.2)⟩
    exact kk.yes (if_pos t1) W3 (((kcl_of (e1.mono l4041') SC80).trans (kcl_of e2 (by simp))).trans (kcl_cl hb2 (fun a ha => same_ii e3 ha))) (hS2.club hb2 (fun a ha => same_ii e3 ha) c3)
end W1
