/-! ===== the law's wrappers ===== -/
def KL (ad : Nat → Nat) (P : ac_P) (w : Wst) (T : Nat) (R : Option Int64) (S S' : StT) : Prop := ∀ h' w', WW ad w' h' → (∀ i, 80 ≤ i → i ≠ 96 → same w w' i) → (T = 0 → RCl w' S' ∧ ∀ r, R = some r → wl w' 96 0 = r) → (¬ T = 0 → RCl w' S) → P (.inl (some (.int (kI (T : Int))))) h'
theorem KL.yes {ad : Nat → Nat} {P : ac_P} {w w' : Wst} {h' : ac_H} {T : Nat} {R : Option Int64} {S S' : StT} (kk : KL ad P w T R S S') (hT : T = 0) (W' : WW ad w' h') (k : ∀ i, 80 ≤ i → i ≠ 96 → same w w' i) (h1 : RCl w' S') (h2 : ∀ r, R = some r → wl w' 96 0 = r) : P (.inl (some (.int (kI 0)))) h' := by
  have g := kk h' w' W' k (fun _ => ⟨h1, h2⟩) (fun z => absurd hT z)
  rw [hT] at g
  exact g
theorem KL.no {ad : Nat → Nat} {P : ac_P} {w w' : Wst} {h' : ac_H} {T j : Nat} {R : Option Int64} {S S' : StT} (kk : KL ad P w T R S S') (hT : T = j + 1) (W' : WW ad w' h') (k : kcl w w') (h1 : RCl w' S) : P (.inl (some (.int (kI ((j + 1 : Nat) : Int))))) h' := by
  have g := kk h' w' W' (fun i h _ => k i h) (fun z => by omega) (fun _ => h1)
  rw [hT] at g
  exact g
theorem RCl.sv {w : Wst} {S : StT} {f : Nat → Int64} (h : RCl w S) : RCl (sv w 96 f) S := h.keep (fun i hi => same_sv (by omega))
theorem wl96 {w : Wst} {f : Nat → Int64} {x : Int64} : wl (sv w 96 (vp_updL f 0 x)) 96 0 = x := by
  rw [wl_self]
  rfl
theorem kl96 {w w' : Wst} {f : Nat → Int64} (k : kcl w w') : ∀ i, 80 ≤ i → i ≠ 96 → same w (sv w' 96 f) i := fun i h1 h2 => (k i h1).trans (same_sv h2)
def clI (τ : Nat → Nat) (n : Nat) : Int32 := match clubS τ n with
  | .inl f => kI (-10) - kI (f.1 : Int)
  | .inr V => V 0
theorem clRes_eq {τ : Nat → Nat} {n : Nat} : clRes τ n = .int (clI τ n) := by
  unfold clRes clI
  cases clubS τ n <;> rfl
section W1
variable {S : StT}
variable {ga : Nat → Nat} {L : Nat} {xs : Nat → Int32} {d : Nat} {h : ac_H} {P : ac_P} {ad : Nat → Nat} {w : Wst}
theorem x_clubI {x : Int32} (W : WW ad w h) (hS : RCl w S) (hO : SOK S) (kk : KCm ad P w [0] (clT S.2.2.2.1.2 x) (some (.int (clI S.2.2.2.1.1 (tN x)))) S (clSt S (tN x))) : WP ga L xs (d + 7) 72 [.ref (ad 0), .int x] h P := x_club W hS hO (by rw [clRes_eq]; exact kk)
theorem w_club {x : Int32} (W : WW ad w h) (hS : RCl w S) (hO : SOK S) (hTn : (clT S.2.2.2.1.2 x) ≤ 1) (kk : KL ad P w (clT S.2.2.2.1.2 x) (some ((clI S.2.2.2.1.1 (tN x))).toInt64) S (clSt S (tN x))) : WP ga L xs (d + 8) 256 [.ref (ad 0), .int x, .ref (ad 96)] h P := by
  obtain ⟨i, hb, hR⟩ := id hS.1
  have hC := hb.isC
  have hc := hb.2.1
  have hV := hO.1
  have hn20 := hb.n20
  refine WP.enter kL_club (Nat.le_of_ble_eq_true rfl) (fun J hJ => ?_)
  refine hJ 0 _ _ rfl _ _ _ _ (x_aload rfl (x_sipush (x_aload rfl (x_iload rfl (x_cvb rfl (Nat.le_of_ble_eq_true rfl) (isO_W W (by decide) shp_0) ⟨by decide, by decide⟩ (x_clubI W hS hO ⟨fun hT h1 w1 W1 k1 hS1 => xk_go (x_i2l (w_last W1 0 (by decide) shp_96 rfl (by decide) (by decide) (fun h2 W2 => x_goto (hJ 1 _ _ rfl _ _ _ _ (x_sipush (x_iret (nrwI _) ?_)))))), fun j hT h8 w8 W8 k1 hS1 => ?_⟩))))))
  · exact kk.yes hT W2 (kl96 k1) hS1.sv (fun r z => wl96.trans (Option.some.inj z))
  · rcases (show j = 0 by omega) with rfl <;> exact kk.no hT W8 k1 hS1
theorem w_member {x : Int32} {y : Int32} (W : WW ad w h) (hS : RCl w S) (hO : SOK S) (hTn : (membT S.1 x y) ≤ 2) (kk : KL ad P w (membT S.1 x y) (some ((memberV S.1 (tN x) y)).toInt64) S S) : WP ga L xs (d + 5) 257 [.ref (ad 0), .int x, .int y, .ref (ad 96)] h P := by
  obtain ⟨i, hb, hR⟩ := id hS.1
  have hC := hb.isC
  have hc := hb.2.1
  have hV := hO.1
  have hn20 := hb.n20
  refine WP.enter kL_member (Nat.le_of_ble_eq_true rfl) (fun J hJ => ?_)
  refine hJ 0 _ _ rfl _ _ _ _ (x_aload rfl (x_sipush (x_aload rfl (x_iload rfl (x_iload rfl (x_cvb rfl (Nat.le_of_ble_eq_true rfl) (isO_W W (by decide) shp_0) ⟨by decide, by decide⟩ (x_member W hC hR hV hc (KCm.query hS ⟨fun hT h1 w1 W1 k1 hS1 => xk_go (x_i2l (w_last W1 0 (by decide) shp_96 rfl (by decide) (by decide) (fun h2 W2 => x_goto (hJ 1 _ _ rfl _ _ _ _ (x_sipush (x_iret (nrwI _) ?_)))))), fun j hT h8 w8 W8 k1 hS1 => ?_⟩))))))))
  · exact kk.yes hT W2 (kl96 k1) hS1.sv (fun r z => wl96.trans (Option.some.inj z))
  · rcases (show j = 0 ∨ j = 1 by omega) with rfl | rfl <;> exact kk.no hT W8 k1 hS1
theorem w_quota {x : Int32} (W : WW ad w h) (hS : RCl w S) (hO : SOK S) (hTn : (quotT x) ≤ 1) (kk : KL ad P w (quotT x) (some ((S.1 1)).toInt64) S (setQ S.1 (tN x), S.2)) : WP ga L xs (d + 5) 258 [.ref (ad 0), .int x, .ref (ad 96)] h P := by
  obtain ⟨i, hb, hR⟩ := id hS.1
  have hC := hb.isC
  have hc := hb.2.1
  have hV := hO.1
  have hn20 := hb.n20
  refine WP.enter kL_quota (Nat.le_of_ble_eq_true rfl) (fun J hJ => ?_)
  refine hJ 0 _ _ rfl _ _ _ _ (x_aload rfl (x_sipush (x_aload rfl (x_iload rfl (x_cvb rfl (Nat.le_of_ble_eq_true rfl) (isO_W W (by decide) shp_0) ⟨by decide, by decide⟩ (x_quota W hS hO ⟨fun hT h1 w1 W1 k1 hS1 => xk_go (x_i2l (w_last W1 0 (by decide) shp_96 rfl (by decide) (by decide) (fun h2 W2 => x_goto (hJ 1 _ _ rfl _ _ _ _ (x_sipush (x_iret (nrwI _) ?_)))))), fun j hT h8 w8 W8 k1 hS1 => ?_⟩))))))
  · exact kk.yes hT W2 (kl96 k1) hS1.sv (fun r z => wl96.trans (Option.some.inj z))
  · rcases (show j = 0 by omega) with rfl <;> exact kk.no hT W8 k1 hS1
theorem w_week {x : Int32} (W : WW ad w h) (hS : RCl w S) (hO : SOK S) (hTn : (roomT S.1) ≤ 1) (kk : KL ad P w (roomT S.1) (some ((goesG S.1 (startP S.1) true x).1).toInt64) S (wkV S.1 (goesG S.1 (startP S.1) true x).1, S.2)) : WP ga L xs (d + 8) 259 [.ref (ad 0), .int x, .ref (ad 96)] h P := by
  obtain ⟨i, hb, hR⟩ := id hS.1
  have hC := hb.isC
  have hc := hb.2.1
  have hV := hO.1
  have hn20 := hb.n20
  refine WP.enter kL_week (Nat.le_of_ble_eq_true rfl) (fun J hJ => ?_)
  refine hJ 0 _ _ rfl _ _ _ _ (x_aload rfl (x_sipush (x_aload rfl (x_iload rfl (x_cvb rfl (Nat.le_of_ble_eq_true rfl) (isO_W W (by decide) shp_0) ⟨by decide, by decide⟩ (x_week W hS hO ⟨fun hT h1 w1 W1 k1 hS1 => xk_go (x_i2l (w_last W1 0 (by decide) shp_96 rfl (by decide) (by decide) (fun h2 W2 => x_goto (hJ 1 _ _ rfl _ _ _ _ (x_sipush (x_iret (nrwI _) ?_)))))), fun j hT h8 w8 W8 k1 hS1 => ?_⟩))))))
  · exact kk.yes hT W2 (kl96 k1) hS1.sv (fun r z => wl96.trans (Option.some.inj z))
  · rcases (show j = 0 by omega) with rfl <;> exact kk.no hT W8 k1 hS1
theorem w_told {x : Int32} (W : WW ad w h) (hS : RCl w S) (hO : SOK S) (hTn : (toldT S.1 x) ≤ 2) (kk : KL ad P w (toldT S.1 x) (some ((bI (meetsV S.1 x))).toInt64) S (wkV S.1 x, S.2)) : WP ga L xs (d + 5) 260 [.ref (ad 0), .int x, .ref (ad 96)] h P := by
  obtain ⟨i, hb, hR⟩ := id hS.1
  have hC := hb.isC
  have hc := hb.2.1
  have hV := hO.1
  have hn20 := hb.n20
  refine WP.enter kL_told (Nat.le_of_ble_eq_true rfl) (fun J hJ => ?_)
  refine hJ 0 _ _ rfl _ _ _ _ (x_aload rfl (x_sipush (x_aload rfl (x_iload rfl (x_cvb rfl (Nat.le_of_ble_eq_true rfl) (isO_W W (by decide) shp_0) ⟨by decide, by decide⟩ (x_told W hS hO ⟨fun hT h1 w1 W1 k1 hS1 => xk_go (x_br (fun q1 => have q1 := bI_eq0.mp q1; hJ 1 _ _ rfl _ _ _ _ (x_ldc2 (x_goto (hJ 2 _ _ rfl _ _ _ _ (w_last W1 0 (by decide) shp_96 rfl (by decide) (by decide) (fun h2 W2 => x_goto (hJ 3 _ _ rfl _ _ _ _ (x_sipush (x_iret (nrwI _) ?_))))))))) (fun q1 => have q1 := bI_ne0.mp q1; x_ldc2 (x_goto (hJ 2 _ _ rfl _ _ _ _ (w_last W1 0 (by decide) shp_96 rfl (by decide) (by decide) (fun h3 W3 => x_goto (hJ 3 _ _ rfl _ _ _ _ (x_sipush (x_iret (nrwI _) ?_))))))))), fun j hT h8 w8 W8 k1 hS1 => ?_⟩))))))
  · exact kk.yes hT W2 (kl96 k1) hS1.sv (fun r z => by cases z; rw [wl96, q1]; rfl)
  · exact kk.yes hT W3 (kl96 k1) hS1.sv (fun r z => by cases z; rw [wl96, q1]; rfl)
  · rcases (show j = 0 ∨ j = 1 by omega) with rfl | rfl <;> exact kk.no hT W8 k1 hS1
theorem w_back {x : Int32} (W : WW ad w h) (hS : RCl w S) (hO : SOK S) (hTn : (backT S.1 x) ≤ 1) (kk : KL ad P w (backT S.1 x) (some ((kI ((wk S.1 - tN x : Nat) : Int))).toInt64) S (bkV S.1 (tN x), S.2)) : WP ga L xs (d + 5) 261 [.ref (ad 0), .int x, .ref (ad 96)] h P := by
  obtain ⟨i, hb, hR⟩ := id hS.1
  have hC := hb.isC
  have hc := hb.2.1
  have hV := hO.1
  have hn20 := hb.n20
  refine WP.enter kL_back (Nat.le_of_ble_eq_true rfl) (fun J hJ => ?_)
  refine hJ 0 _ _ rfl _ _ _ _ (x_aload rfl (x_sipush (x_aload rfl (x_iload rfl (x_cvb rfl (Nat.le_of_ble_eq_true rfl) (isO_W W (by decide) shp_0) ⟨by decide, by decide⟩ (x_back W hS hO ⟨fun hT h1 w1 W1 k1 hS1 => xk_go (x_i2l (w_last W1 0 (by decide) shp_96 rfl (by decide) (by decide) (fun h2 W2 => x_goto (hJ 1 _ _ rfl _ _ _ _ (x_sipush (x_iret (nrwI _) ?_)))))), fun j hT h8 w8 W8 k1 hS1 => ?_⟩))))))
  · exact kk.yes hT W2 (kl96 k1) hS1.sv (fun r z => wl96.trans (Option.some.inj z))
  · rcases (show j = 0 by omega) with rfl <;> exact kk.no hT W8 k1 hS1
theorem w_came {x : Int32} (W : WW ad w h) (hS : RCl w S) (hO : SOK S) (hTn : (cameT S.1 x) ≤ 1) (kk : KL ad P w (cameT S.1 x) (some ((vS S.1 (tN x))).toInt64) S S) : WP ga L xs (d + 3) 262 [.ref (ad 0), .int x, .ref (ad 96)] h P := by
  obtain ⟨i, hb, hR⟩ := id hS.1
  have hC := hb.isC
  have hc := hb.2.1
  have hV := hO.1
  have hn20 := hb.n20
  refine WP.enter kL_came (Nat.le_of_ble_eq_true rfl) (fun J hJ => ?_)
  refine hJ 0 _ _ rfl _ _ _ _ (x_aload rfl (x_sipush (x_aload rfl (x_iload rfl (x_cvb rfl (Nat.le_of_ble_eq_true rfl) (isO_W W (by decide) shp_0) ⟨by decide, by decide⟩ (x_came W hC hR hV hc (KCm.query hS ⟨fun hT h1 w1 W1 k1 hS1 => xk_go (x_i2l (w_last W1 0 (by decide) shp_96 rfl (by decide) (by decide) (fun h2 W2 => x_goto (hJ 1 _ _ rfl _ _ _ _ (x_sipush (x_iret (nrwI _) ?_)))))), fun j hT h8 w8 W8 k1 hS1 => ?_⟩)))))))
  · exact kk.yes hT W2 (kl96 k1) hS1.sv (fun r z => wl96.trans (Option.some.inj z))
  · rcases (show j = 0 by omega) with rfl <;> exact kk.no hT W8 k1 hS1
theorem w_met {x : Int32} (W : WW ad w h) (hS : RCl w S) (hO : SOK S) (hTn : (cameT S.1 x) ≤ 1) (kk : KL ad P w (cameT S.1 x) (some ((bI (meetsV S.1 (vS S.1 (tN x))))).toInt64) S S) : WP ga L xs (d + 4) 263 [.ref (ad 0), .int x, .ref (ad 96)] h P := by
  obtain ⟨i, hb, hR⟩ := id hS.1
  have hC := hb.isC
  have hc := hb.2.1
  have hV := hO.1
  have hn20 := hb.n20
  refine WP.enter kL_met (Nat.le_of_ble_eq_true rfl) (fun J hJ => ?_)
  refine hJ 0 _ _ rfl _ _ _ _ (x_aload rfl (x_sipush (x_aload rfl (x_iload rfl (x_cvb rfl (Nat.le_of_ble_eq_true rfl) (isO_W W (by decide) shp_0) ⟨by decide, by decide⟩ (x_met W hC hR hV hc (KCm.query hS ⟨fun hT h1 w1 W1 k1 hS1 => xk_go (x_br (fun q1 => have q1 := bI_eq0.mp q1; hJ 1 _ _ rfl _ _ _ _ (x_ldc2 (x_goto (hJ 2 _ _ rfl _ _ _ _ (w_last W1 0 (by decide) shp_96 rfl (by decide) (by decide) (fun h2 W2 => x_goto (hJ 3 _ _ rfl _ _ _ _ (x_sipush (x_iret (nrwI _) ?_))))))))) (fun q1 => have q1 := bI_ne0.mp q1; x_ldc2 (x_goto (hJ 2 _ _ rfl _ _ _ _ (w_last W1 0 (by decide) shp_96 rfl (by decide) (by decide) (fun h3 W3 => x_goto (hJ 3 _ _ rfl _ _ _ _ (x_sipush (x_iret (nrwI _) ?_))))))))), fun j hT h8 w8 W8 k1 hS1 => ?_⟩)))))))
  · exact kk.yes hT W2 (kl96 k1) hS1.sv (fun r z => by cases z; rw [wl96, q1]; rfl)
  · exact kk.yes hT W3 (kl96 k1) hS1.sv (fun r z => by cases z; rw [wl96, q1]; rfl)
  · rcases (show j = 0 by omega) with rfl <;> exact kk.no hT W8 k1 hS1
theorem w_hats {x : Int32} (W : WW ad w h) (hS : RCl w S) (hO : SOK S) (hTn : (memT1 S.1 x) ≤ 1) (kk : KL ad P w (memT1 S.1 x) (some ((kI (pc (hatsV S.1 (nextP S.1 (startP S.1)) (tN x)) : Int))).toInt64) S S) : WP ga L xs (d + 7) 264 [.ref (ad 0), .int x, .ref (ad 96)] h P := by
  obtain ⟨i, hb, hR⟩ := id hS.1
  have hC := hb.isC
  have hc := hb.2.1
  have hV := hO.1
  have hn20 := hb.n20
  refine WP.enter kL_hats (Nat.le_of_ble_eq_true rfl) (fun J hJ => ?_)
  refine hJ 0 _ _ rfl _ _ _ _ (x_aload rfl (x_sipush (x_aload rfl (x_iload rfl (x_cvb rfl (Nat.le_of_ble_eq_true rfl) (isO_W W (by decide) shp_0) ⟨by decide, by decide⟩ (x_hats W hC hR hV hc (KCm.query hS ⟨fun hT h1 w1 W1 k1 hS1 => xk_go (x_i2l (w_last W1 0 (by decide) shp_96 rfl (by decide) (by decide) (fun h2 W2 => x_goto (hJ 1 _ _ rfl _ _ _ _ (x_sipush (x_iret (nrwI _) ?_)))))), fun j hT h8 w8 W8 k1 hS1 => ?_⟩)))))))
  · exact kk.yes hT W2 (kl96 k1) hS1.sv (fun r z => wl96.trans (Option.some.inj z))
  · rcases (show j = 0 by omega) with rfl <;> exact kk.no hT W8 k1 hS1
theorem w_thought {x : Int32} {y : Int32} (W : WW ad w h) (hS : RCl w S) (hO : SOK S) (hTn : (thoughtT S.1 x y) ≤ 2) (kk : KL ad P w (thoughtT S.1 x y) (some ((bI (hb (thoughtsV S.1 (lastV S.1) (tN y)) (tN x)))).toInt64) S S) : WP ga L xs (d + 5) 265 [.ref (ad 0), .int x, .int y, .ref (ad 96)] h P := by
  obtain ⟨i, hb, hR⟩ := id hS.1
  have hC := hb.isC
  have hc := hb.2.1
  have hV := hO.1
  have hn20 := hb.n20
  refine WP.enter kL_thought (Nat.le_of_ble_eq_true rfl) (fun J hJ => ?_)
  refine hJ 0 _ _ rfl _ _ _ _ (x_aload rfl (x_sipush (x_aload rfl (x_iload rfl (x_iload rfl (x_cvb rfl (Nat.le_of_ble_eq_true rfl) (isO_W W (by decide) shp_0) ⟨by decide, by decide⟩ (x_thought W hC hR hV hc (KCm.query hS ⟨fun hT h1 w1 W1 k1 hS1 => xk_go (x_br (fun q1 => have q1 := bI_eq0.mp q1; hJ 1 _ _ rfl _ _ _ _ (x_ldc2 (x_goto (hJ 2 _ _ rfl _ _ _ _ (w_last W1 0 (by decide) shp_96 rfl (by decide) (by decide) (fun h2 W2 => x_goto (hJ 3 _ _ rfl _ _ _ _ (x_sipush (x_iret (nrwI _) ?_))))))))) (fun q1 => have q1 := bI_ne0.mp q1; x_ldc2 (x_goto (hJ 2 _ _ rfl _ _ _ _ (w_last W1 0 (by decide) shp_96 rfl (by decide) (by decide) (fun h3 W3 => x_goto (hJ 3 _ _ rfl _ _ _ _ (x_sipush (x_iret (nrwI _) ?_))))))))), fun j hT h8 w8 W8 k1 hS1 => ?_⟩))))))))
  · exact kk.yes hT W2 (kl96 k1) hS1.sv (fun r z => by cases z; rw [wl96, q1]; rfl)
  · exact kk.yes hT W3 (kl96 k1) hS1.sv (fun r z => by cases z; rw [wl96, q1]; rfl)
  · rcases (show j = 0 ∨ j = 1 by omega) with rfl | rfl <;> exact kk.no hT W8 k1 hS1
theorem w_judge {x : Int32} {y : Int32} (W : WW ad w h) (hS : RCl w S) (hO : SOK S) (hTn : (judgeT S.2.1 x y) ≤ 3) (kk : KL ad P w (judgeT S.2.1 x y) (some ((judgeV S.2.1 S.1 x y)).toInt64) S S) : WP ga L xs (d + 8) 266 [.ref (ad 0), .int x, .int y, .ref (ad 96)] h P := by
  obtain ⟨i, hb, hR⟩ := id hS.1
  have hC := hb.isC
  have hc := hb.2.1
  have hV := hO.1
  have hn20 := hb.n20
  refine WP.enter kL_judge (Nat.le_of_ble_eq_true rfl) (fun J hJ => ?_)
  refine hJ 0 _ _ rfl _ _ _ _ (x_aload rfl (x_sipush (x_aload rfl (x_iload rfl (x_iload rfl (x_cvb rfl (Nat.le_of_ble_eq_true rfl) (isO_W W (by decide) shp_0) ⟨by decide, by decide⟩ (x_judge W hC hR hV hc hn20 hS.2.1 hO.2.1 (KCm.query hS ⟨fun hT h1 w1 W1 k1 hS1 => xk_go (x_i2l (w_last W1 0 (by decide) shp_96 rfl (by decide) (by decide) (fun h2 W2 => x_goto (hJ 1 _ _ rfl _ _ _ _ (x_sipush (x_iret (nrwI _) ?_)))))), fun j hT h8 w8 W8 k1 hS1 => ?_⟩))))))))
  · exact kk.yes hT W2 (kl96 k1) hS1.sv (fun r z => wl96.trans (Option.some.inj z))
  · rcases (show j = 0 ∨ j = 1 ∨ j = 2 by omega) with rfl | rfl | rfl <;> exact kk.no hT W8 k1 hS1
theorem w_gain {s : Int32} {x : Int32} (W : WW ad w h) (hS : RCl w S) (hO : SOK S) (hTn : (gainT S.1 s x) ≤ 2) (kk : KL ad P w (gainT S.1 s x) (some ((gainV S.1 s x.toInt.toNat)).toInt64) S S) : WP ga L xs (d + 6) 267 [.ref (ad 0), .int s, .int x, .ref (ad 96)] h P := by
  obtain ⟨i, hb, hR⟩ := id hS.1
  have hC := hb.isC
  have hc := hb.2.1
  have hV := hO.1
  have hn20 := hb.n20
  refine WP.enter kL_gain (Nat.le_of_ble_eq_true rfl) (fun J hJ => ?_)
  refine hJ 0 _ _ rfl _ _ _ _ (x_aload rfl (x_sipush (x_aload rfl (x_iload rfl (x_iload rfl (x_cvb rfl (Nat.le_of_ble_eq_true rfl) (isO_W W (by decide) shp_0) ⟨by decide, by decide⟩ (x_gain W hC hR hV hc (KCm.query hS ⟨fun hT h1 w1 W1 k1 hS1 => xk_go (x_i2l (w_last W1 0 (by decide) shp_96 rfl (by decide) (by decide) (fun h2 W2 => x_goto (hJ 1 _ _ rfl _ _ _ _ (x_sipush (x_iret (nrwI _) ?_)))))), fun j hT h8 w8 W8 k1 hS1 => ?_⟩))))))))
  · exact kk.yes hT W2 (kl96 k1) hS1.sv (fun r z => wl96.trans (Option.some.inj z))
  · rcases (show j = 0 ∨ j = 1 by omega) with rfl | rfl <;> exact kk.no hT W8 k1 hS1
theorem w_rests {s : Int32} (W : WW ad w h) (hS : RCl w S) (hO : SOK S) (hTn : (setT S.1 s) ≤ 1) (kk : KL ad P w (setT S.1 s) (some ((bI (restV S.1 s))).toInt64) S S) : WP ga L xs (d + 5) 268 [.ref (ad 0), .int s, .ref (ad 96)] h P := by
  obtain ⟨i, hb, hR⟩ := id hS.1
  have hC := hb.isC
  have hc := hb.2.1
  have hV := hO.1
  have hn20 := hb.n20
  refine WP.enter kL_rests (Nat.le_of_ble_eq_true rfl) (fun J hJ => ?_)
  refine hJ 0 _ _ rfl _ _ _ _ (x_aload rfl (x_sipush (x_aload rfl (x_iload rfl (x_cvb rfl (Nat.le_of_ble_eq_true rfl) (isO_W W (by decide) shp_0) ⟨by decide, by decide⟩ (x_rests W hC hR hV hc (KCm.query hS ⟨fun hT h1 w1 W1 k1 hS1 => xk_go (x_br (fun q1 => have q1 := bI_eq0.mp q1; hJ 1 _ _ rfl _ _ _ _ (x_ldc2 (x_goto (hJ 2 _ _ rfl _ _ _ _ (w_last W1 0 (by decide) shp_96 rfl (by decide) (by decide) (fun h2 W2 => x_goto (hJ 3 _ _ rfl _ _ _ _ (x_sipush (x_iret (nrwI _) ?_))))))))) (fun q1 => have q1 := bI_ne0.mp q1; x_ldc2 (x_goto (hJ 2 _ _ rfl _ _ _ _ (w_last W1 0 (by decide) shp_96 rfl (by decide) (by decide) (fun h3 W3 => x_goto (hJ 3 _ _ rfl _ _ _ _ (x_sipush (x_iret (nrwI _) ?_))))))))), fun j hT h8 w8 W8 k1 hS1 => ?_⟩)))))))
  · exact kk.yes hT W2 (kl96 k1) hS1.sv (fun r z => by cases z; rw [wl96, q1]; rfl)
  · exact kk.yes hT W3 (kl96 k1) hS1.sv (fun r z => by cases z; rw [wl96, q1]; rfl)
  · rcases (show j = 0 by omega) with rfl <;> exact kk.no hT W8 k1 hS1
theorem w_strong {s : Int32} (W : WW ad w h) (hS : RCl w S) (hO : SOK S) (hTn : (setT S.1 s) ≤ 1) (kk : KL ad P w (setT S.1 s) (some ((bI (strongV S.1 s))).toInt64) S S) : WP ga L xs (d + 5) 269 [.ref (ad 0), .int s, .ref (ad 96)] h P := by
  obtain ⟨i, hb, hR⟩ := id hS.1
  have hC := hb.isC
  have hc := hb.2.1
  have hV := hO.1
  have hn20 := hb.n20
  refine WP.enter kL_strong (Nat.le_of_ble_eq_true rfl) (fun J hJ => ?_)
  refine hJ 0 _ _ rfl _ _ _ _ (x_aload rfl (x_sipush (x_aload rfl (x_iload rfl (x_cvb rfl (Nat.le_of_ble_eq_true rfl) (isO_W W (by decide) shp_0) ⟨by decide, by decide⟩ (x_strong W hC hR hV hc (KCm.query hS ⟨fun hT h1 w1 W1 k1 hS1 => xk_go (x_br (fun q1 => have q1 := bI_eq0.mp q1; hJ 1 _ _ rfl _ _ _ _ (x_ldc2 (x_goto (hJ 2 _ _ rfl _ _ _ _ (w_last W1 0 (by decide) shp_96 rfl (by decide) (by decide) (fun h2 W2 => x_goto (hJ 3 _ _ rfl _ _ _ _ (x_sipush (x_iret (nrwI _) ?_))))))))) (fun q1 => have q1 := bI_ne0.mp q1; x_ldc2 (x_goto (hJ 2 _ _ rfl _ _ _ _ (w_last W1 0 (by decide) shp_96 rfl (by decide) (by decide) (fun h3 W3 => x_goto (hJ 3 _ _ rfl _ _ _ _ (x_sipush (x_iret (nrwI _) ?_))))))))), fun j hT h8 w8 W8 k1 hS1 => ?_⟩)))))))
  · exact kk.yes hT W2 (kl96 k1) hS1.sv (fun r z => by cases z; rw [wl96, q1]; rfl)
  · exact kk.yes hT W3 (kl96 k1) hS1.sv (fun r z => by cases z; rw [wl96, q1]; rfl)
  · rcases (show j = 0 by omega) with rfl <;> exact kk.no hT W8 k1 hS1
theorem w_turnsBy {x : Int32} {y : Int32} (W : WW ad w h) (hS : RCl w S) (hO : SOK S) (hTn : (tuT S.2.1 S.1 x y) ≤ 3) (kk : KL ad P w (tuT S.2.1 S.1 x y) (some ((tuV S.2.1 S.1 x y)).toInt64) S S) : WP ga L xs (d + 5) 270 [.ref (ad 0), .int x, .int y, .ref (ad 96)] h P := by
  obtain ⟨i, hb, hR⟩ := id hS.1
  have hC := hb.isC
  have hc := hb.2.1
  have hV := hO.1
  have hn20 := hb.n20
  refine WP.enter kL_turnsBy (Nat.le_of_ble_eq_true rfl) (fun J hJ => ?_)
  refine hJ 0 _ _ rfl _ _ _ _ (x_aload rfl (x_sipush (x_aload rfl (x_iload rfl (x_iload rfl (x_cvb rfl (Nat.le_of_ble_eq_true rfl) (isO_W W (by decide) shp_0) ⟨by decide, by decide⟩ (x_turnsBy W hC hR hV hc hS.2.1 (KCm.query hS ⟨fun hT h1 w1 W1 k1 hS1 => xk_go (x_i2l (w_last W1 0 (by decide) shp_96 rfl (by decide) (by decide) (fun h2 W2 => x_goto (hJ 1 _ _ rfl _ _ _ _ (x_sipush (x_iret (nrwI _) ?_)))))), fun j hT h8 w8 W8 k1 hS1 => ?_⟩))))))))
  · exact kk.yes hT W2 (kl96 k1) hS1.sv (fun r z => wl96.trans (Option.some.inj z))
  · rcases (show j = 0 ∨ j = 1 ∨ j = 2 by omega) with rfl | rfl | rfl <;> exact kk.no hT W8 k1 hS1
theorem w_two {x : Int32} {y : Int32} {z : Int32} (W : WW ad w h) (hS : RCl w S) (hO : SOK S) (hTn : (twoT S.1 x y) ≤ 2) (kk : KL ad P w (twoT S.1 x y) (some ((twoV S.1 x y z)).toInt64) S S) : WP ga L xs (d + 5) 271 [.ref (ad 0), .int x, .int y, .int z, .ref (ad 96)] h P := by
  obtain ⟨i, hb, hR⟩ := id hS.1
  have hC := hb.isC
  have hc := hb.2.1
  have hV := hO.1
  have hn20 := hb.n20
  refine WP.enter kL_two (Nat.le_of_ble_eq_true rfl) (fun J hJ => ?_)
  refine hJ 0 _ _ rfl _ _ _ _ (x_aload rfl (x_sipush (x_aload rfl (x_iload rfl (x_iload rfl (x_iload rfl (x_cvb rfl (Nat.le_of_ble_eq_true rfl) (isO_W W (by decide) shp_0) ⟨by decide, by decide⟩ (x_two W hC hR hV hc (KCm.query hS ⟨fun hT h1 w1 W1 k1 hS1 => xk_go (x_i2l (w_last W1 0 (by decide) shp_96 rfl (by decide) (by decide) (fun h2 W2 => x_goto (hJ 1 _ _ rfl _ _ _ _ (x_sipush (x_iret (nrwI _) ?_)))))), fun j hT h8 w8 W8 k1 hS1 => ?_⟩)))))))))
  · exact kk.yes hT W2 (kl96 k1) hS1.sv (fun r z => wl96.trans (Option.some.inj z))
  · rcases (show j = 0 ∨ j = 1 by omega) with rfl | rfl <;> exact kk.no hT W8 k1 hS1
theorem w_pay {s : Int32} (W : WW ad w h) (hS : RCl w S) (hO : SOK S) (hTn : (setT S.1 s) ≤ 1) (kk : KL ad P w (setT S.1 s) (some ((payAllV S.1 s)).toInt64) S S) : WP ga L xs (d + 5) 272 [.ref (ad 0), .int s, .ref (ad 96)] h P := by
  obtain ⟨i, hb, hR⟩ := id hS.1
  have hC := hb.isC
  have hc := hb.2.1
  have hV := hO.1
  have hn20 := hb.n20
  refine WP.enter kL_pay (Nat.le_of_ble_eq_true rfl) (fun J hJ => ?_)
  refine hJ 0 _ _ rfl _ _ _ _ (x_aload rfl (x_sipush (x_aload rfl (x_iload rfl (x_cvb rfl (Nat.le_of_ble_eq_true rfl) (isO_W W (by decide) shp_0) ⟨by decide, by decide⟩ (x_pay W hC hR hV hc (KCm.query hS ⟨fun hT h1 w1 W1 k1 hS1 => xk_go (x_i2l (w_last W1 0 (by decide) shp_96 rfl (by decide) (by decide) (fun h2 W2 => x_goto (hJ 1 _ _ rfl _ _ _ _ (x_sipush (x_iret (nrwI _) ?_)))))), fun j hT h8 w8 W8 k1 hS1 => ?_⟩)))))))
  · exact kk.yes hT W2 (kl96 k1) hS1.sv (fun r z => wl96.trans (Option.some.inj z))
  · rcases (show j = 0 by omega) with rfl <;> exact kk.no hT W8 k1 hS1
theorem w_pivots {s : Int32} (W : WW ad w h) (hS : RCl w S) (hO : SOK S) (hTn : (setT S.1 s) ≤ 1) (kk : KL ad P w (setT S.1 s) (some ((pivV S.1 s)).toInt64) S S) : WP ga L xs (d + 5) 273 [.ref (ad 0), .int s, .ref (ad 96)] h P := by
  obtain ⟨i, hb, hR⟩ := id hS.1
  have hC := hb.isC
  have hc := hb.2.1
  have hV := hO.1
  have hn20 := hb.n20
  refine WP.enter kL_pivots (Nat.le_of_ble_eq_true rfl) (fun J hJ => ?_)
  refine hJ 0 _ _ rfl _ _ _ _ (x_aload rfl (x_sipush (x_aload rfl (x_iload rfl (x_cvb rfl (Nat.le_of_ble_eq_true rfl) (isO_W W (by decide) shp_0) ⟨by decide, by decide⟩ (x_pivots W hC hR hV hc (KCm.query hS ⟨fun hT h1 w1 W1 k1 hS1 => xk_go (x_i2l (w_last W1 0 (by decide) shp_96 rfl (by decide) (by decide) (fun h2 W2 => x_goto (hJ 1 _ _ rfl _ _ _ _ (x_sipush (x_iret (nrwI _) ?_)))))), fun j hT h8 w8 W8 k1 hS1 => ?_⟩)))))))
  · exact kk.yes hT W2 (kl96 k1) hS1.sv (fun r z => wl96.trans (Option.some.inj z))
  · rcases (show j = 0 by omega) with rfl <;> exact kk.no hT W8 k1 hS1
theorem w_replies {s : Int32} {x : Int32} (W : WW ad w h) (hS : RCl w S) (hO : SOK S) (hTn : (replT S.1 s x) ≤ 1) (kk : KL ad P w (replT S.1 s x) (some ((replV S.1 s x)).toInt64) S S) : WP ga L xs (d + 5) 274 [.ref (ad 0), .int s, .int x, .ref (ad 96)] h P := by
  obtain ⟨i, hb, hR⟩ := id hS.1
  have hC := hb.isC
  have hc := hb.2.1
  have hV := hO.1
  have hn20 := hb.n20
  refine WP.enter kL_replies (Nat.le_of_ble_eq_true rfl) (fun J hJ => ?_)
  refine hJ 0 _ _ rfl _ _ _ _ (x_aload rfl (x_sipush (x_aload rfl (x_iload rfl (x_iload rfl (x_cvb rfl (Nat.le_of_ble_eq_true rfl) (isO_W W (by decide) shp_0) ⟨by decide, by decide⟩ (x_replies W hC hR hV hc (KCm.query hS ⟨fun hT h1 w1 W1 k1 hS1 => xk_go (x_i2l (w_last W1 0 (by decide) shp_96 rfl (by decide) (by decide) (fun h2 W2 => x_goto (hJ 1 _ _ rfl _ _ _ _ (x_sipush (x_iret (nrwI _) ?_)))))), fun j hT h8 w8 W8 k1 hS1 => ?_⟩))))))))
  · exact kk.yes hT W2 (kl96 k1) hS1.sv (fun r z => wl96.trans (Option.some.inj z))
  · rcases (show j = 0 by omega) with rfl <;> exact kk.no hT W8 k1 hS1
theorem w_bribe {s : Int32} (W : WW ad w h) (hS : RCl w S) (hO : SOK S) (hTn : (setT S.1 s) ≤ 1) (kk : KL ad P w (setT S.1 s) (some ((bribeV S.1 s)).toInt64) S S) : WP ga L xs (d + 7) 275 [.ref (ad 0), .int s, .ref (ad 96)] h P := by
  obtain ⟨i, hb, hR⟩ := id hS.1
  have hC := hb.isC
  have hc := hb.2.1
  have hV := hO.1
  have hn20 := hb.n20
  refine WP.enter kL_bribe (Nat.le_of_ble_eq_true rfl) (fun J hJ => ?_)
  refine hJ 0 _ _ rfl _ _ _ _ (x_aload rfl (x_sipush (x_aload rfl (x_iload rfl (x_cvb rfl (Nat.le_of_ble_eq_true rfl) (isO_W W (by decide) shp_0) ⟨by decide, by decide⟩ (x_bribe W hC hR hV hc (KCm.query hS ⟨fun hT h1 w1 W1 k1 hS1 => xk_go (x_i2l (w_last W1 0 (by decide) shp_96 rfl (by decide) (by decide) (fun h2 W2 => x_goto (hJ 1 _ _ rfl _ _ _ _ (x_sipush (x_iret (nrwI _) ?_)))))), fun j hT h8 w8 W8 k1 hS1 => ?_⟩)))))))
  · exact kk.yes hT W2 (kl96 k1) hS1.sv (fun r z => wl96.trans (Option.some.inj z))
  · rcases (show j = 0 by omega) with rfl <;> exact kk.no hT W8 k1 hS1
theorem w_leastBribe {x : Int32} (W : WW ad w h) (hS : RCl w S) (hO : SOK S) (hTn : (whatT x) ≤ 1) (kk : KL ad P w (whatT x) (some ((leastV S.1 (bribeV S.1) x)).toInt64) S S) : WP ga L xs (d + 7) 276 [.ref (ad 0), .int x, .ref (ad 96)] h P := by
  obtain ⟨i, hb, hR⟩ := id hS.1
  have hC := hb.isC
  have hc := hb.2.1
  have hV := hO.1
  have hn20 := hb.n20
  refine WP.enter kL_leastBribe (Nat.le_of_ble_eq_true rfl) (fun J hJ => ?_)
  refine hJ 0 _ _ rfl _ _ _ _ (x_aload rfl (x_sipush (x_aload rfl (x_iload rfl (x_cvb rfl (Nat.le_of_ble_eq_true rfl) (isO_W W (by decide) shp_0) ⟨by decide, by decide⟩ (x_leastBribe W hC hR hV hc (KCm.query hS ⟨fun hT h1 w1 W1 k1 hS1 => xk_go (x_i2l (w_last W1 0 (by decide) shp_96 rfl (by decide) (by decide) (fun h2 W2 => x_goto (hJ 1 _ _ rfl _ _ _ _ (x_sipush (x_iret (nrwI _) ?_)))))), fun j hT h8 w8 W8 k1 hS1 => ?_⟩)))))))
  · exact kk.yes hT W2 (kl96 k1) hS1.sv (fun r z => wl96.trans (Option.some.inj z))
  · rcases (show j = 0 by omega) with rfl <;> exact kk.no hT W8 k1 hS1
theorem w_contract {x : Int32} (W : WW ad w h) (hS : RCl w S) (hO : SOK S) (hTn : (whatT x) ≤ 1) (kk : KL ad P w (whatT x) (some ((leastV S.1 (costAllV S.1) x)).toInt64) S S) : WP ga L xs (d + 4) 277 [.ref (ad 0), .int x, .ref (ad 96)] h P := by
  obtain ⟨i, hb, hR⟩ := id hS.1
  have hC := hb.isC
  have hc := hb.2.1
  have hV := hO.1
  have hn20 := hb.n20
  refine WP.enter kL_contract (Nat.le_of_ble_eq_true rfl) (fun J hJ => ?_)
  refine hJ 0 _ _ rfl _ _ _ _ (x_aload rfl (x_sipush (x_aload rfl (x_iload rfl (x_cvb rfl (Nat.le_of_ble_eq_true rfl) (isO_W W (by decide) shp_0) ⟨by decide, by decide⟩ (x_contract W hC hR hV hc (KCm.query hS ⟨fun hT h1 w1 W1 k1 hS1 => xk_go (x_i2l (w_last W1 0 (by decide) shp_96 rfl (by decide) (by decide) (fun h2 W2 => x_goto (hJ 1 _ _ rfl _ _ _ _ (x_sipush (x_iret (nrwI _) ?_)))))), fun j hT h8 w8 W8 k1 hS1 => ?_⟩)))))))
  · exact kk.yes hT W2 (kl96 k1) hS1.sv (fun r z => wl96.trans (Option.some.inj z))
  · rcases (show j = 0 by omega) with rfl <;> exact kk.no hT W8 k1 hS1
theorem w_odds {x : Int32} {y : Int32} {z : Int32} (W : WW ad w h) (hS : RCl w S) (hO : SOK S) (hTn : (oddsT x y) ≤ 1) (kk : KL ad P w (oddsT x y) (some (waysV (nm S.1) z (tN x) (tN y))) S S) : WP ga L xs (d + 5) 278 [.ref (ad 0), .int x, .int y, .int z, .ref (ad 96)] h P := by
  obtain ⟨i, hb, hR⟩ := id hS.1
  have hC := hb.isC
  have hc := hb.2.1
  have hV := hO.1
  have hn20 := hb.n20
  refine WP.enter kL_odds (Nat.le_of_ble_eq_true rfl) (fun J hJ => ?_)
  refine hJ 0 _ _ rfl _ _ _ _ (x_aload rfl (x_sipush (x_aload rfl (x_iload rfl (x_iload rfl (x_iload rfl (x_cvb rfl (Nat.le_of_ble_eq_true rfl) (isO_W W (by decide) shp_0) ⟨by decide, by decide⟩ (x_odds W hC hR hV hc (KCm.query hS ⟨fun hT h1 w1 W1 k1 hS1 => xk_go (w_last W1 0 (by decide) shp_96 rfl (by decide) (by decide) (fun h2 W2 => x_goto (hJ 1 _ _ rfl _ _ _ _ (x_sipush (x_iret (nrwI _) ?_))))), fun j hT h8 w8 W8 k1 hS1 => ?_⟩)))))))))
  · exact kk.yes hT W2 (kl96 k1) hS1.sv (fun r z => wl96.trans (Option.some.inj z))
  · rcases (show j = 0 by omega) with rfl <;> exact kk.no hT W8 k1 hS1
theorem w_bestOdds {y : Int32} (W : WW ad w h) (hS : RCl w S) (hO : SOK S) (hTn : (bT y) ≤ 1) (kk : KL ad P w (bT y) (some ((bestOddsV S.1 (tN y))).toInt64) S S) : WP ga L xs (d + 5) 279 [.ref (ad 0), .int y, .ref (ad 96)] h P := by
  obtain ⟨i, hb, hR⟩ := id hS.1
  have hC := hb.isC
  have hc := hb.2.1
  have hV := hO.1
  have hn20 := hb.n20
  refine WP.enter kL_bestOdds (Nat.le_of_ble_eq_true rfl) (fun J hJ => ?_)
  refine hJ 0 _ _ rfl _ _ _ _ (x_aload rfl (x_sipush (x_aload rfl (x_iload rfl (x_cvb rfl (Nat.le_of_ble_eq_true rfl) (isO_W W (by decide) shp_0) ⟨by decide, by decide⟩ (x_bestOdds W hC hR hV hc (KCm.query hS ⟨fun hT h1 w1 W1 k1 hS1 => xk_go (x_i2l (w_last W1 0 (by decide) shp_96 rfl (by decide) (by decide) (fun h2 W2 => x_goto (hJ 1 _ _ rfl _ _ _ _ (x_sipush (x_iret (nrwI _) ?_)))))), fun j hT h8 w8 W8 k1 hS1 => ?_⟩)))))))
  · exact kk.yes hT W2 (kl96 k1) hS1.sv (fun r z => wl96.trans (Option.some.inj z))
  · rcases (show j = 0 by omega) with rfl <;> exact kk.no hT W8 k1 hS1
theorem w_chances {x : Int32} {y : Int32} {z : Int32} (W : WW ad w h) (hS : RCl w S) (hO : SOK S) (hTn : (chanT S.2.1 S.1 x y) ≤ 3) (kk : KL ad P w (chanT S.2.1 S.1 x y) (some (chanV S.2.1 S.1 x y z)) S S) : WP ga L xs (d + 5) 280 [.ref (ad 0), .int x, .int y, .int z, .ref (ad 96)] h P := by
  obtain ⟨i, hb, hR⟩ := id hS.1
  have hC := hb.isC
  have hc := hb.2.1
  have hV := hO.1
  have hn20 := hb.n20
  refine WP.enter kL_chances (Nat.le_of_ble_eq_true rfl) (fun J hJ => ?_)
  refine hJ 0 _ _ rfl _ _ _ _ (x_aload rfl (x_sipush (x_aload rfl (x_iload rfl (x_iload rfl (x_iload rfl (x_cvb rfl (Nat.le_of_ble_eq_true rfl) (isO_W W (by decide) shp_0) ⟨by decide, by decide⟩ (x_chances W hC hn20 hR hV hc hS.2.1 (KCm.query hS ⟨fun hT h1 w1 W1 k1 hS1 => xk_go (w_last W1 0 (by decide) shp_96 rfl (by decide) (by decide) (fun h2 W2 => x_goto (hJ 1 _ _ rfl _ _ _ _ (x_sipush (x_iret (nrwI _) ?_))))), fun j hT h8 w8 W8 k1 hS1 => ?_⟩)))))))))
  · exact kk.yes hT W2 (kl96 k1) hS1.sv (fun r z => wl96.trans (Option.some.inj z))
  · rcases (show j = 0 ∨ j = 1 ∨ j = 2 by omega) with rfl | rfl | rfl <;> exact kk.no hT W8 k1 hS1
theorem w_hope {x : Int32} {y : Int32} {z : Int32} {u : Int32} (W : WW ad w h) (hS : RCl w S) (hO : SOK S) (hTn : (hopeT S.1 x y z u) ≤ 2) (kk : KL ad P w (hopeT S.1 x y z u) (some (hopeV S.1 x y z u)) S S) : WP ga L xs (d + 5) 281 [.ref (ad 0), .int x, .int y, .int z, .int u, .ref (ad 96)] h P := by
  obtain ⟨i, hb, hR⟩ := id hS.1
  have hC := hb.isC
  have hc := hb.2.1
  have hV := hO.1
  have hn20 := hb.n20
  refine WP.enter kL_hope (Nat.le_of_ble_eq_true rfl) (fun J hJ => ?_)
  refine hJ 0 _ _ rfl _ _ _ _ (x_aload rfl (x_sipush (x_aload rfl (x_iload rfl (x_iload rfl (x_iload rfl (x_iload rfl (x_cvb rfl (Nat.le_of_ble_eq_true rfl) (isO_W W (by decide) shp_0) ⟨by decide, by decide⟩ (x_hope W hC hR hV hc (KCm.query hS ⟨fun hT h1 w1 W1 k1 hS1 => xk_go (w_last W1 0 (by decide) shp_96 rfl (by decide) (by decide) (fun h2 W2 => x_goto (hJ 1 _ _ rfl _ _ _ _ (x_sipush (x_iret (nrwI _) ?_))))), fun j hT h8 w8 W8 k1 hS1 => ?_⟩))))))))))
  · exact kk.yes hT W2 (kl96 k1) hS1.sv (fun r z => wl96.trans (Option.some.inj z))
  · rcases (show j = 0 ∨ j = 1 by omega) with rfl | rfl <;> exact kk.no hT W8 k1 hS1
theorem w_ahead {x : Int32} {y : Int32} (W : WW ad w h) (hS : RCl w S) (hO : SOK S) (hTn : (aheadT x y) ≤ 1) (kk : KL ad P w (aheadT x y) (some ((aheadV S.1 x y)).toInt64) S S) : WP ga L xs (d + 8) 282 [.ref (ad 0), .int x, .int y, .ref (ad 96)] h P := by
  obtain ⟨i, hb, hR⟩ := id hS.1
  have hC := hb.isC
  have hc := hb.2.1
  have hV := hO.1
  have hn20 := hb.n20
  refine WP.enter kL_ahead (Nat.le_of_ble_eq_true rfl) (fun J hJ => ?_)
  refine hJ 0 _ _ rfl _ _ _ _ (x_aload rfl (x_sipush (x_aload rfl (x_iload rfl (x_iload rfl (x_cvb rfl (Nat.le_of_ble_eq_true rfl) (isO_W W (by decide) shp_0) ⟨by decide, by decide⟩ (x_ahead W hC hR hV hc (KCm.query hS ⟨fun hT h1 w1 W1 k1 hS1 => xk_go (x_i2l (w_last W1 0 (by decide) shp_96 rfl (by decide) (by decide) (fun h2 W2 => x_goto (hJ 1 _ _ rfl _ _ _ _ (x_sipush (x_iret (nrwI _) ?_)))))), fun j hT h8 w8 W8 k1 hS1 => ?_⟩))))))))
  · exact kk.yes hT W2 (kl96 k1) hS1.sv (fun r z => wl96.trans (Option.some.inj z))
  · rcases (show j = 0 by omega) with rfl <;> exact kk.no hT W8 k1 hS1
theorem w_ring {x : Int32} {R : Int32} (W : WW ad w h) (hS : RCl w S) (hO : SOK S) (hRr : ringR S.1 x R) (hTn : (whatT x) ≤ 1) (kk : KL ad P w (whatT x) (some (R).toInt64) S S) : WP ga L xs (d + 8) 283 [.ref (ad 0), .int x, .ref (ad 96)] h P := by
  obtain ⟨i, hb, hR⟩ := id hS.1
  have hC := hb.isC
  have hc := hb.2.1
  have hV := hO.1
  have hn20 := hb.n20
  refine WP.enter kL_ring (Nat.le_of_ble_eq_true rfl) (fun J hJ => ?_)
  refine hJ 0 _ _ rfl _ _ _ _ (x_aload rfl (x_sipush (x_aload rfl (x_iload rfl (x_cvb rfl (Nat.le_of_ble_eq_true rfl) (isO_W W (by decide) shp_0) ⟨by decide, by decide⟩ (x_ring W hC hR hV hc hRr (KCm.query hS ⟨fun hT h1 w1 W1 k1 hS1 => xk_go (x_i2l (w_last W1 0 (by decide) shp_96 rfl (by decide) (by decide) (fun h2 W2 => x_goto (hJ 1 _ _ rfl _ _ _ _ (x_sipush (x_iret (nrwI _) ?_)))))), fun j hT h8 w8 W8 k1 hS1 => ?_⟩)))))))
  · exact kk.yes hT W2 (kl96 k1) hS1.sv (fun r z => wl96.trans (Option.some.inj z))
  · rcases (show j = 0 by omega) with rfl <;> exact kk.no hT W8 k1 hS1
theorem w_worth {x : Int32} {y : Int32} (W : WW ad w h) (hS : RCl w S) (hO : SOK S) (hTn : (worthT S.1 x y) ≤ 2) (kk : KL ad P w (worthT S.1 x y) (some ((worthV S.1 x y)).toInt64) S S) : WP ga L xs (d + 8) 284 [.ref (ad 0), .int x, .int y, .ref (ad 96)] h P := by
  obtain ⟨i, hb, hR⟩ := id hS.1
  have hC := hb.isC
  have hc := hb.2.1
  have hV := hO.1
  have hn20 := hb.n20
  refine WP.enter kL_worth (Nat.le_of_ble_eq_true rfl) (fun J hJ => ?_)
  refine hJ 0 _ _ rfl _ _ _ _ (x_aload rfl (x_sipush (x_aload rfl (x_iload rfl (x_iload rfl (x_cvb rfl (Nat.le_of_ble_eq_true rfl) (isO_W W (by decide) shp_0) ⟨by decide, by decide⟩ (x_worth W hC hR hV hc hn20 (KCm.query hS ⟨fun hT h1 w1 W1 k1 hS1 => xk_go (x_i2l (w_last W1 0 (by decide) shp_96 rfl (by decide) (by decide) (fun h2 W2 => x_goto (hJ 1 _ _ rfl _ _ _ _ (x_sipush (x_iret (nrwI _) ?_)))))), fun j hT h8 w8 W8 k1 hS1 => ?_⟩))))))))
  · exact kk.yes hT W2 (kl96 k1) hS1.sv (fun r z => wl96.trans (Option.some.inj z))
  · rcases (show j = 0 ∨ j = 1 by omega) with rfl | rfl <;> exact kk.no hT W8 k1 hS1
theorem w_bestQuota {x : Int32} (W : WW ad w h) (hS : RCl w S) (hO : SOK S) (hTn : (weeksT x) ≤ 1) (kk : KL ad P w (weeksT x) (some ((bqV S.1 (tN x))).toInt64) S S) : WP ga L xs (d + 8) 285 [.ref (ad 0), .int x, .ref (ad 96)] h P := by
  obtain ⟨i, hb, hR⟩ := id hS.1
  have hC := hb.isC
  have hc := hb.2.1
  have hV := hO.1
  have hn20 := hb.n20
  refine WP.enter kL_bestQuota (Nat.le_of_ble_eq_true rfl) (fun J hJ => ?_)
  refine hJ 0 _ _ rfl _ _ _ _ (x_aload rfl (x_sipush (x_aload rfl (x_iload rfl (x_cvb rfl (Nat.le_of_ble_eq_true rfl) (isO_W W (by decide) shp_0) ⟨by decide, by decide⟩ (x_bestQuota W hC hR hV hc hn20 (KCm.query hS ⟨fun hT h1 w1 W1 k1 hS1 => xk_go (x_i2l (w_last W1 0 (by decide) shp_96 rfl (by decide) (by decide) (fun h2 W2 => x_goto (hJ 1 _ _ rfl _ _ _ _ (x_sipush (x_iret (nrwI _) ?_)))))), fun j hT h8 w8 W8 k1 hS1 => ?_⟩)))))))
  · exact kk.yes hT W2 (kl96 k1) hS1.sv (fun r z => wl96.trans (Option.some.inj z))
  · rcases (show j = 0 by omega) with rfl <;> exact kk.no hT W8 k1 hS1
theorem w_bestRule {x : Int32} {y : Int32} {z : Int32} (W : WW ad w h) (hS : RCl w S) (hO : SOK S) (hTn : (bestRuleT S.1 x y z) ≤ 2) (kk : KL ad P w (bestRuleT S.1 x y z) (some ((bestRuleV S.1 (tN x) (tN y) z)).toInt64) S S) : WP ga L xs (d + 8) 286 [.ref (ad 0), .int x, .int y, .int z, .ref (ad 96)] h P := by
  obtain ⟨i, hb, hR⟩ := id hS.1
  have hC := hb.isC
  have hc := hb.2.1
  have hV := hO.1
  have hn20 := hb.n20
  refine WP.enter kL_bestRule (Nat.le_of_ble_eq_true rfl) (fun J hJ => ?_)
  refine hJ 0 _ _ rfl _ _ _ _ (x_aload rfl (x_sipush (x_aload rfl (x_iload rfl (x_iload rfl (x_iload rfl (x_cvb rfl (Nat.le_of_ble_eq_true rfl) (isO_W W (by decide) shp_0) ⟨by decide, by decide⟩ (x_bestRule W hC hR hV hc hn20 (KCm.query hS ⟨fun hT h1 w1 W1 k1 hS1 => xk_go (x_i2l (w_last W1 0 (by decide) shp_96 rfl (by decide) (by decide) (fun h2 W2 => x_goto (hJ 1 _ _ rfl _ _ _ _ (x_sipush (x_iret (nrwI _) ?_)))))), fun j hT h8 w8 W8 k1 hS1 => ?_⟩)))))))))
  · exact kk.yes hT W2 (kl96 k1) hS1.sv (fun r z => wl96.trans (Option.some.inj z))
  · rcases (show j = 0 ∨ j = 1 by omega) with rfl | rfl <;> exact kk.no hT W8 k1 hS1
theorem w_streak {x : Int32} (W : WW ad w h) (hS : RCl w S) (hO : SOK S) (hTn : (whatT x) ≤ 1) (kk : KL ad P w (whatT x) (some ((streakV S.1 x)).toInt64) S S) : WP ga L xs (d + 4) 287 [.ref (ad 0), .int x, .ref (ad 96)] h P := by
  obtain ⟨i, hb, hR⟩ := id hS.1
  have hC := hb.isC
  have hc := hb.2.1
  have hV := hO.1
  have hn20 := hb.n20
  refine WP.enter kL_streak (Nat.le_of_ble_eq_true rfl) (fun J hJ => ?_)
  refine hJ 0 _ _ rfl _ _ _ _ (x_aload rfl (x_sipush (x_aload rfl (x_iload rfl (x_cvb rfl (Nat.le_of_ble_eq_true rfl) (isO_W W (by decide) shp_0) ⟨by decide, by decide⟩ (x_streak W hC hR hV hc (KCm.query hS ⟨fun hT h1 w1 W1 k1 hS1 => xk_go (x_i2l (w_last W1 0 (by decide) shp_96 rfl (by decide) (by decide) (fun h2 W2 => x_goto (hJ 1 _ _ rfl _ _ _ _ (x_sipush (x_iret (nrwI _) ?_)))))), fun j hT h8 w8 W8 k1 hS1 => ?_⟩)))))))
  · exact kk.yes hT W2 (kl96 k1) hS1.sv (fun r z => wl96.trans (Option.some.inj z))
  · rcases (show j = 0 by omega) with rfl <;> exact kk.no hT W8 k1 hS1
theorem w_together {x : Int32} {y : Int32} (W : WW ad w h) (hS : RCl w S) (hO : SOK S) (hTn : (togT S.1 x y) ≤ 1) (kk : KL ad P w (togT S.1 x y) (some ((bothV S.1 (tN x) (tN y))).toInt64) S S) : WP ga L xs (d + 3) 288 [.ref (ad 0), .int x, .int y, .ref (ad 96)] h P := by
  obtain ⟨i, hb, hR⟩ := id hS.1
  have hC := hb.isC
  have hc := hb.2.1
  have hV := hO.1
  have hn20 := hb.n20
  refine WP.enter kL_together (Nat.le_of_ble_eq_true rfl) (fun J hJ => ?_)
  refine hJ 0 _ _ rfl _ _ _ _ (x_aload rfl (x_sipush (x_aload rfl (x_iload rfl (x_iload rfl (x_cvb rfl (Nat.le_of_ble_eq_true rfl) (isO_W W (by decide) shp_0) ⟨by decide, by decide⟩ (x_together W hC hR hV hc (KCm.query hS ⟨fun hT h1 w1 W1 k1 hS1 => xk_go (x_i2l (w_last W1 0 (by decide) shp_96 rfl (by decide) (by decide) (fun h2 W2 => x_goto (hJ 1 _ _ rfl _ _ _ _ (x_sipush (x_iret (nrwI _) ?_)))))), fun j hT h8 w8 W8 k1 hS1 => ?_⟩))))))))
  · exact kk.yes hT W2 (kl96 k1) hS1.sv (fun r z => wl96.trans (Option.some.inj z))
  · rcases (show j = 0 by omega) with rfl <;> exact kk.no hT W8 k1 hS1
theorem w_doubts {x : Int32} {y : Int32} (W : WW ad w h) (hS : RCl w S) (hO : SOK S) (hTn : (doubtT S.1 x y) ≤ 1) (kk : KL ad P w (doubtT S.1 x y) (some ((doubtsV S.1 (tN x) (tN y))).toInt64) S S) : WP ga L xs (d + 4) 289 [.ref (ad 0), .int x, .int y, .ref (ad 96)] h P := by
  obtain ⟨i, hb, hR⟩ := id hS.1
  have hC := hb.isC
  have hc := hb.2.1
  have hV := hO.1
  have hn20 := hb.n20
  refine WP.enter kL_doubts (Nat.le_of_ble_eq_true rfl) (fun J hJ => ?_)
  refine hJ 0 _ _ rfl _ _ _ _ (x_aload rfl (x_sipush (x_aload rfl (x_iload rfl (x_iload rfl (x_cvb rfl (Nat.le_of_ble_eq_true rfl) (isO_W W (by decide) shp_0) ⟨by decide, by decide⟩ (x_doubts W hC hR hV hc (KCm.query hS ⟨fun hT h1 w1 W1 k1 hS1 => xk_go (x_i2l (w_last W1 0 (by decide) shp_96 rfl (by decide) (by decide) (fun h2 W2 => x_goto (hJ 1 _ _ rfl _ _ _ _ (x_sipush (x_iret (nrwI _) ?_)))))), fun j hT h8 w8 W8 k1 hS1 => ?_⟩))))))))
  · exact kk.yes hT W2 (kl96 k1) hS1.sv (fun r z => wl96.trans (Option.some.inj z))
  · rcases (show j = 0 by omega) with rfl <;> exact kk.no hT W8 k1 hS1
theorem w_cook {c : Int32} (W : WW ad w h) (hS : RCl w S) (hO : SOK S) (hTn : (cookT c) ≤ 1) (kk : KL ad P w (cookT c) (some ((cookSV S.1 c)).toInt64) S S) : WP ga L xs (d + 6) 290 [.ref (ad 0), .int c, .ref (ad 96)] h P := by
  obtain ⟨i, hb, hR⟩ := id hS.1
  have hC := hb.isC
  have hc := hb.2.1
  have hV := hO.1
  have hn20 := hb.n20
  refine WP.enter kL_cook (Nat.le_of_ble_eq_true rfl) (fun J hJ => ?_)
  refine hJ 0 _ _ rfl _ _ _ _ (x_aload rfl (x_sipush (x_aload rfl (x_iload rfl (x_cvb rfl (Nat.le_of_ble_eq_true rfl) (isO_W W (by decide) shp_0) ⟨by decide, by decide⟩ (x_cook W hC hR hV hc (KCm.query hS ⟨fun hT h1 w1 W1 k1 hS1 => xk_go (x_i2l (w_last W1 0 (by decide) shp_96 rfl (by decide) (by decide) (fun h2 W2 => x_goto (hJ 1 _ _ rfl _ _ _ _ (x_sipush (x_iret (nrwI _) ?_)))))), fun j hT h8 w8 W8 k1 hS1 => ?_⟩)))))))
  · exact kk.yes hT W2 (kl96 k1) hS1.sv (fun r z => wl96.trans (Option.some.inj z))
  · rcases (show j = 0 by omega) with rfl <;> exact kk.no hT W8 k1 hS1
theorem w_guess {c : Int32} (W : WW ad w h) (hS : RCl w S) (hO : SOK S) (hTn : (cookT c) ≤ 1) (kk : KL ad P w (cookT c) (some ((cookV S.1 c (wk S.1))).toInt64) S S) : WP ga L xs (d + 6) 291 [.ref (ad 0), .int c, .ref (ad 96)] h P := by
  obtain ⟨i, hb, hR⟩ := id hS.1
  have hC := hb.isC
  have hc := hb.2.1
  have hV := hO.1
  have hn20 := hb.n20
  refine WP.enter kL_guess (Nat.le_of_ble_eq_true rfl) (fun J hJ => ?_)
  refine hJ 0 _ _ rfl _ _ _ _ (x_aload rfl (x_sipush (x_aload rfl (x_iload rfl (x_cvb rfl (Nat.le_of_ble_eq_true rfl) (isO_W W (by decide) shp_0) ⟨by decide, by decide⟩ (x_guess W hC hR hV hc (KCm.query hS ⟨fun hT h1 w1 W1 k1 hS1 => xk_go (x_i2l (w_last W1 0 (by decide) shp_96 rfl (by decide) (by decide) (fun h2 W2 => x_goto (hJ 1 _ _ rfl _ _ _ _ (x_sipush (x_iret (nrwI _) ?_)))))), fun j hT h8 w8 W8 k1 hS1 => ?_⟩)))))))
  · exact kk.yes hT W2 (kl96 k1) hS1.sv (fun r z => wl96.trans (Option.some.inj z))
  · rcases (show j = 0 by omega) with rfl <;> exact kk.no hT W8 k1 hS1
theorem w_tray {x : Int32} {y : Int32} {z : Int32} (W : WW ad w h) (hS : RCl w S) (hO : SOK S) (hTn : (trayT x y z) ≤ 2) (kk : KL ad P w (trayT x y z) none S (S.1, layV S.2.1 (tN x) y z, S.2.2)) : WP ga L xs (d + 5) 292 [.ref (ad 0), .int x, .int y, .int z] h P := by
  obtain ⟨i, hb, hR⟩ := id hS.1
  have hC := hb.isC
  have hc := hb.2.1
  have hV := hO.1
  have hn20 := hb.n20
  refine WP.enter kL_tray (Nat.le_of_ble_eq_true rfl) (fun J hJ => ?_)
  refine hJ 0 _ _ rfl _ _ _ _ (x_aload rfl (x_iload rfl (x_iload rfl (x_iload rfl (x_cvb rfl (Nat.le_of_ble_eq_true rfl) (isO_W W (by decide) shp_0) ⟨by decide, by decide⟩ (x_tray W hS hO ⟨fun hT h1 w1 W1 k1 hS1 => xk_v (x_goto (hJ 1 _ _ rfl _ _ _ _ (x_sipush (x_iret (nrwI _) ?_)))), fun j hT h8 w8 W8 k1 hS1 => ?_⟩))))))
  · exact kk.yes hT W1 (fun i h1 _ => k1 i h1) hS1 (fun r z => by cases z)
  · rcases (show j = 0 ∨ j = 1 by omega) with rfl | rfl <;> exact kk.no hT W8 k1 hS1
theorem w_write {x : Int32} {y : Int32} {v : Int64} (W : WW ad w h) (hS : RCl w S) (hO : SOK S) (hTn : (writT S.2.1 x y) ≤ 3) (kk : KL ad P w (writT S.2.1 x y) (some (cutV (S.2.1.1 (tN x)) v)) S (S.1, putV S.2.1 (tN x) (tN y) v, S.2.2)) : WP ga L xs (d + 5) 293 [.ref (ad 0), .int x, .int y, .long v, .ref (ad 96)] h P := by
  obtain ⟨i, hb, hR⟩ := id hS.1
  have hC := hb.isC
  have hc := hb.2.1
  have hV := hO.1
  have hn20 := hb.n20
  refine WP.enter kL_write (Nat.le_of_ble_eq_true rfl) (fun J hJ => ?_)
  refine hJ 0 _ _ rfl _ _ _ _ (x_aload rfl (x_sipush (x_aload rfl (x_iload rfl (x_iload rfl (x_lload rfl (x_cvb rfl (Nat.le_of_ble_eq_true rfl) (isO_W W (by decide) shp_0) ⟨by decide, by decide⟩ (x_write W hS hO ⟨fun hT h1 w1 W1 k1 hS1 => xk_go (w_last W1 0 (by decide) shp_96 rfl (by decide) (by decide) (fun h2 W2 => x_goto (hJ 1 _ _ rfl _ _ _ _ (x_sipush (x_iret (nrwI _) ?_))))), fun j hT h8 w8 W8 k1 hS1 => ?_⟩))))))))
  · exact kk.yes hT W2 (kl96 k1) hS1.sv (fun r z => wl96.trans (Option.some.inj z))
  · rcases (show j = 0 ∨ j = 1 ∨ j = 2 by omega) with rfl | rfl | rfl <;> exact kk.no hT W8 k1 hS1
theorem w_pour {x : Int32} (W : WW ad w h) (hS : RCl w S) (hO : SOK S) (hTn : (laidT S.2.1 x) ≤ 2) (kk : KL ad P w (laidT S.2.1 x) (some ((kI (pourN S.2.1 S.1 (tN x) : Int))).toInt64) S (S.1, pourV S.2.1 S.1 (tN x) (pourN S.2.1 S.1 (tN x)), S.2.2)) : WP ga L xs (d + 5) 294 [.ref (ad 0), .int x, .ref (ad 96)] h P := by
  obtain ⟨i, hb, hR⟩ := id hS.1
  have hC := hb.isC
  have hc := hb.2.1
  have hV := hO.1
  have hn20 := hb.n20
  refine WP.enter kL_pour (Nat.le_of_ble_eq_true rfl) (fun J hJ => ?_)
  refine hJ 0 _ _ rfl _ _ _ _ (x_aload rfl (x_sipush (x_aload rfl (x_iload rfl (x_cvb rfl (Nat.le_of_ble_eq_true rfl) (isO_W W (by decide) shp_0) ⟨by decide, by decide⟩ (x_pour W hS hO ⟨fun hT h1 w1 W1 k1 hS1 => xk_go (x_i2l (w_last W1 0 (by decide) shp_96 rfl (by decide) (by decide) (fun h2 W2 => x_goto (hJ 1 _ _ rfl _ _ _ _ (x_sipush (x_iret (nrwI _) ?_)))))), fun j hT h8 w8 W8 k1 hS1 => ?_⟩))))))
  · exact kk.yes hT W2 (kl96 k1) hS1.sv (fun r z => wl96.trans (Option.some.inj z))
  · rcases (show j = 0 ∨ j = 1 by omega) with rfl | rfl <;> exact kk.no hT W8 k1 hS1
theorem w_image {x : Int32} (W : WW ad w h) (hS : RCl w S) (hO : SOK S) (hTn : (imgT x) ≤ 1) (kk : KL ad P w (imgT x) none S (S.1, S.2.1, imgV S.2.2.1 S.1 (tN x), S.2.2.2)) : WP ga L xs (d + 5) 295 [.ref (ad 0), .int x] h P := by
  obtain ⟨i, hb, hR⟩ := id hS.1
  have hC := hb.isC
  have hc := hb.2.1
  have hV := hO.1
  have hn20 := hb.n20
  refine WP.enter kL_image (Nat.le_of_ble_eq_true rfl) (fun J hJ => ?_)
  refine hJ 0 _ _ rfl _ _ _ _ (x_aload rfl (x_iload rfl (x_cvb rfl (Nat.le_of_ble_eq_true rfl) (isO_W W (by decide) shp_0) ⟨by decide, by decide⟩ (x_image W hS hO ⟨fun hT h1 w1 W1 k1 hS1 => xk_v (x_goto (hJ 1 _ _ rfl _ _ _ _ (x_sipush (x_iret (nrwI _) ?_)))), fun j hT h8 w8 W8 k1 hS1 => ?_⟩))))
  · exact kk.yes hT W1 (fun i h1 _ => k1 i h1) hS1 (fun r z => by cases z)
  · rcases (show j = 0 by omega) with rfl <;> exact kk.no hT W8 k1 hS1
theorem w_restore {x : Int32} (W : WW ad w h) (hS : RCl w S) (hO : SOK S) (hTn : (resT S.2.2.1 x) ≤ 2) (kk : KL ad P w (resT S.2.2.1 x) none S (resV S.2.2.1 S.1 (tN x), S.2)) : WP ga L xs (d + 5) 296 [.ref (ad 0), .int x] h P := by
  obtain ⟨i, hb, hR⟩ := id hS.1
  have hC := hb.isC
  have hc := hb.2.1
  have hV := hO.1
  have hn20 := hb.n20
  refine WP.enter kL_restore (Nat.le_of_ble_eq_true rfl) (fun J hJ => ?_)
  refine hJ 0 _ _ rfl _ _ _ _ (x_aload rfl (x_iload rfl (x_cvb rfl (Nat.le_of_ble_eq_true rfl) (isO_W W (by decide) shp_0) ⟨by decide, by decide⟩ (x_restore W hS hO ⟨fun hT h1 w1 W1 k1 hS1 => xk_v (x_goto (hJ 1 _ _ rfl _ _ _ _ (x_sipush (x_iret (nrwI _) ?_)))), fun j hT h8 w8 W8 k1 hS1 => ?_⟩))))
  · exact kk.yes hT W1 (fun i h1 _ => k1 i h1) hS1 (fun r z => by cases z)
  · rcases (show j = 0 ∨ j = 1 by omega) with rfl | rfl <;> exact kk.no hT W8 k1 hS1
end W1
