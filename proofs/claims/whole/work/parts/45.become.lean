/-! ===== one club becomes another ===== -/
theorem cpy0 {f g : Nat → Int32} {n m : Nat} (h : m < n) : va_cpy f g 0 0 n m = f m := by
  unfold va_cpy
  first | (rw [if_pos (by omega)]; congr 1; omega) | simp [h]
section B1
variable {ga : Nat → Nat} {L : Nat} {xs : Nat → Int32} {d : Nat} {h : ac_H} {P : ac_P} {ad : Nat → Nat} {w : Wst} {i : Nat} {V : VT} {t : Nat}
theorem c_become (W : WW ad w h) (hC : isC i) (hT : isC t) (hne : i ≠ t) (hR : CR w i V) (hV : VOK V) (kk : ∀ h' w', WW ad w' h' → kp [t, t + 1, t + 2, t + 3, t + 4] w w' → CR w' t V → P (.inl none) h') : WP ga L xs (d + 1) 4 [.ref (ad t), .ref (ad i)] h P := by
  have hn := hV.n.2
  have hw := hV.w.2
  have hx : ∀ a b : Nat, a ≤ 4 → b ≤ 4 → ¬ i + a = t + b := fun a b ha hb9 => by
    unfold isC at hC hT
    omega
  refine WP.enter kX0_become (Nat.le_of_ble_eq_true rfl) (fun J hJ => ?_)
  refine hJ 0 _ _ rfl _ _ _ _ (x_aload rfl (x_aload rfl (w_geti W 0 0 hC.lt hC.sh rfl rfl (w_puti W 0 0 hT.lt hT.sh rfl rfl (okI rfl) (fun h1 W1 => x_aload rfl (x_aload rfl (w_geti W1 0 1 hC.lt hC.sh rfl rfl (w_puti W1 0 1 hT.lt hT.sh rfl rfl (okI rfl) (fun h2 W2 => x_aload rfl (x_aload rfl (w_geti W2 0 2 hC.lt hC.sh rfl rfl (w_puti W2 0 2 hT.lt hT.sh rfl rfl (okI rfl) (fun h3 W3 => x_aload rfl (x_aload rfl (w_geti W3 0 3 hC.lt hC.sh rfl rfl (w_puti W3 0 3 hT.lt hT.sh rfl rfl (okI rfl) (fun h4 W4 => x_aload rfl (x_aload rfl (w_geti W4 0 4 hC.lt hC.sh rfl rfl (w_puti W4 0 4 hT.lt hT.sh rfl rfl (okI rfl) (fun h5 W5 => x_aload rfl (x_aload rfl (w_geti W5 0 5 hC.lt hC.sh rfl rfl (w_puti W5 0 5 hT.lt hT.sh rfl rfl (okI rfl) (fun h6 W6 => x_aload rfl (x_aload rfl (w_geti W6 0 6 hC.lt hC.sh rfl rfl (w_puti W6 0 6 hT.lt hT.sh rfl rfl (okI rfl) (fun h7 W7 => x_aload rfl (x_aload rfl (w_geti W7 0 7 hC.lt hC.sh rfl rfl (w_puti W7 0 7 hT.lt hT.sh rfl rfl (okI rfl) (fun h8 W8 => x_aload rfl (x_aload rfl (w_geti W8 0 8 hC.lt hC.sh rfl rfl (w_puti W8 0 8 hT.lt hT.sh rfl rfl (okI rfl) (fun h9 W9 => x_aload rfl (x_aload rfl (w_geti W9 0 9 hC.lt hC.sh rfl rfl (w_puti W9 0 9 hT.lt hT.sh rfl rfl (okI rfl) (fun h10 W10 => x_aload rfl (w_getr W10 0 10 (t := i + 1) hC.lt hC.sh rfl rfl (hC.rf1 _) (x_sipush (x_aload rfl (w_getr W10 0 10 (t := t + 1) hT.lt hT.sh rfl rfl (hT.rf1 _) (x_sipush (x_sipush (w_cpy W10 hC.lt1 hT.lt1 hC.sh1 hT.sh1 rfl rfl rfl (by decide) (Nat.le_of_ble_eq_true rfl) (fun h11 W11 => x_aload rfl (w_getr W11 0 11 (t := i + 2) hC.lt hC.sh rfl rfl (hC.rf2 _) (x_sipush (x_aload rfl (w_getr W11 0 11 (t := t + 2) hT.lt hT.sh rfl rfl (hT.rf2 _) (x_sipush (x_sipush (w_cpy W11 hC.lt2 hT.lt2 hC.sh2 hT.sh2 rfl rfl rfl (by decide) (Nat.le_of_ble_eq_true rfl) (fun h12 W12 => x_aload rfl (w_getr W12 0 12 (t := i + 3) hC.lt hC.sh rfl rfl (hC.rf3 _) (x_sipush (x_aload rfl (w_getr W12 0 12 (t := t + 3) hT.lt hT.sh rfl rfl (hT.rf3 _) (x_sipush (x_sipush (w_cpy W12 hC.lt3 hT.lt3 hC.sh3 hT.sh3 rfl rfl rfl (by decide) (Nat.le_of_ble_eq_true rfl) (fun h13 W13 => x_aload rfl (w_getr W13 0 13 (t := i + 4) hC.lt hC.sh rfl rfl (hC.rf4 _) (x_sipush (x_aload rfl (w_getr W13 0 13 (t := t + 4) hT.lt hT.sh rfl rfl (hT.rf4 _) (x_sipush (x_sipush (w_cpy W13 hC.lt4 hT.lt4 hC.sh4 hT.sh4 rfl rfl rfl (by decide) (Nat.le_of_ble_eq_true rfl) (fun h14 W14 => x_vret rfl ?_)))))))))))))))))))))))))))))))))))))))))))))))))))))))))))))))))))))))))
  obtain ⟨⟨a0, a1, a2, a3, a4, a6⟩, hm, hj, h5, h7, h8, h9⟩ := hR
  refine kk _ _ W14 (((((((((((((((kp_refl).trans (kp_sn (by simp))).trans (kp_sn (by simp))).trans (kp_sn (by simp))).trans (kp_sn (by simp))).trans (kp_sn (by simp))).trans (kp_sn (by simp))).trans (kp_sn (by simp))).trans (kp_sn (by simp))).trans (kp_sn (by simp))).trans (kp_sn (by simp))).trans (kp_sa (by simp))).trans (kp_sa (by simp))).trans (kp_sa (by simp))).trans (kp_sa (by simp))) ⟨⟨?_, ?_, ?_, ?_, ?_, ?_⟩, fun m hm9 => ⟨?_, ?_, ?_⟩, fun j hj9 => ?_, fun m => ?_, fun m => ?_, fun m => ?_, fun m => ?_⟩
  · simp only [wn_sa]; simp [wn_sn, hne, a0]
  · simp only [wn_sa]; simp [wn_sn, hne, a1]
  · simp only [wn_sa]; simp [wn_sn, hne, a2]
  · simp only [wn_sa]; simp [wn_sn, hne, a3]
  · simp only [wn_sa]; simp [wn_sn, hne, a4]
  · simp only [wn_sa]; simp [wn_sn, hne, a6]
  · rw [wa_sa, if_neg (by omega), wa_sa, if_neg (by omega), wa_sa, if_neg (by omega), wa_sa, if_pos rfl, cpy0 (by omega)]; exact (hm m hm9).1
  · rw [wa_sa, if_neg (by omega), wa_sa, if_neg (by omega), wa_sa, if_pos rfl, cpy0 (by omega), wa_sa, if_neg (hx 2 1 (by omega) (by omega))]; exact (hm m hm9).2.1
  · rw [wa_sa, if_neg (by omega), wa_sa, if_pos rfl, cpy0 (by omega), wa_sa, if_neg (hx 3 2 (by omega) (by omega)), wa_sa, if_neg (hx 3 1 (by omega) (by omega))]; exact (hm m hm9).2.2
  · rw [wa_sa, if_pos rfl, cpy0 (by omega), wa_sa, if_neg (hx 4 3 (by omega) (by omega)), wa_sa, if_neg (hx 4 2 (by omega) (by omega)), wa_sa, if_neg (hx 4 1 (by omega) (by omega))]; exact hj j hj9
  · rw [← h5 m]; simp only [wn_sa]; simp [wn_sn, hne]
  · rw [← h7 m]; simp only [wn_sa]; simp [wn_sn, hne]
  · rw [← h8 m]; simp only [wn_sa]; simp [wn_sn, hne]
  · rw [← h9 m]; simp only [wn_sa]; simp [wn_sn, hne]
end B1
