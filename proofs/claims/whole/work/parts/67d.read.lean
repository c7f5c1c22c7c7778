/-! ===== the reader: a text is read ===== -/
def msk (p : Nat → Bool) (m : Nat) : Int32 := if p m = true then b1 m else kI 0
theorem hb_msk {p : Nat → Bool} {x : Int32} {m : Nat} (hm : m < 31) (h : ∀ j, hb x j = (decide (j < m) && p j)) : ∀ j, hb (x ||| msk p m) j = (decide (j < m + 1) && p j) := fun j => by
  rw [hb_or, h j]
  unfold msk
  by_cases e : p m = true
  · rw [if_pos e, hb_b1' hm]
    by_cases ej : j = m
    · subst ej
      simp [e]
    · simp [ej]
      by_cases hl : j < m
      · simp [hl, show j < m + 1 by omega]
      · simp [hl, show ¬ j < m + 1 by omega]
  · rw [if_neg e, hb_zero, Bool.or_false]
    by_cases ej : j = m
    · subst ej
      have e2 : p j = false := by simpa using e
      simp [e2]
    · by_cases hl : j < m
      · simp [hl, show j < m + 1 by omega]
      · simp [hl, show ¬ j < m + 1 by omega]
theorem V0_nm : nm V0 = 0 := rfl
theorem DOK_V0 : DOK V0 := ⟨⟨rfl, by rw [V0_nm]; omega⟩, rfl, by unfold btw; decide, by unfold btw; decide, by unfold btw; decide, fun m hm => by rw [V0_nm] at hm; omega⟩
theorem VOK_of {V : VT} (h : DOK V) (h0 : btw (V 0) 0 700) : VOK V := by
  obtain ⟨⟨h4, hn12⟩, h5, h1, h2, h3, hm⟩ := h
  refine ⟨⟨h0, h1, h2, h3, ?_, ?_⟩, hm, fun j hj => ?_⟩
  · rw [h4]
    unfold btw
    rw [kN_toInt (by omega)]
    omega
  · rw [h5]
    unfold btw
    decide
  · have e : wk V = 0 := by
      unfold wk
      rw [h5]
      rfl
    omega
section W1
variable {τ : Nat → Nat} {n : Nat} {t : TK}
variable {ga : Nat → Nat} {L : Nat} {xs : Nat → Int32} {d : Nat} {h : ac_H} {P : ac_P} {ad : Nat → Nat} {w : Wst} {i : Nat} {V : VT}
theorem c_clear (W : WW ad w h) (hC : isC i) (kk : ∀ h' w', WW ad w' h' → (∀ a, ¬ (i ≤ a ∧ a < i + 5) → same w w' a) → DrC w' i V0 → P (.inl none) h') : WP ga L xs (d + 1) 1 [.ref (ad i)] h P := by
  refine WP.enter kX0_clear (Nat.le_of_ble_eq_true rfl) (fun J hJ => ?_)
  refine hJ 0 _ _ rfl _ _ _ _ (x_aload rfl (x_sipush (w_puti W 0 0 hC.lt hC.sh rfl rfl (okI rfl) (fun h1 W1 => x_aload rfl (x_sipush (w_puti W1 0 1 hC.lt hC.sh rfl rfl (okI rfl) (fun h2 W2 => x_aload rfl (x_sipush (w_puti W2 0 2 hC.lt hC.sh rfl rfl (okI rfl) (fun h3 W3 => x_aload rfl (x_sipush (w_puti W3 0 3 hC.lt hC.sh rfl rfl (okI rfl) (fun h4 W4 => x_aload rfl (x_sipush (w_puti W4 0 4 hC.lt hC.sh rfl rfl (okI rfl) (fun h5 W5 => x_aload rfl (x_sipush (w_puti W5 0 5 hC.lt hC.sh rfl rfl (okI rfl) (fun h6 W6 => x_aload rfl (x_sipush (w_puti W6 0 6 hC.lt hC.sh rfl rfl (okI rfl) (fun h7 W7 => x_vret rfl ?_))))))))))))))))))))))
  refine kk _ _ W7 (fun a ha => ((((((same_sn (by omega)).trans (same_sn (by omega))).trans (same_sn (by omega))).trans (same_sn (by omega))).trans (same_sn (by omega))).trans (same_sn (by omega))).trans (same_sn (by omega))) ⟨⟨?_, ?_, ?_, ?_, ?_, ?_⟩, fun m hm => by rw [V0_nm] at hm; omega, fun m => ?_⟩
  · simp [wn_sn]; rfl
  · simp [wn_sn]; rfl
  · simp [wn_sn]; rfl
  · simp [wn_sn]; rfl
  · simp [wn_sn]; rfl
  · simp [wn_sn]; rfl
  · simp [wn_sn, V0_nm]
    exact hb_zero m
theorem c_weigh (W : WW ad w h) (hC : isC i) (hD : DrC w i V) (hO : DOK V) (kk : ∀ h' w', WW ad w' h' → (∀ a, ¬ (i ≤ a ∧ a < i + 5) → same w w' a) → CR w' i V → P (.inl none) h') : WP ga L xs (d + 1) 3 [.ref (ad i)] h P := by
  have hn := hO.1.2
  have en : wn w i 4 = kI (nm V : Int) := hD.1.2.2.2.2.1.trans hO.1.1
  refine WP.enter kX0_weigh (Nat.le_of_ble_eq_true rfl) (fun J hJ => ?_)
  have loop : ∀ m, m ≤ nm V → ∀ h0 w0, WW ad w0 h0 → (∀ a, ¬ (i ≤ a ∧ a < i + 5) → same w w0 a) → (∀ j, j ≠ 7 → j ≠ 8 → j ≠ 9 → wn w0 i j = wn w i j) → wa w0 (i + 1) = wa w (i + 1) → wa w0 (i + 2) = wa w (i + 2) → wa w0 (i + 3) = wa w (i + 3) → (∀ j, hb (wn w0 i 7) j = (decide (j < m) && (fun m => decide (vC V m < V 2)) j)) → (∀ j, hb (wn w0 i 8) j = (decide (j < m) && (fun m => decide (0 < vC V m)) j)) → (∀ j, hb (wn w0 i 9) j = (decide (j < m) && (fun m => decide (V 2 < vC V m)) j)) → J 1 [some (.ref (ad i)), some (.int (kI (m : Int)))] [] h0 (0, 0) := up_ind (fun m hm ih h0 w0 W0 hs hf g1 g2 g3 k7 k8 k9 => ?_)
  · refine hJ 0 _ _ rfl _ _ _ _ (x_aload rfl (x_sipush (w_puti W 0 7 hC.lt hC.sh rfl rfl (okI rfl) (fun h1 W1 => x_aload rfl (x_sipush (w_puti W1 0 8 hC.lt hC.sh rfl rfl (okI rfl) (fun h2 W2 => x_aload rfl (x_sipush (w_puti W2 0 9 hC.lt hC.sh rfl rfl (okI rfl) (fun h3 W3 => x_sipush (x_istore rfl (x_goto (?_)))))))))))))
    exact loop 0 (Nat.zero_le _) _ _ W3 (fun a ha => ((same_sn (by omega)).trans (same_sn (by omega))).trans (same_sn (by omega))) (fun j h7 h8 h9 => by rw [wn_sn, if_neg (fun z => h9 z.2), wn_sn, if_neg (fun z => h8 z.2), wn_sn, if_neg (fun z => h7 z.2)]) rfl rfl rfl (fun j => by simp [wn_sn]; exact hb_zero j) (fun j => by simp [wn_sn]; exact hb_zero j) (fun j => by simp [wn_sn]; exact hb_zero j)
  have en0 : wn w0 i 4 = kI (nm V : Int) := (hf 4 (by omega) (by omega) (by omega)).trans en
  have e2 : wn w0 i 2 = V 2 := (hf 2 (by omega) (by omega) (by omega)).trans hD.1.2.2.1
  have ec : m < nm V → wa w0 (i + 3) m = vC V m := fun h9 => by rw [g3]; exact (hD.2.1 m h9).2.2
  have c7 : m < nm V → ∀ h0 w0, WW ad w0 h0 → (∀ a, ¬ (i ≤ a ∧ a < i + 5) → same w w0 a) → (∀ j, j ≠ 7 → j ≠ 8 → j ≠ 9 → wn w0 i j = wn w i j) → wa w0 (i + 1) = wa w (i + 1) → wa w0 (i + 2) = wa w (i + 2) → wa w0 (i + 3) = wa w (i + 3) → (∀ j, hb (wn w0 i 7) j = (decide (j < m + 1) && (fun m => decide (vC V m < V 2)) j)) → (∀ j, hb (wn w0 i 8) j = (decide (j < m + 1) && (fun m => decide (0 < vC V m)) j)) → (∀ j, hb (wn w0 i 9) j = (decide (j < m) && (fun m => decide (V 2 < vC V m)) j)) → J 7 [some (.ref (ad i)), some (.int (kI (m : Int)))] [.int (msk (fun m => decide (V 2 < vC V m)) m), .int (wn w0 i 9), .ref (ad i)] h0 (0, 0) := fun hm9 h0 w0 W0 hs hf g1 g2 g3 k7 k8 k9 => ?_
  · have c5 : m < nm V → ∀ h0 w0, WW ad w0 h0 → (∀ a, ¬ (i ≤ a ∧ a < i + 5) → same w w0 a) → (∀ j, j ≠ 7 → j ≠ 8 → j ≠ 9 → wn w0 i j = wn w i j) → wa w0 (i + 1) = wa w (i + 1) → wa w0 (i + 2) = wa w (i + 2) → wa w0 (i + 3) = wa w (i + 3) → (∀ j, hb (wn w0 i 7) j = (decide (j < m + 1) && (fun m => decide (vC V m < V 2)) j)) → (∀ j, hb (wn w0 i 8) j = (decide (j < m) && (fun m => decide (0 < vC V m)) j)) → (∀ j, hb (wn w0 i 9) j = (decide (j < m) && (fun m => decide (V 2 < vC V m)) j)) → J 5 [some (.ref (ad i)), some (.int (kI (m : Int)))] [.int (msk (fun m => decide (0 < vC V m)) m), .int (wn w0 i 8), .ref (ad i)] h0 (0, 0) := fun hm9 h0 w0 W0 hs hf g1 g2 g3 k7 k8 k9 => ?_
    · have c3 : m < nm V → J 3 [some (.ref (ad i)), some (.int (kI (m : Int)))] [.int (msk (fun m => decide (vC V m < V 2)) m), .int (wn w0 i 7), .ref (ad i)] h0 (0, 0) := fun hm9 => ?_
      · refine hJ 1 _ _ rfl _ _ _ _ (x_iload rfl (x_aload rfl (w_geti W0 0 4 hC.lt hC.sh rfl rfl (x_br2 (fun q1 => have q1 := ge_y en0 (by omega) q1; hJ 8 _ _ rfl _ _ _ _ (x_vret rfl ?_)) (fun q1 => have q1 := ge_n en0 (by omega) q1; x_aload rfl (x_dupr (w_geti W0 0 7 hC.lt hC.sh rfl rfl (x_aload rfl (w_getr W0 0 12 (t := i + 3) hC.lt hC.sh rfl rfl (hC.rf3 _) (x_iload rfl (w_iald W0 m hC.lt3 hC.sh3 rfl (by omega) (by decide) (x_aload rfl (w_geti W0 0 2 hC.lt hC.sh rfl rfl (x_br2 (fun q2 => have q2 := cy_ge q2; hJ 2 _ _ rfl _ _ _ _ (x_sipush (x_goto (?_)))) (fun q2 => have q2 := cn_ge q2; x_sipush (x_iload rfl (x_shl1 (by omega) (x_goto (?_)))))))))))))))))))
        · have e : m = nm V := by omega
          subst e
          refine kk h0 w0 W0 hs ⟨⟨?_, ?_, ?_, ?_, ?_, ?_⟩, fun m hm9 => ?_, fun j hj => ?_, fun m => ?_, k7, k8, k9⟩
          · rw [hf 0 (by omega) (by omega) (by omega)]; exact hD.1.1
          · rw [hf 1 (by omega) (by omega) (by omega)]; exact hD.1.2.1
          · exact e2
          · rw [hf 3 (by omega) (by omega) (by omega)]; exact hD.1.2.2.2.1
          · rw [hf 4 (by omega) (by omega) (by omega)]; exact hD.1.2.2.2.2.1
          · rw [hf 6 (by omega) (by omega) (by omega)]; exact hD.1.2.2.2.2.2
          · rw [g1, g2, g3]
            exact hD.2.1 m hm9
          · have e9 : wk V = 0 := by
              unfold wk
              rw [hO.2.1]
              rfl
            omega
          · rw [hf 5 (by omega) (by omega) (by omega)]
            exact hD.2.2 m
        · rw [ec q1, e2] at q2
          have hv : kI 0 = msk (fun m => decide (vC V m < V 2)) m := by
            unfold msk
            rw [if_neg (by rw [decide_eq_true_eq]; exact Int32.not_lt.mpr q2)]
          rw [hv]
          exact c3 q1
        · rw [ec q1, e2] at q2
          have hv : b1 m = msk (fun m => decide (vC V m < V 2)) m := by
            unfold msk
            rw [if_pos (decide_eq_true q2)]
          rw [hv]
          exact c3 q1
      refine hJ 3 _ _ rfl _ _ _ _ (x_ior (w_puti W0 0 7 hC.lt hC.sh rfl rfl (okI rfl) (fun h1 W1 => x_aload rfl (x_dupr (w_geti W1 0 8 hC.lt hC.sh rfl rfl (x_aload rfl (w_getr W1 0 12 (t := i + 3) hC.lt hC.sh rfl rfl (hC.rf3 _) (x_iload rfl (w_iald W1 m hC.lt3 hC.sh3 rfl (by omega) (by decide) (x_br (fun q1 => have q1 := cy_le q1; hJ 4 _ _ rfl _ _ _ _ (x_sipush (x_goto (?_)))) (fun q1 => have q1 := cn_le q1; x_sipush (x_iload rfl (x_shl1 (by omega) (x_goto (?_)))))))))))))))
      · rw [show wa (sn w0 i 7 (wn w0 i 7 ||| msk (fun m => decide (vC V m < V 2)) m)) (i + 3) m = vC V m from ec hm9] at q1
        have hv : kI 0 = msk (fun m => decide (0 < vC V m)) m := by
          unfold msk
          rw [if_neg (by rw [decide_eq_true_eq]; exact Int32.not_lt.mpr q1)]
        rw [hv]
        exact c5 hm9 h1 _ W1 (fun a ha => (hs a ha).trans (same_sn (by omega))) (fun j h7 h8 h9 => by rw [wn_sn, if_neg (fun z => h7 z.2)]; exact hf j h7 h8 h9) g1 g2 g3 (by rw [wn_sn, if_pos ⟨rfl, rfl⟩]; exact hb_msk (by omega) k7) (fun j => by rw [wn_sn, if_neg (fun z => by cases z.2)]; exact k8 j) (fun j => by rw [wn_sn, if_neg (fun z => by cases z.2)]; exact k9 j)
      · rw [show wa (sn w0 i 7 (wn w0 i 7 ||| msk (fun m => decide (vC V m < V 2)) m)) (i + 3) m = vC V m from ec hm9] at q1
        have hv : b1 m = msk (fun m => decide (0 < vC V m)) m := by
          unfold msk
          rw [if_pos (decide_eq_true q1)]
        rw [hv]
        exact c5 hm9 h1 _ W1 (fun a ha => (hs a ha).trans (same_sn (by omega))) (fun j h7 h8 h9 => by rw [wn_sn, if_neg (fun z => h7 z.2)]; exact hf j h7 h8 h9) g1 g2 g3 (by rw [wn_sn, if_pos ⟨rfl, rfl⟩]; exact hb_msk (by omega) k7) (fun j => by rw [wn_sn, if_neg (fun z => by cases z.2)]; exact k8 j) (fun j => by rw [wn_sn, if_neg (fun z => by cases z.2)]; exact k9 j)
    have ec9 : wa w0 (i + 3) m = vC V m := by rw [g3]; exact (hD.2.1 m hm9).2.2
    have e29 : wn (sn w0 i 8 (wn w0 i 8 ||| msk (fun m => decide (0 < vC V m)) m)) i 2 = V 2 := by rw [wn_sn, if_neg (fun z => by cases z.2)]; exact (hf 2 (by omega) (by omega) (by omega)).trans hD.1.2.2.1
    refine hJ 5 _ _ rfl _ _ _ _ (x_ior (w_puti W0 0 8 hC.lt hC.sh rfl rfl (okI rfl) (fun h1 W1 => x_aload rfl (x_dupr (w_geti W1 0 9 hC.lt hC.sh rfl rfl (x_aload rfl (w_getr W1 0 12 (t := i + 3) hC.lt hC.sh rfl rfl (hC.rf3 _) (x_iload rfl (w_iald W1 m hC.lt3 hC.sh3 rfl (by omega) (by decide) (x_aload rfl (w_geti W1 0 2 hC.lt hC.sh rfl rfl (x_br2 (fun q1 => have q1 := cy_le q1; hJ 6 _ _ rfl _ _ _ _ (x_sipush (x_goto (?_)))) (fun q1 => have q1 := cn_le q1; x_sipush (x_iload rfl (x_shl1 (by omega) (x_goto (?_)))))))))))))))))
    · rw [show wa (sn w0 i 8 (wn w0 i 8 ||| msk (fun m => decide (0 < vC V m)) m)) (i + 3) m = vC V m from ec9, show wn (sn w0 i 8 (wn w0 i 8 ||| msk (fun m => decide (0 < vC V m)) m)) i 2 = V 2 from e29] at q1
      have hv : kI 0 = msk (fun m => decide (V 2 < vC V m)) m := by
        unfold msk
        rw [if_neg (by rw [decide_eq_true_eq]; exact Int32.not_lt.mpr q1)]
      rw [hv]
      exact c7 hm9 h1 _ W1 (fun a ha => (hs a ha).trans (same_sn (by omega))) (fun j h7 h8 h9 => by rw [wn_sn, if_neg (fun z => h8 z.2)]; exact hf j h7 h8 h9) g1 g2 g3 (fun j => by rw [wn_sn, if_neg (fun z => by cases z.2)]; exact k7 j) (by rw [wn_sn, if_pos ⟨rfl, rfl⟩]; exact hb_msk (by omega) k8) (fun j => by rw [wn_sn, if_neg (fun z => by cases z.2)]; exact k9 j)
    · rw [show wa (sn w0 i 8 (wn w0 i 8 ||| msk (fun m => decide (0 < vC V m)) m)) (i + 3) m = vC V m from ec9, show wn (sn w0 i 8 (wn w0 i 8 ||| msk (fun m => decide (0 < vC V m)) m)) i 2 = V 2 from e29] at q1
      have hv : b1 m = msk (fun m => decide (V 2 < vC V m)) m := by
        unfold msk
        rw [if_pos (decide_eq_true q1)]
      rw [hv]
      exact c7 hm9 h1 _ W1 (fun a ha => (hs a ha).trans (same_sn (by omega))) (fun j h7 h8 h9 => by rw [wn_sn, if_neg (fun z => h8 z.2)]; exact hf j h7 h8 h9) g1 g2 g3 (fun j => by rw [wn_sn, if_neg (fun z => by cases z.2)]; exact k7 j) (by rw [wn_sn, if_pos ⟨rfl, rfl⟩]; exact hb_msk (by omega) k8) (fun j => by rw [wn_sn, if_neg (fun z => by cases z.2)]; exact k9 j)
  refine hJ 7 _ _ rfl _ _ _ _ (x_ior (w_puti W0 0 9 hC.lt hC.sh rfl rfl (okI rfl) (fun h1 W1 => x_iinc rfl rfl (x_goto (?_)))))
  refine J_c (ih hm9 h1 _ W1 (fun a ha => (hs a ha).trans (same_sn (by omega))) (fun j h7 h8 h9 => by rw [wn_sn, if_neg (fun z => h9 z.2)]; exact hf j h7 h8 h9) g1 g2 g3 ?_ ?_ ?_) (by simp only [sI, kN_succ])
  · intro j
    rw [wn_sn, if_neg (fun z => by cases z.2)]
    exact k7 j
  · intro j
    rw [wn_sn, if_neg (fun z => by cases z.2)]
    exact k8 j
  · rw [wn_sn, if_pos ⟨rfl, rfl⟩]
    exact hb_msk (by omega) k9
end W1
