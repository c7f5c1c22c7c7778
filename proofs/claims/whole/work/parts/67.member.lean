/-! ===== the reader: a member ===== -/
theorem jn_low {V : VT} {r v c u : Int32} {k : Nat} (h : k < 4 ∨ k = 5) : joinV V r v c u k = V k := (upd_ne (by omega)).trans ((upd_ne (by omega)).trans ((upd_ne (by omega)).trans ((upd_ne (by omega)).trans (upd_ne (by omega)))))
theorem jn_4 {V : VT} {r v c u : Int32} : joinV V r v c u 4 = kI ((nm V + 1 : Nat) : Int) := upd_self _ _ _
theorem jn_nm {V : VT} {r v c u : Int32} (h : nm V ≤ 12) : nm (joinV V r v c u) = nm V + 1 := by
  show (joinV V r v c u 4).toInt.toNat = _
  rw [jn_4, kN_toInt (by omega)]
  rfl
theorem jn_R {V : VT} {r v c u : Int32} {m : Nat} : vR (joinV V r v c u) m = if m = nm V then r else vR V m := by
  unfold vR joinV
  rw [upd_ne (by omega), upd_ne (by omega), upd_ne (by omega), upd_ne (by omega)]
  by_cases h : m = nm V
  · rw [if_pos h, h]
    exact upd_self _ _ _
  · rw [upd_ne (by omega), if_neg h]
theorem jn_N {V : VT} {r v c u : Int32} {m : Nat} : vN (joinV V r v c u) m = if m = nm V then v else vN V m := by
  unfold vN joinV
  rw [upd_ne (by omega), upd_ne (by omega), upd_ne (by omega)]
  by_cases h : m = nm V
  · rw [if_pos h, h, show 7 + 4 * nm V = 6 + 4 * nm V + 1 by omega]
    exact upd_self _ _ _
  · rw [upd_ne (by omega), upd_ne (by omega), if_neg h]
theorem jn_C {V : VT} {r v c u : Int32} {m : Nat} : vC (joinV V r v c u) m = if m = nm V then c else vC V m := by
  unfold vC joinV
  rw [upd_ne (by omega), upd_ne (by omega)]
  by_cases h : m = nm V
  · rw [if_pos h, h, show 8 + 4 * nm V = 6 + 4 * nm V + 2 by omega]
    exact upd_self _ _ _
  · rw [upd_ne (by omega), upd_ne (by omega), upd_ne (by omega), if_neg h]
theorem jn_U {V : VT} {r v c u : Int32} {m : Nat} : vU (joinV V r v c u) m = if m = nm V then u else vU V m := by
  unfold vU joinV
  rw [upd_ne (by omega)]
  by_cases h : m = nm V
  · rw [if_pos h, h, show 9 + 4 * nm V = 6 + 4 * nm V + 3 by omega]
    exact upd_self _ _ _
  · rw [upd_ne (by omega), upd_ne (by omega), upd_ne (by omega), upd_ne (by omega), if_neg h]
/-- the draft, without its masks and weeks -/
def DrC (w : Wst) (i : Nat) (V : VT) : Prop := (wn w i 0 = V 0 ∧ wn w i 1 = V 1 ∧ wn w i 2 = V 2 ∧ wn w i 3 = V 3 ∧ wn w i 4 = V 4 ∧ wn w i 6 = V 5) ∧ (∀ m, m < nm V → wa w (i + 1) m = vR V m ∧ wa w (i + 2) m = vN V m ∧ wa w (i + 3) m = vC V m) ∧ ∀ m, hb (wn w i 5) m = (decide (m < nm V) && decide (vU V m = 1))
def DOK (V : VT) : Prop := (V 4 = kI (nm V : Int) ∧ nm V ≤ 12) ∧ V 5 = kI 0 ∧ btw (V 1) 1 12 ∧ btw (V 2) 0 999 ∧ btw (V 3) 0 100 ∧ ∀ m, m < nm V → btw (vR V m) 0 10 ∧ btw (vN V m) 0 12 ∧ btw (vC V m) 0 999 ∧ (vU V m = 0 ∨ vU V m = 1) ∧ (vR V m = 6 → 1 ≤ (vN V m).toInt) ∧ (vR V m = 9 → (vN V m).toInt ≤ 6)
theorem DrC.keep {w w' : Wst} {i : Nat} {V : VT} (h : DrC w i V) (hs : ∀ j, j < 5 → same w w' (i + j)) : DrC w' i V := by
  have e0 := hs 0 (by omega)
  have e1 := hs 1 (by omega)
  have e2 := hs 2 (by omega)
  have e3 := hs 3 (by omega)
  rw [Nat.add_zero] at e0
  unfold DrC
  rw [e0.1, e1.2.2.1, e2.2.2.1, e3.2.2.1]
  exact h
abbrev kRq := kR
theorem DrC.kr {w w' : Wst} {i : Nat} {V : VT} {l : List Nat} (h : DrC w i V) (hi : i = 10 ∨ i = 15) (k : kRq l w w') : DrC w' i V := h.keep (fun j hj => k.1 _ (by omega))
theorem kD.trans {i : Nat} {l : List Nat} {w w' w'' : Wst} (h : kD i l w w') (g : kD i l w' w'') : kD i l w w'' := ⟨fun a h1 h2 => (h.1 a h1 h2).trans (g.1 a h1 h2), g.2.1.trans h.2.1, fun j hj => (g.2.2 j hj).trans (h.2.2 j hj)⟩
theorem kD.mono {i : Nat} {l m : List Nat} {w w' : Wst} (h : kD i l w w') (hl : ∀ a ∈ l, a ∈ m) : kD i m w w' := ⟨h.1, h.2.1, fun j hj => h.2.2 j (fun z => hj (hl j z))⟩
theorem kD_of {i : Nat} {l : List Nat} {w w' : Wst} (hi : i = 10 ∨ i = 15) (h : ∀ a, ¬ (i ≤ a ∧ a < i + 5) → same w w' a) : kD i l w w' := ⟨fun a _ h2 => h a h2, (h 42 (by omega)).2.1, fun j _ => by rw [(h 42 (by omega)).1]⟩
theorem RdC.keep {w w' : Wst} {τ : Nat → Nat} {n i : Nat} {t : TK} (h : RdC w τ n t) (hi : i = 10 ∨ i = 15) (k : ∀ a, ¬ (i ≤ a ∧ a < i + 5) → same w w' a) : RdC w' τ n t := by
  unfold RdC
  rw [(k 42 (by omega)).1, (k 43 (by omega)).2.2.1]
  exact h
section W1
variable {τ : Nat → Nat} {n : Nat} {t : TK}
variable {ga : Nat → Nat} {L : Nat} {xs : Nat → Int32} {d : Nat} {h : ac_H} {P : ac_P} {ad : Nat → Nat} {w : Wst} {i : Nat} {V : VT}
theorem c_join {r v c : Int32} {u : Bool} (W : WW ad w h) (hC : isC i) (hD : DrC w i V) (hn4 : V 4 = kI (nm V : Int)) (hn : nm V < 12) (kk : ∀ h' w', WW ad w' h' → (∀ a, ¬ (i ≤ a ∧ a < i + 5) → same w w' a) → DrC w' i (joinV V r v c (bI u)) → P (.inl none) h') : WP ga L xs (d + 1) 2 [.ref (ad i), .int r, .int v, .int c, .int (bI u)] h P := by
  obtain ⟨⟨a0, a1, a2, a3, a4, a6⟩, hm, hu⟩ := hD
  have en : wn w i 4 = kI (nm V : Int) := a4.trans hn4
  have jn := jn_nm (V := V) (r := r) (v := v) (c := c) (u := bI u) (by omega)
  have i1 : ¬ i + 1 = i + 2 ∧ ¬ i + 1 = i + 3 ∧ ¬ i + 2 = i + 3 := by omega
  refine WP.enter kX0_join (Nat.le_of_ble_eq_true rfl) (fun J hJ => ?_)
  refine hJ 0 _ _ rfl _ _ _ _ (x_aload rfl (w_geti W 0 4 hC.lt hC.sh rfl rfl (x_sipush (x_br2 (fun q1 => have q1 := cy_lt q1; hJ 1 _ _ rfl _ _ _ _ (x_aload rfl (w_getr W 0 10 (t := i + 1) hC.lt hC.sh rfl rfl (hC.rf1 _) (x_aload rfl (w_geti W 0 4 hC.lt hC.sh rfl rfl (x_iload rfl (w_iast W (nm V) hC.lt1 hC.sh1 en (by omega) (by decide) (fun h1 W1 => x_aload rfl (w_getr W1 0 11 (t := i + 2) hC.lt hC.sh rfl rfl (hC.rf2 _) (x_aload rfl (w_geti W1 0 4 hC.lt hC.sh rfl rfl (x_iload rfl (w_iast W1 (nm V) hC.lt2 hC.sh2 en (by omega) (by decide) (fun h2 W2 => x_aload rfl (w_getr W2 0 12 (t := i + 3) hC.lt hC.sh rfl rfl (hC.rf3 _) (x_aload rfl (w_geti W2 0 4 hC.lt hC.sh rfl rfl (x_iload rfl (w_iast W2 (nm V) hC.lt3 hC.sh3 en (by omega) (by decide) (fun h3 W3 => x_iload rfl (x_br (fun q2 => have q2 := bI_eq0.mp q2; hJ 2 _ _ rfl _ _ _ _ (x_aload rfl (x_dupr (w_geti W3 0 4 hC.lt hC.sh rfl rfl (x_sipush (x_iadd (w_puti W3 0 4 hC.lt hC.sh rfl rfl (okI rfl) (fun h4 W4 => x_vret rfl ?_)))))))) (fun q2 => have q2 := bI_ne0.mp q2; x_aload rfl (x_dupr (w_geti W3 0 5 hC.lt hC.sh rfl rfl (x_sipush (x_aload rfl (w_geti W3 0 4 hC.lt hC.sh rfl rfl (x_ishl (x_ior (w_puti W3 0 5 hC.lt hC.sh rfl rfl (okI rfl) (fun h5 W5 => x_goto (hJ 2 _ _ rfl _ _ _ _ (x_aload rfl (x_dupr (w_geti W5 0 4 hC.lt hC.sh rfl rfl (x_sipush (x_iadd (w_puti W5 0 4 hC.lt hC.sh rfl rfl (okI rfl) (fun h6 W6 => x_vret rfl ?_))))))))))))))))))))))))))))))))))))))) (fun q1 => have q1 := cn_lt q1; x_vret rfl ?_)))))
  · refine kk h4 _ W4 (fun a ha => (((same_sa (by omega)).trans (same_sa (by omega))).trans (same_sa (by omega))).trans (same_sn (by omega))) ⟨⟨?_, ?_, ?_, ?_, ?_, ?_⟩, fun m hm9 => ?_, fun m => ?_⟩
    · rw [jn_low (by omega), ← a0]; simp [wn_sn, wn_sa]
    · rw [jn_low (by omega), ← a1]; simp [wn_sn, wn_sa]
    · rw [jn_low (by omega), ← a2]; simp [wn_sn, wn_sa]
    · rw [jn_low (by omega), ← a3]; simp [wn_sn, wn_sa]
    · rw [jn_4, ← kN_succ, ← en]; simp [wn_sn, wn_sa]
    · rw [jn_low (by omega), ← a6]; simp [wn_sn, wn_sa]
    · rw [jn] at hm9
      rw [jn_R, jn_N, jn_C]
      simp only [wa_sn, wa_sa]
      by_cases e : m = nm V
      · rw [if_pos e, if_pos e, if_pos e, e]
        simp [upd_self]
      · rw [if_neg e, if_neg e, if_neg e]
        have hh := hm m (by omega)
        simp [upd_ne e, hh.1, hh.2.1, hh.2.2]
    · rw [wn_sn, if_neg (fun z => by cases z.2)]
      show hb (wn w i 5) m = _
      rw [jn, jn_U, hu m]
      by_cases e : m = nm V
      · rw [if_pos e, q2, decide_eq_false (show ¬ m < nm V by omega), decide_eq_false (show ¬ bI false = 1 by decide), Bool.and_false]
        rfl
      · rw [if_neg e]
        by_cases hl : m < nm V
        · rw [decide_eq_true hl, decide_eq_true (show m < nm V + 1 by omega)]
        · rw [decide_eq_false hl, decide_eq_false (show ¬ m < nm V + 1 by omega)]
  · refine kk h6 _ W6 (fun a ha => ((((same_sa (by omega)).trans (same_sa (by omega))).trans (same_sa (by omega))).trans (same_sn (by omega))).trans (same_sn (by omega))) ⟨⟨?_, ?_, ?_, ?_, ?_, ?_⟩, fun m hm9 => ?_, fun m => ?_⟩
    · rw [jn_low (by omega), ← a0]; simp [wn_sn, wn_sa]
    · rw [jn_low (by omega), ← a1]; simp [wn_sn, wn_sa]
    · rw [jn_low (by omega), ← a2]; simp [wn_sn, wn_sa]
    · rw [jn_low (by omega), ← a3]; simp [wn_sn, wn_sa]
    · rw [jn_4, ← kN_succ, ← en]; simp [wn_sn, wn_sa]
    · rw [jn_low (by omega), ← a6]; simp [wn_sn, wn_sa]
    · rw [jn] at hm9
      rw [jn_R, jn_N, jn_C]
      simp only [wa_sn, wa_sa]
      by_cases e : m = nm V
      · rw [if_pos e, if_pos e, if_pos e, e]
        simp [upd_self]
      · rw [if_neg e, if_neg e, if_neg e]
        have hh := hm m (by omega)
        simp [upd_ne e, hh.1, hh.2.1, hh.2.2]
    · have hsh : kI 1 <<< (wn w i 4 &&& 31) = b1 (nm V) := by rw [en, shl1 _ (by omega)]
      rw [wn_sn, if_neg (fun z => by cases z.2), wn_sn, if_pos ⟨rfl, rfl⟩]
      show hb (wn w i 5 ||| kI 1 <<< (wn w i 4 &&& 31)) m = _
      rw [hsh, hb_set (by omega), jn, jn_U, hu m]
      by_cases e : m = nm V
      · rw [if_pos e, q2, decide_eq_true e, decide_eq_true (show m < nm V + 1 by omega), decide_eq_true (show bI true = 1 by decide), Bool.or_true]
        rfl
      · rw [if_neg e, decide_eq_false e, Bool.or_false]
        by_cases hl : m < nm V
        · rw [decide_eq_true hl, decide_eq_true (show m < nm V + 1 by omega)]
        · rw [decide_eq_false hl, decide_eq_false (show ¬ m < nm V + 1 by omega)]
  · rw [en] at q1
    exact absurd ((kN_le (a := 12) (by omega) (by omega)).mp q1) (by omega)
end W1
