/-! ===== one who never comes ===== -/
def neverV (V : VT) (a : Nat) : VT := upd (upd (upd V (6 + 4 * a) (kI 1)) (9 + 4 * a) (kI 0)) (7 + 4 * a) (kI 0)
theorem nev_low {V : VT} {a k : Nat} (h : k < 6) : neverV V a k = V k := (upd_ne (by omega)).trans ((upd_ne (by omega)).trans (upd_ne (by omega)))
theorem nev_R {V : VT} {a m : Nat} : vR (neverV V a) m = if m = a then kI 1 else vR V m := by
  unfold vR neverV
  rw [upd_ne (by omega), upd_ne (by omega)]
  by_cases h : m = a
  · subst h
    rw [upd_self, if_pos rfl]
  · rw [upd_ne (by omega), if_neg h]
theorem nev_N {V : VT} {a m : Nat} : vN (neverV V a) m = if m = a then kI 0 else vN V m := by
  unfold vN neverV
  by_cases h : m = a
  · subst h
    rw [upd_self, if_pos rfl]
  · rw [upd_ne (by omega), upd_ne (by omega), upd_ne (by omega), if_neg h]
theorem nev_C {V : VT} {a m : Nat} : vC (neverV V a) m = vC V m := (upd_ne (by omega)).trans ((upd_ne (by omega)).trans (upd_ne (by omega)))
theorem nev_U {V : VT} {a m : Nat} : vU (neverV V a) m = if m = a then kI 0 else vU V m := by
  unfold vU neverV
  rw [upd_ne (by omega)]
  by_cases h : m = a
  · subst h
    rw [upd_self, if_pos rfl]
  · rw [upd_ne (by omega), upd_ne (by omega), if_neg h]
theorem nev_S {V : VT} {a m : Nat} (ha : a < 12) : vS (neverV V a) m = vS V m := (upd_ne (by omega)).trans ((upd_ne (by omega)).trans (upd_ne (by omega)))
theorem nev_nm {V : VT} {a : Nat} : nm (neverV V a) = nm V := by
  unfold nm
  rw [nev_low (by omega)]
theorem nev_wk {V : VT} {a : Nat} : wk (neverV V a) = wk V := by
  unfold wk
  rw [nev_low (by omega)]
theorem VOK.never {V : VT} {a : Nat} (hV : VOK V) (ha : a < 12) : VOK (neverV V a) := by
  obtain ⟨⟨a0, a1, a2, a3, a4, a5⟩, hm, hj⟩ := hV
  refine ⟨⟨?_, ?_, ?_, ?_, ?_, ?_⟩, fun m hm9 => ?_, fun j hj9 => ?_⟩
  · rw [nev_low (by omega)]; exact a0
  · rw [nev_low (by omega)]; exact a1
  · rw [nev_low (by omega)]; exact a2
  · rw [nev_low (by omega)]; exact a3
  · rw [nev_low (by omega)]; exact a4
  · rw [nev_low (by omega)]; exact a5
  · rw [nev_nm] at hm9
    rw [nev_R, nev_N, nev_C, nev_U]
    by_cases h : m = a
    · simp only [if_pos h]
      refine ⟨by unfold btw; decide, by unfold btw; decide, (hm m hm9).2.2.1, Or.inl rfl, fun z => absurd z (by decide), fun z => absurd z (by decide)⟩
    · simp only [if_neg h]
      exact hm m hm9
  · rw [nev_wk] at hj9
    rw [nev_nm, nev_S ha]
    exact hj j hj9
theorem CR.never {w : Wst} {V : VT} {a : Nat} {s : Int32} (ha : a < 12) (hs : s = b1 a) (h : CR w 20 V) : CR (sn (sa (sa w (20 + 1) (upd (wa w (20 + 1)) a (kI 1))) (20 + 2) (upd (wa w (20 + 2)) a (kI 0))) 20 5 (wn w 20 5 &&& (s ^^^ kI (-1)))) 20 (neverV V a) := by
  subst hs
  obtain ⟨⟨a0, a1, a2, a3, a4, a6⟩, hm, hj, h5, h7, h8, h9⟩ := h
  have f : ∀ j, j ≠ 5 → wn (sn (sa (sa w (20 + 1) (upd (wa w (20 + 1)) a (kI 1))) (20 + 2) (upd (wa w (20 + 2)) a (kI 0))) 20 5 (wn w 20 5 &&& (b1 a ^^^ kI (-1)))) 20 j = wn w 20 j := fun j hj => by rw [wn_sn, if_neg (fun z => hj z.2)]; rfl
  have g1 : wa (sn (sa (sa w (20 + 1) (upd (wa w (20 + 1)) a (kI 1))) (20 + 2) (upd (wa w (20 + 2)) a (kI 0))) 20 5 (wn w 20 5 &&& (b1 a ^^^ kI (-1)))) (20 + 1) = upd (wa w (20 + 1)) a (kI 1) := rfl
  have g2 : wa (sn (sa (sa w (20 + 1) (upd (wa w (20 + 1)) a (kI 1))) (20 + 2) (upd (wa w (20 + 2)) a (kI 0))) 20 5 (wn w 20 5 &&& (b1 a ^^^ kI (-1)))) (20 + 2) = upd (wa w (20 + 2)) a (kI 0) := rfl
  have g3 : wa (sn (sa (sa w (20 + 1) (upd (wa w (20 + 1)) a (kI 1))) (20 + 2) (upd (wa w (20 + 2)) a (kI 0))) 20 5 (wn w 20 5 &&& (b1 a ^^^ kI (-1)))) (20 + 3) = wa w (20 + 3) := rfl
  have g4 : wa (sn (sa (sa w (20 + 1) (upd (wa w (20 + 1)) a (kI 1))) (20 + 2) (upd (wa w (20 + 2)) a (kI 0))) 20 5 (wn w 20 5 &&& (b1 a ^^^ kI (-1)))) (20 + 4) = wa w (20 + 4) := rfl
  refine ⟨⟨?_, ?_, ?_, ?_, ?_, ?_⟩, fun m hm9 => ?_, fun j hj9 => ?_, fun m => ?_, fun m => ?_, fun m => ?_, fun m => ?_⟩
  · rw [f 0 (by omega), nev_low (by omega)]; exact a0
  · rw [f 1 (by omega), nev_low (by omega)]; exact a1
  · rw [f 2 (by omega), nev_low (by omega)]; exact a2
  · rw [f 3 (by omega), nev_low (by omega)]; exact a3
  · rw [f 4 (by omega), nev_low (by omega)]; exact a4
  · rw [f 6 (by omega), nev_low (by omega)]; exact a6
  · rw [nev_nm] at hm9
    rw [g1, g2, g3, nev_R, nev_N, nev_C]
    by_cases h : m = a
    · subst h
      rw [upd_self, upd_self, if_pos rfl, if_pos rfl]
      exact ⟨rfl, rfl, (hm m hm9).2.2⟩
    · rw [upd_ne h, upd_ne h, if_neg h, if_neg h]
      exact hm m hm9
  · rw [nev_wk] at hj9
    rw [g4, nev_S ha]
    exact hj j hj9
  · rw [wn_sn, if_pos ⟨rfl, rfl⟩, hb_and, h5 m, nev_nm, nev_U]
    by_cases hm32 : m < 32
    · rw [hb_not hm32, hb_b1' (by omega)]
      by_cases h : m = a
      · subst h
        simp
        exact fun _ => by decide
      · simp [h]
    · have e : (decide (m < nm V) && decide (vU V m = 1)) = false := by
        rw [← h5 m]
        exact hb_ge (by omega)
      rw [e]
      by_cases h : m = a
      · omega
      · rw [if_neg h, e]
        rfl
  · rw [f 7 (by omega), nev_nm, nev_C, nev_low (by omega)]; exact h7 m
  · rw [f 8 (by omega), nev_nm, nev_C]; exact h8 m
  · rw [f 9 (by omega), nev_nm, nev_C, nev_low (by omega)]; exact h9 m
