/-! ===== a club: its weeks ===== -/
def fo {β : Type} (f : Nat → β → β) (b : β) : Nat → β
  | 0 => b
  | n + 1 => f n (fo f b n)
def wksV (V : VT) (s : Int32) : Int32 := sm (fun j => bI (decide (vS V j &&& s = s))) (wk V)
def dinV (V : VT) (m : Nat) : Int32 := sm (fun j => bI (hb (vS V j) m && meetsV V (vS V j))) (wk V)
def justV (V : VT) (k : Int32) (u : Nat) : Int32 := sm (fun j => bI (decide (kI (pc (vS V j) : Int) = k))) u
def comersV (V : VT) (u : Nat) : Int32 := sm (fun j => kI (pc (vS V j) : Int)) u
def mostF (V : VT) (u : Nat) (k : Nat) (b : Int32 × Int32) : Int32 × Int32 := if b.2 < justV V (kI k) u then (kI k, justV V (kI k) u) else b
def mostV (V : VT) (u : Nat) : Int32 := (fo (mostF V u) (kI 0, kI 0) (nm V + 1)).1
def cookV (V : VT) (c : Int32) (u : Nat) : Int32 := if u = 0 then kI (-1) else if c = kI 0 then kI (pc (vS V (u - 1)) : Int) else if c = kI 1 then comersV V u / kI (u : Int) else if c = kI 2 then mostV V u else V 1
def learnerV (V : VT) : Bool := decide (∃ m, m < nm V ∧ vR V m = kI 10)
theorem kN_pred {u : Nat} (h : 1 ≤ u) : kI (u : Int) - kI 1 = kI ((u - 1 : Nat) : Int) := by
  rw [kI_sub]
  congr 1
  omega
theorem gt_n {m n : Nat} {y : Int32} (e : y = kI (n : Int)) (hm : m ≤ 100000 ∧ n ≤ 100000) (b : ¬ y < kI (m : Int)) : m ≤ n := by
  rw [e, kN_lt (by omega) (by omega)] at b
  omega
theorem gt_y {m n : Nat} {y : Int32} (e : y = kI (n : Int)) (hm : m ≤ 100000 ∧ n ≤ 100000) (b : y < kI (m : Int)) : n < m := by
  rw [e, kN_lt (by omega) (by omega)] at b
  omega
/-- a count against zero -/
theorem k_gt0n {n : Nat} (hn : n ≤ 100000) (b : 0 < kI (n : Int)) : 1 ≤ n := by
  rw [show (0 : Int32) = kI ((0 : Nat) : Int) from rfl, kN_lt (by omega) (by omega)] at b
  omega
theorem k_le0n {n : Nat} (hn : n ≤ 100000) (b : ¬ 0 < kI (n : Int)) : n = 0 := by
  rw [show (0 : Int32) = kI ((0 : Nat) : Int) from rfl, kN_lt (by omega) (by omega)] at b
  omega
theorem k_le0 {n : Nat} {y : Int32} (e : y = kI (n : Int)) (hn : n ≤ 100000) (b : y ≤ 0) : n = 0 := by
  rw [e, show (0 : Int32) = kI ((0 : Nat) : Int) from rfl, kN_le (by omega) (by omega)] at b
  omega
theorem k_gt0 {n : Nat} {y : Int32} (e : y = kI (n : Int)) (hn : n ≤ 100000) (b : ¬ y ≤ 0) : 1 ≤ n := by
  rw [e, show (0 : Int32) = kI ((0 : Nat) : Int) from rfl, kN_le (by omega) (by omega)] at b
  omega
section C0
variable {ga : Nat → Nat} {L : Nat} {xs : Nat → Int32} {d : Nat} {h : ac_H} {P : ac_P} {ad : Nat → Nat} {w : Wst} {i : Nat} {V : VT}
theorem c_everyone (W : WW ad w h) (hC : isC i) (hR : CR w i V) (hV : VOK V) (hP : P (.inl (some (.int (everyV V)))) h) : WP ga L xs (d + 1) 7 [.ref (ad i)] h P := by
  have hn := hV.n.2
  refine WP.enter kX0_everyone (Nat.le_of_ble_eq_true rfl) (fun J hJ => ?_)
  refine hJ 0 _ _ rfl _ _ _ _ (x_sipush (x_aload rfl (w_geti W 0 4 hC.lt hC.sh rfl rfl (x_ishl (x_sipush (x_isub (x_iret (nrwI _) ?_)))))))
  rw [hR.n hV, shl1 _ (by omega)]
  exact hP
theorem c_lastSet (W : WW ad w h) (hC : isC i) (hR : CR w i V) (hV : VOK V) (hP : P (.inl (some (.int (lastV V)))) h) : WP ga L xs (d + 1) 9 [.ref (ad i)] h P := by
  have hn := hV.w.2
  unfold lastV at hP
  refine WP.enter kX0_lastSet (Nat.le_of_ble_eq_true rfl) (fun J hJ => ?_)
  refine hJ 0 _ _ rfl _ _ _ _ (x_aload rfl (w_geti W 0 6 hC.lt hC.sh rfl rfl (x_br (fun b1 => have b1 := k_le0 (hR.w hV) (by omega) b1; hJ 1 _ _ rfl _ _ _ _ (x_sipush (x_goto (hJ 2 _ _ rfl _ _ _ _ (x_iret (nrwI _) ?_))))) (fun b1 => have b1 := k_gt0 (hR.w hV) (by omega) b1; x_aload rfl (w_getr W 0 13 (t := i + 4) hC.lt hC.sh rfl rfl (hC.rf4 _) (x_aload rfl (w_geti W 0 6 hC.lt hC.sh rfl rfl (x_sipush (x_isub (w_iald W (wk V - 1) hC.lt4 hC.sh4 (by rw [hR.w hV]; exact kN_pred b1) (by omega) (by decide) (x_goto (hJ 2 _ _ rfl _ _ _ _ (x_iret (nrwI _) ?_)))))))))))))
  · rw [if_neg (by omega)] at hP
    exact hP
  · rw [if_pos (by omega), ← hR.2.2.1 _ (by omega)] at hP
    exact hP
theorem c_thoughts {s x : Int32} {t : Nat} (W : WW ad w h) (hC : isC i) (hR : CR w i V) (hV : VOK V) (hs : sok (nm V) s) (hx : x = kI (t : Int)) (ht : t ≤ 1000) (hP : P (.inl (some (.int (thoughtsV V s t)))) h) : WP ga L xs (d + 2) 18 [.ref (ad i), .int s, .int x] h P := by
  subst hx
  have hn := hV.n.2
  obtain ⟨q, hq, q1, q2⟩ := hV.q
  have eq : wn w i 1 = kI (q : Int) := hR.1.2.1.trans hq
  refine WP.enter kX0_thoughts (Nat.le_of_ble_eq_true rfl) (fun J hJ => ?_)
  have loop : ∀ m, m ≤ t → ∀ z, J 1 [some (.ref (ad i)), some (.int s), some (.int (kI (t : Int))), some (.int (thoughtsV V s m)), some (.int (kI (m : Int))), z] [] h (0, 0) := up_ind (fun m hm ih z => ?_)
  · exact hJ 0 _ _ rfl _ _ _ _ (x_iload rfl (x_istore rfl (x_sipush (x_istore rfl (x_goto (loop 0 (Nat.zero_le _) _))))))
  have hs9 := hs.thoughts hV m
  have hp := pc_le (thoughtsV V s m)
  have hu := hR.2.2.2.2.1
  refine hJ 1 _ _ rfl _ _ _ _ (x_iload rfl (x_iload rfl (x_br2 (fun b1 => have b1 := ge_y rfl (by omega) b1; hJ 6 _ _ rfl _ _ _ _ (x_iload rfl (x_iret (nrwI _) ?_))) (fun b1 => have b1 := ge_n rfl (by omega) b1; x_iload rfl (x_cs rfl (Nat.le_of_ble_eq_true rfl) (c_bitc hs9 (xk_go (x_istore rfl (x_iload rfl (x_aload rfl (w_geti W 0 1 hC.lt hC.sh rfl rfl (x_br2 (fun b2 => hJ 2 _ _ rfl _ _ _ _ (x_iload rfl (x_sipush (x_iadd (x_aload rfl (w_geti W 0 1 hC.lt hC.sh rfl rfl (x_br2 (fun b3 => hJ 3 _ _ rfl _ _ _ _ (x_sipush (x_goto (hJ 4 _ _ rfl _ _ _ _ (x_istore rfl (x_goto (hJ 5 _ _ rfl _ _ _ _ (x_iinc rfl rfl (x_goto (?_)))))))))) (fun b3 => x_aload rfl (w_geti W 0 7 hC.lt hC.sh rfl rfl (x_iload rfl (x_sipush (x_ixor (x_iand (x_goto (hJ 4 _ _ rfl _ _ _ _ (x_istore rfl (x_goto (hJ 5 _ _ rfl _ _ _ _ (x_iinc rfl rfl (x_goto (?_))))))))))))))))))))) (fun b2 => x_iload rfl (x_aload rfl (w_geti W 0 7 hC.lt hC.sh rfl rfl (x_iand (x_istore rfl (x_goto (hJ 5 _ _ rfl _ _ _ _ (x_iinc rfl rfl (x_goto (?_))))))))))))))))))))))
  · have e : m = t := by omega
    subst e
    exact hP
  · refine J_c (ih (by omega) (some (.int (kI (pc (thoughtsV V s m) : Int))))) ?_
    simp only [sI, kN_succ]
    have b2 : ¬ pc (thoughtsV V s m) = q := fun z => b2 (by rw [eq, z])
    rw [eq, kN_succ] at b3
    have b3 : ¬ pc (thoughtsV V s m) + 1 = q := fun z => b3 (by rw [z])
    have e : thoughtsV V s (m + 1) = kI 0 := hb_ext (fun j _ => by
      show hb (mkS (thinkP V (thoughtsV V s m)) (nm V)) j = _
      rw [hb_mkS (by omega), hb_zero]
      by_cases hj : j < nm V
      · rw [thinkP_eq (by omega) hq q2]
        by_cases e : hb (thoughtsV V s m) j = true <;> simp [e, b2, b3]
      · simp [hj])
    rw [e]
  · refine J_c (ih (by omega) (some (.int (kI (pc (thoughtsV V s m) : Int))))) ?_
    simp only [sI, kN_succ]
    have b2 : ¬ pc (thoughtsV V s m) = q := fun z => b2 (by rw [eq, z])
    have b3 : pc (thoughtsV V s m) + 1 = q := by
      rw [eq, kN_succ] at b3
      exact (kN_inj (by omega) (by omega)).mp (Decidable.not_not.mp b3)
    have e : thoughtsV V s (m + 1) = wn w i 7 &&& (thoughtsV V s m ^^^ kI (-1)) := hb_ext (fun j hj9 => by
      show hb (mkS (thinkP V (thoughtsV V s m)) (nm V)) j = _
      rw [hb_mkS (by omega), hb_and, hu, hb_not hj9]
      by_cases hj : j < nm V
      · rw [thinkP_eq (by omega) hq q2]
        by_cases e : hb (thoughtsV V s m) j = true <;> simp [e, b2, b3, hj]
      · simp [hj])
    rw [e]
  · refine J_c (ih (by omega) (some (.int (kI (pc (thoughtsV V s m) : Int))))) ?_
    simp only [sI, kN_succ]
    have b2 : pc (thoughtsV V s m) = q := by
      rw [eq] at b2
      exact (kN_inj (by omega) (by omega)).mp (Decidable.not_not.mp b2)
    have e : thoughtsV V s (m + 1) = thoughtsV V s m &&& wn w i 7 := hb_ext (fun j hj9 => by
      show hb (mkS (thinkP V (thoughtsV V s m)) (nm V)) j = _
      rw [hb_mkS (by omega), hb_and, hu]
      by_cases hj : j < nm V
      · rw [thinkP_eq (by omega) hq q2]
        by_cases e : hb (thoughtsV V s m) j = true <;> simp [e, b2, hj]
      · rw [hs9.2 j (by omega)]
        simp [hj])
    rw [e]
theorem c_hatsAhead {m : Nat} {s x : Int32} (W : WW ad w h) (hC : isC i) (hR : CR w i V) (hV : VOK V) (hx : x = kI (m : Int)) (hm : m < nm V) (hP : P (.inl (some (.int (hatsV V s m)))) h) : WP ga L xs (d + 1) 19 [.ref (ad i), .int x, .int s] h P := by
  subst hx
  have hn := hV.n.2
  have hu := hR.2.2.2.1
  have e : hatsV V s m = (s ||| wn w i 5) &&& (b1 m - kI 1) := hb_ext (fun j hj => by
    unfold hatsV
    rw [hb_mkS (by omega), hb_and, hb_pred (by omega), hb_or, hu]
    by_cases h1 : j < m
    · simp [h1, show j < nm V by omega]
    · simp [h1])
  rw [e] at hP
  refine WP.enter kX0_hatsAhead (Nat.le_of_ble_eq_true rfl) (fun J hJ => ?_)
  exact hJ 0 _ _ rfl _ _ _ _ (x_iload rfl (x_aload rfl (w_geti W 0 5 hC.lt hC.sh rfl rfl (x_ior (x_sipush (x_iload rfl (x_shl1 (by omega) (x_sipush (x_isub (x_iand (x_iret (nrwI _) hP)))))))))))
theorem c_comesBySeeing {m : Nat} {s x : Int32} (W : WW ad w h) (hC : isC i) (hR : CR w i V) (hV : VOK V) (hx : x = kI (m : Int)) (hm : m < nm V) (hP : P (.inl (some (.int (bI (bySee V m s))))) h) : WP ga L xs (d + 1) 20 [.ref (ad i), .int x, .int s] h P := by
  subst hx
  have hn := hV.n.2
  obtain ⟨f1, f2, f3⟩ := hR.2.1 m hm
  refine WP.enter kX0_comesBySeeing (Nat.le_of_ble_eq_true rfl) (fun J hJ => ?_)
  refine hJ 0 _ _ rfl _ _ _ _ (x_aload rfl (w_getr W 0 10 (t := i + 1) hC.lt hC.sh rfl rfl (hC.rf1 _) (x_iload rfl (w_iald W _ hC.lt1 hC.sh1 rfl (by omega) (by decide) (x_sipush (x_br2 (fun b1 => hJ 2 _ _ rfl _ _ _ _ (x_iload rfl (x_aload rfl (w_getr W 0 11 (t := i + 2) hC.lt hC.sh rfl rfl (hC.rf2 _) (x_iload rfl (w_iald W _ hC.lt2 hC.sh2 rfl (by omega) (by decide) (x_br2 (fun b2 => hJ 3 _ _ rfl _ _ _ _ (x_sipush (x_goto (hJ 4 _ _ rfl _ _ _ _ (x_iret (by first | exact nrwB _ | rfl | decide) ?_))))) (fun b2 => x_sipush (x_goto (hJ 4 _ _ rfl _ _ _ _ (x_iret (by first | exact nrwB _ | rfl | decide) ?_))))))))))) (fun b1 => x_iload rfl (x_aload rfl (w_getr W 0 11 (t := i + 2) hC.lt hC.sh rfl rfl (hC.rf2 _) (x_iload rfl (w_iald W _ hC.lt2 hC.sh2 rfl (by omega) (by decide) (x_br2 (fun b3 => hJ 1 _ _ rfl _ _ _ _ (x_sipush (x_goto (hJ 4 _ _ rfl _ _ _ _ (x_iret (by first | exact nrwB _ | rfl | decide) ?_))))) (fun b3 => x_sipush (x_goto (hJ 4 _ _ rfl _ _ _ _ (x_iret (by first | exact nrwB _ | rfl | decide) ?_))))))))))))))))
  · rw [f1] at b1
    rw [f2] at b2
    have e : bySee V m s = false := by
      unfold bySee
      rw [if_neg b1]
      exact decide_eq_false b2
    rw [e] at hP
    exact hP
  · rw [f1] at b1
    rw [f2] at b2
    have e : bySee V m s = true := by
      unfold bySee
      rw [if_neg b1]
      exact decide_eq_true (Decidable.not_not.mp b2)
    rw [e] at hP
    exact hP
  · rw [f1] at b1
    rw [f2] at b3
    have e : bySee V m s = false := by
      unfold bySee
      rw [if_pos (Decidable.not_not.mp b1)]
      exact decide_eq_false (Int32.not_lt.mpr b3)
    rw [e] at hP
    exact hP
  · rw [f1] at b1
    rw [f2] at b3
    have e : bySee V m s = true := by
      unfold bySee
      rw [if_pos (Decidable.not_not.mp b1)]
      exact decide_eq_true (Int32.not_le.mp b3)
    rw [e] at hP
    exact hP
end C0
