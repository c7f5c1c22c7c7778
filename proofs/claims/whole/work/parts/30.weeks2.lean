/-! ===== a club: its weeks, the walks ===== -/
/-- quotients and rests of small numbers -/
theorem kN_div {a b : Nat} (ha : a < 2147483648) (hb : b < 2147483648) : kI (a : Int) / kI (b : Int) = kI ((a / b : Nat) : Int) := by
  unfold kI
  rw [← Int32.ofInt_tdiv]
  · congr 1
  · show (-2147483648 : Int) ≤ _
    omega
  · show _ ≤ (2147483647 : Int)
    omega
  · show (-2147483648 : Int) ≤ _
    omega
  · show _ ≤ (2147483647 : Int)
    omega
theorem kN_rem {a b : Nat} (ha : a < 2147483648) (hb : b < 2147483648) : kI (a : Int) - kI (a : Int) / kI (b : Int) * kI (b : Int) = kI ((a % b : Nat) : Int) := by
  rw [kN_div ha hb, kI_mul, kI_sub]
  congr 1
  have h := Nat.div_add_mod a b
  have h2 : b * (a / b) = a / b * b := Nat.mul_comm _ _
  have h3 : ((a / b * b + a % b : Nat) : Int) = (a : Int) := by
    rw [← h2, h]
  push_cast at h3 ⊢
  omega
theorem kN_mul (a b : Nat) : kI (a : Int) * kI (b : Int) = kI ((a * b : Nat) : Int) := by
  rw [kI_mul]
  congr 1
theorem kN_eq0 {a : Nat} (ha : a < 2147483648) : kI (a : Int) = 0 ↔ a = 0 := by
  rw [show (0 : Int32) = kI ((0 : Nat) : Int) from rfl, kN_inj ha (by omega)]
def rhyF (V : VT) (m : Nat) (r : Nat) : Nat := if vR V m = kI 6 then Nat.lcm r (vN V m).toInt.toNat else r
def rhyV (V : VT) : Nat := fo (rhyF V) 1 (nm V)
theorem rhy_dvd {V : VT} (hV : VOK V) : ∀ m, m ≤ nm V → fo (rhyF V) 1 m ∣ 27720 ∧ 1 ≤ fo (rhyF V) 1 m
  | 0, _ => ⟨Nat.one_dvd _, Nat.le_refl _⟩
  | m + 1, h => by
    obtain ⟨h1, h2⟩ := rhy_dvd hV m (by omega)
    obtain ⟨-, hN, -, -, h6, -⟩ := hV.2.1 m (by omega)
    show rhyF V m (fo (rhyF V) 1 m) ∣ 27720 ∧ 1 ≤ rhyF V m (fo (rhyF V) 1 m)
    unfold rhyF
    by_cases e : vR V m = kI 6
    · rw [if_pos e]
      have h7 := h6 e
      obtain ⟨c, hc, c1, c2⟩ := btw_k hN
      have hc9 : (vN V m).toInt = c := by rw [hc]; exact kI_toInt (by omega) (by omega)
      rw [hc9] at h7 ⊢
      have hd : ∀ c : Nat, c < 13 → 1 ≤ c → c ∣ 27720 := by decide
      refine ⟨Nat.lcm_dvd h1 (hd _ (by omega) (by omega)), ?_⟩
      exact Nat.lcm_pos (show 0 < fo (rhyF V) 1 m by omega) (by omega)
    · rw [if_neg e]
      exact ⟨h1, h2⟩
theorem rhy_le {V : VT} (hV : VOK V) {m : Nat} (h : m ≤ nm V) : fo (rhyF V) 1 m ≤ 27720 := Nat.le_of_dvd (by decide) (rhy_dvd hV m h).1
section C0
variable {ga : Nat → Nat} {L : Nat} {xs : Nat → Int32} {d : Nat} {h : ac_H} {P : ac_P} {ad : Nat → Nat} {w : Wst} {i : Nat} {V : VT}
theorem c_weeksOf {s : Int32} (W : WW ad w h) (hC : isC i) (hR : CR w i V) (hV : VOK V) (hP : P (.inl (some (.int (wksV V s)))) h) : WP ga L xs (d + 1) 24 [.ref (ad i), .int s] h P := by
  have hw := hV.w.2
  refine WP.enter kX0_weeksOf (Nat.le_of_ble_eq_true rfl) (fun J hJ => ?_)
  have loop : ∀ m, m ≤ wk V → J 1 [some (.ref (ad i)), some (.int s), some (.int (sm (fun j => bI (decide (vS V j &&& s = s))) m)), some (.int (kI (m : Int)))] [] h (0, 0) := up_ind (fun m hm ih => ?_)
  · exact hJ 0 _ _ rfl _ _ _ _ (x_sipush (x_istore rfl (x_sipush (x_istore rfl (x_goto (loop 0 (Nat.zero_le _)))))))
  refine hJ 1 _ _ rfl _ _ _ _ (x_iload rfl (x_aload rfl (w_geti W 0 6 hC.lt hC.sh rfl rfl (x_br2 (fun b1 => have b1 := ge_y (hR.w hV) (by omega) b1; hJ 4 _ _ rfl _ _ _ _ (x_iload rfl (x_iret (nrwI _) ?_))) (fun b1 => have b1 := ge_n (hR.w hV) (by omega) b1; x_iload rfl (x_aload rfl (w_getr W 0 13 (t := i + 4) hC.lt hC.sh rfl rfl (hC.rf4 _) (x_iload rfl (w_iald W _ hC.lt4 hC.sh4 rfl (by omega) (by decide) (x_iload rfl (x_iand (x_iload rfl (x_br2 (fun b2 => hJ 2 _ _ rfl _ _ _ _ (x_sipush (x_goto (hJ 3 _ _ rfl _ _ _ _ (x_iadd (x_istore rfl (x_iinc rfl rfl (x_goto (?_))))))))) (fun b2 => x_sipush (x_goto (hJ 3 _ _ rfl _ _ _ _ (x_iadd (x_istore rfl (x_iinc rfl rfl (x_goto (?_)))))))))))))))))))))
  · have e : m = wk V := by omega
    subst e
    exact hP
  · rw [hR.2.2.1 m b1] at b2
    refine J_c (ih (by omega)) ?_
    simp only [sI, sm, kN_succ, decide_eq_false b2]
    all_goals rfl
  · rw [hR.2.2.1 m b1] at b2
    refine J_c (ih (by omega)) ?_
    simp only [sI, sm, kN_succ, decide_eq_true (Decidable.not_not.mp b2)]
    all_goals rfl
theorem c_dinnersOf {m0 : Nat} {x : Int32} (W : WW ad w h) (hC : isC i) (hR : CR w i V) (hV : VOK V) (hx : x = kI (m0 : Int)) (hm0 : m0 < nm V) (hP : P (.inl (some (.int (dinV V m0)))) h) : WP ga L xs (d + 3) 25 [.ref (ad i), .int x] h P := by
  subst hx
  have hn := hV.n.2
  have hw := hV.w.2
  refine WP.enter kX0_dinnersOf (Nat.le_of_ble_eq_true rfl) (fun J hJ => ?_)
  have loop : ∀ m, m ≤ wk V → J 1 [some (.ref (ad i)), some (.int (kI (m0 : Int))), some (.int (sm (fun j => bI (hb (vS V j) m0 && meetsV V (vS V j))) m)), some (.int (kI (m : Int)))] [] h (0, 0) := up_ind (fun m hm ih => ?_)
  · exact hJ 0 _ _ rfl _ _ _ _ (x_sipush (x_istore rfl (x_sipush (x_istore rfl (x_goto (loop 0 (Nat.zero_le _)))))))
  have hs : m < wk V → sok (nm V) (wa w (i + 4) m) := fun hm => by rw [hR.2.2.1 m hm]; exact hV.2.2 m hm
  refine hJ 1 _ _ rfl _ _ _ _ (x_iload rfl (x_aload rfl (w_geti W 0 6 hC.lt hC.sh rfl rfl (x_br2 (fun b1 => have b1 := ge_y (hR.w hV) (by omega) b1; hJ 4 _ _ rfl _ _ _ _ (x_iload rfl (x_iret (nrwI _) ?_))) (fun b1 => have b1 := ge_n (hR.w hV) (by omega) b1; x_iload rfl (x_aload rfl (x_aload rfl (w_getr W 0 13 (t := i + 4) hC.lt hC.sh rfl rfl (hC.rf4 _) (x_iload rfl (w_iald W _ hC.lt4 hC.sh4 rfl (by omega) (by decide) (x_iload rfl (x_cv rfl (Nat.le_of_ble_eq_true rfl) (isO_W W hC.lt hC.sh) (c_has rfl (by omega) (xk_go (x_br (fun b2 => have b2 := bI_eq0.mp b2; hJ 2 _ _ rfl _ _ _ _ (x_sipush (x_goto (hJ 3 _ _ rfl _ _ _ _ (x_iadd (x_istore rfl (x_iinc rfl rfl (x_goto (?_))))))))) (fun b2 => have b2 := bI_ne0.mp b2; x_aload rfl (x_aload rfl (w_getr W 0 13 (t := i + 4) hC.lt hC.sh rfl rfl (hC.rf4 _) (x_iload rfl (w_iald W _ hC.lt4 hC.sh4 rfl (by omega) (by decide) (x_cv rfl (Nat.le_of_ble_eq_true rfl) (isO_W W hC.lt hC.sh) (c_meets W hC hR (hs b1) (xk_go (x_br (fun b3 => have b3 := bI_eq0.mp b3; hJ 2 _ _ rfl _ _ _ _ (x_sipush (x_goto (hJ 3 _ _ rfl _ _ _ _ (x_iadd (x_istore rfl (x_iinc rfl rfl (x_goto (?_))))))))) (fun b3 => have b3 := bI_ne0.mp b3; x_sipush (x_goto (hJ 3 _ _ rfl _ _ _ _ (x_iadd (x_istore rfl (x_iinc rfl rfl (x_goto (?_))))))))))))))))))))))))))))))))
  · have e : m = wk V := by omega
    subst e
    exact hP
  · rw [hR.2.2.1 m b1] at b2
    refine J_c (ih (by omega)) ?_
    simp only [sI, sm, kN_succ, b2]
    all_goals rfl
  · rw [hR.2.2.1 m b1] at b2 b3
    refine J_c (ih (by omega)) ?_
    simp only [sI, sm, kN_succ, b2, b3]
    all_goals rfl
  · rw [hR.2.2.1 m b1] at b2 b3
    refine J_c (ih (by omega)) ?_
    simp only [sI, sm, kN_succ, b2, b3]
    all_goals rfl
theorem c_weeksOfJust {x y : Int32} {u : Nat} (W : WW ad w h) (hC : isC i) (hR : CR w i V) (hV : VOK V) (hx : x = kI (u : Int)) (hu : u ≤ wk V) (hP : P (.inl (some (.int (justV V y u)))) h) : WP ga L xs (d + 2) 27 [.ref (ad i), .int y, .int x] h P := by
  subst hx
  have hw := hV.w.2
  refine WP.enter kX0_weeksOfJust (Nat.le_of_ble_eq_true rfl) (fun J hJ => ?_)
  have loop : ∀ m, m ≤ u → J 1 [some (.ref (ad i)), some (.int y), some (.int (kI (u : Int))), some (.int (justV V y m)), some (.int (kI (m : Int)))] [] h (0, 0) := up_ind (fun m hm ih => ?_)
  · exact hJ 0 _ _ rfl _ _ _ _ (x_sipush (x_istore rfl (x_sipush (x_istore rfl (x_goto (loop 0 (Nat.zero_le _)))))))
  have hs : m < wk V → sok (nm V) (wa w (i + 4) m) := fun hm => by rw [hR.2.2.1 m hm]; exact hV.2.2 m hm
  refine hJ 1 _ _ rfl _ _ _ _ (x_iload rfl (x_iload rfl (x_br2 (fun b1 => have b1 := ge_y rfl (by omega) b1; hJ 4 _ _ rfl _ _ _ _ (x_iload rfl (x_iret (nrwI _) ?_))) (fun b1 => have b1 := ge_n rfl (by omega) b1; x_iload rfl (x_aload rfl (w_getr W 0 13 (t := i + 4) hC.lt hC.sh rfl rfl (hC.rf4 _) (x_iload rfl (w_iald W _ hC.lt4 hC.sh4 rfl (by omega) (by decide) (x_cs rfl (Nat.le_of_ble_eq_true rfl) (c_bitc (hs (by omega)) (xk_go (x_iload rfl (x_br2 (fun b2 => hJ 2 _ _ rfl _ _ _ _ (x_sipush (x_goto (hJ 3 _ _ rfl _ _ _ _ (x_iadd (x_istore rfl (x_iinc rfl rfl (x_goto (?_))))))))) (fun b2 => x_sipush (x_goto (hJ 3 _ _ rfl _ _ _ _ (x_iadd (x_istore rfl (x_iinc rfl rfl (x_goto (?_)))))))))))))))))))))
  · have e : m = u := by omega
    subst e
    exact hP
  · rw [hR.2.2.1 m (by omega)] at b2
    refine J_c (ih (by omega)) ?_
    simp only [sI, justV, sm, kN_succ, decide_eq_false b2]
    all_goals rfl
  · rw [hR.2.2.1 m (by omega)] at b2
    refine J_c (ih (by omega)) ?_
    simp only [sI, justV, sm, kN_succ, decide_eq_true (Decidable.not_not.mp b2)]
    all_goals rfl
theorem c_weeksMet (W : WW ad w h) (hC : isC i) (hR : CR w i V) (hV : VOK V) (hP : P (.inl (some (.int (justV V (V 1) (wk V))))) h) : WP ga L xs (d + 3) 26 [.ref (ad i)] h P := by
  rw [← hR.1.2.1] at hP
  refine WP.enter kX0_weeksMet (Nat.le_of_ble_eq_true rfl) (fun J hJ => ?_)
  exact hJ 0 _ _ rfl _ _ _ _ (x_aload rfl (x_aload rfl (w_geti W 0 1 hC.lt hC.sh rfl rfl (x_aload rfl (w_geti W 0 6 hC.lt hC.sh rfl rfl (x_cv rfl (Nat.le_of_ble_eq_true rfl) (isO_W W hC.lt hC.sh) (c_weeksOfJust W hC hR hV (hR.w hV) (Nat.le_refl _) (xk_go (x_iret (nrwI _) hP)))))))))
theorem c_comersUntil {x : Int32} {u : Nat} (W : WW ad w h) (hC : isC i) (hR : CR w i V) (hV : VOK V) (hx : x = kI (u : Int)) (hu : u ≤ wk V) (hP : P (.inl (some (.int (comersV V u)))) h) : WP ga L xs (d + 2) 29 [.ref (ad i), .int x] h P := by
  subst hx
  have hw := hV.w.2
  refine WP.enter kX0_comersUntil (Nat.le_of_ble_eq_true rfl) (fun J hJ => ?_)
  have loop : ∀ m, m ≤ u → J 1 [some (.ref (ad i)), some (.int (kI (u : Int))), some (.int (comersV V m)), some (.int (kI (m : Int)))] [] h (0, 0) := up_ind (fun m hm ih => ?_)
  · exact hJ 0 _ _ rfl _ _ _ _ (x_sipush (x_istore rfl (x_sipush (x_istore rfl (x_goto (loop 0 (Nat.zero_le _)))))))
  have hs : m < wk V → sok (nm V) (wa w (i + 4) m) := fun hm => by rw [hR.2.2.1 m hm]; exact hV.2.2 m hm
  refine hJ 1 _ _ rfl _ _ _ _ (x_iload rfl (x_iload rfl (x_br2 (fun b1 => have b1 := ge_y rfl (by omega) b1; hJ 2 _ _ rfl _ _ _ _ (x_iload rfl (x_iret (nrwI _) ?_))) (fun b1 => have b1 := ge_n rfl (by omega) b1; x_iload rfl (x_aload rfl (w_getr W 0 13 (t := i + 4) hC.lt hC.sh rfl rfl (hC.rf4 _) (x_iload rfl (w_iald W _ hC.lt4 hC.sh4 rfl (by omega) (by decide) (x_cs rfl (Nat.le_of_ble_eq_true rfl) (c_bitc (hs (by omega)) (xk_go (x_iadd (x_istore rfl (x_iinc rfl rfl (x_goto (?_))))))))))))))))
  · have e : m = u := by omega
    subst e
    exact hP
  · refine J_c (ih (by omega)) ?_
    simp only [sI, comersV, sm, kN_succ, hR.2.2.1 m (show m < wk V by omega)]
theorem c_mostOften {x : Int32} {u : Nat} (W : WW ad w h) (hC : isC i) (hR : CR w i V) (hV : VOK V) (hx : x = kI (u : Int)) (hu : u ≤ wk V) (hP : P (.inl (some (.int (mostV V u)))) h) : WP ga L xs (d + 3) 30 [.ref (ad i), .int x] h P := by
  subst hx
  have hn := hV.n.2
  refine WP.enter kX0_mostOftenUntil (Nat.le_of_ble_eq_true rfl) (fun J hJ => ?_)
  have loop : ∀ m, m ≤ nm V + 1 → ∀ z, J 1 [some (.ref (ad i)), some (.int (kI (u : Int))), some (.int (fo (mostF V u) (kI 0, kI 0) m).1), some (.int (fo (mostF V u) (kI 0, kI 0) m).2), some (.int (kI (m : Int))), z] [] h (0, 0) := up_ind (fun m hm ih z => ?_)
  · exact hJ 0 _ _ rfl _ _ _ _ (x_sipush (x_istore rfl (x_sipush (x_istore rfl (x_sipush (x_istore rfl (x_goto (loop 0 (Nat.zero_le _) _))))))))
  refine hJ 1 _ _ rfl _ _ _ _ (x_iload rfl (x_aload rfl (w_geti W 0 4 hC.lt hC.sh rfl rfl (x_br2 (fun b1 => have b1 := gt_y (hR.n hV) (by omega) b1; hJ 3 _ _ rfl _ _ _ _ (x_iload rfl (x_iret (nrwI _) ?_))) (fun b1 => have b1 := gt_n (hR.n hV) (by omega) b1; x_aload rfl (x_iload rfl (x_iload rfl (x_cv rfl (Nat.le_of_ble_eq_true rfl) (isO_W W hC.lt hC.sh) (c_weeksOfJust W hC hR hV rfl hu (xk_go (x_istore rfl (x_iload rfl (x_iload rfl (x_br2 (fun b2 => hJ 2 _ _ rfl _ _ _ _ (x_iinc rfl rfl (x_goto (?_)))) (fun b2 => x_iload rfl (x_istore rfl (x_iload rfl (x_istore rfl (x_goto (hJ 2 _ _ rfl _ _ _ _ (x_iinc rfl rfl (x_goto (?_)))))))))))))))))))))))
  · have e : m = nm V + 1 := by omega
    subst e
    exact hP
  · refine J_c (ih (by omega) (some (.int (justV V (kI (m : Int)) u)))) ?_
    simp only [sI, fo, kN_succ, mostF, if_neg (Int32.not_lt.mpr b2)]
  · refine J_c (ih (by omega) (some (.int (justV V (kI (m : Int)) u)))) ?_
    simp only [sI, fo, kN_succ, mostF, if_pos (Int32.not_le.mp b2)]
theorem c_guessOf {c x : Int32} {u : Nat} (W : WW ad w h) (hC : isC i) (hR : CR w i V) (hV : VOK V) (hc : btw c 0 3) (hx : x = kI (u : Int)) (hu : u ≤ wk V) (hP : P (.inl (some (.int (cookV V c u)))) h) : WP ga L xs (d + 4) 28 [.ref (ad i), .int c, .int x] h P := by
  subst hx
  have hw := hV.w.2
  refine WP.enter kX0_guessOf (Nat.le_of_ble_eq_true rfl) (fun J hJ => ?_)
  obtain ⟨c0, rfl, c1, c2⟩ := btw_k hc
  have hs : 1 ≤ u → sok (nm V) (wa w (i + 4) (u - 1)) := fun h1 => by rw [hR.2.2.1 _ (by omega)]; exact hV.2.2 _ (by omega)
  have hcs : c0 = 0 ∨ c0 = 1 ∨ c0 = 2 ∨ c0 = 3 := by omega
  unfold cookV at hP
  rcases hcs with rfl | rfl | rfl | rfl
  · refine hJ 0 _ _ rfl _ _ _ _ (x_iload rfl (x_br (fun b1 => have b1 := k_gt0n (by omega) b1; hJ 1 _ _ rfl _ _ _ _ (x_iload rfl (x_ts (b := 2) rfl (hJ 2 _ _ rfl _ _ _ _ (x_aload rfl (w_getr W 0 13 (t := i + 4) hC.lt hC.sh rfl rfl (hC.rf4 _) (x_iload rfl (x_sipush (x_isub (w_iald W (u - 1) hC.lt4 hC.sh4 (kN_pred b1) (by omega) (by decide) (x_cs rfl (Nat.le_of_ble_eq_true rfl) (c_bitc (hs b1) (xk_go (x_iret (nrwI _) ?_)))))))))))))) (fun b1 => have b1 := k_le0n (by omega) b1; x_sipush (x_iret (nrwI _) ?_))))
    · rw [if_neg (by omega), if_pos rfl] at hP
      rw [hR.2.2.1 _ (by omega)]
      exact hP
    · rw [if_pos b1] at hP
      exact hP
  · refine hJ 0 _ _ rfl _ _ _ _ (x_iload rfl (x_br (fun b1 => have b1 := k_gt0n (by omega) b1; hJ 1 _ _ rfl _ _ _ _ (x_iload rfl (x_ts (b := 3) rfl (hJ 3 _ _ rfl _ _ _ _ (x_aload rfl (x_iload rfl (x_cv rfl (Nat.le_of_ble_eq_true rfl) (isO_W W hC.lt hC.sh) (c_comersUntil W hC hR hV rfl hu (xk_go (x_iload rfl (x_idiv (fun z => by rw [kN_eq0 (by omega)] at z; omega) (x_iret (nrwI _) ?_)))))))))))) (fun b1 => have b1 := k_le0n (by omega) b1; x_sipush (x_iret (nrwI _) ?_))))
    · rw [if_neg (by omega), if_neg (by decide), if_pos rfl] at hP
      exact hP
    · rw [if_pos b1] at hP
      exact hP
  · refine hJ 0 _ _ rfl _ _ _ _ (x_iload rfl (x_br (fun b1 => have b1 := k_gt0n (by omega) b1; hJ 1 _ _ rfl _ _ _ _ (x_iload rfl (x_ts (b := 4) rfl (hJ 4 _ _ rfl _ _ _ _ (x_aload rfl (x_iload rfl (x_cv rfl (Nat.le_of_ble_eq_true rfl) (isO_W W hC.lt hC.sh) (c_mostOften W hC hR hV rfl hu (xk_go (x_iret (nrwI _) ?_)))))))))) (fun b1 => have b1 := k_le0n (by omega) b1; x_sipush (x_iret (nrwI _) ?_))))
    · rw [if_neg (by omega), if_neg (by decide), if_neg (by decide), if_pos rfl] at hP
      exact hP
    · rw [if_pos b1] at hP
      exact hP
  · refine hJ 0 _ _ rfl _ _ _ _ (x_iload rfl (x_br (fun b1 => have b1 := k_gt0n (by omega) b1; hJ 1 _ _ rfl _ _ _ _ (x_iload rfl (x_ts (b := 5) rfl (hJ 5 _ _ rfl _ _ _ _ (x_aload rfl (w_geti W 0 1 hC.lt hC.sh rfl rfl (x_iret (nrwI _) ?_))))))) (fun b1 => have b1 := k_le0n (by omega) b1; x_sipush (x_iret (nrwI _) ?_))))
    · rw [if_neg (by omega), if_neg (by decide), if_neg (by decide), if_neg (by decide)] at hP
      rw [hR.1.2.1]
      exact hP
    · rw [if_pos b1] at hP
      exact hP
theorem c_hasLearner (W : WW ad w h) (hC : isC i) (hR : CR w i V) (hV : VOK V) (hP : P (.inl (some (.int (bI (learnerV V))))) h) : WP ga L xs (d + 1) 21 [.ref (ad i)] h P := by
  have hn := hV.n.2
  refine WP.enter kX0_hasLearner (Nat.le_of_ble_eq_true rfl) (fun J hJ => ?_)
  have loop : ∀ m, m ≤ nm V → (∀ j, j < m → ¬ vR V j = kI 10) → J 1 [some (.ref (ad i)), some (.int (kI (m : Int)))] [] h (0, 0) := up_ind (fun m hm ih hno => ?_)
  · exact hJ 0 _ _ rfl _ _ _ _ (x_sipush (x_istore rfl (x_goto (loop 0 (Nat.zero_le _) (fun j hj => by omega)))))
  refine hJ 1 _ _ rfl _ _ _ _ (x_iload rfl (x_aload rfl (w_geti W 0 4 hC.lt hC.sh rfl rfl (x_br2 (fun b1 => have b1 := ge_y (hR.n hV) (by omega) b1; hJ 3 _ _ rfl _ _ _ _ (x_sipush (x_iret (by first | exact nrwB _ | rfl | decide) ?_))) (fun b1 => have b1 := ge_n (hR.n hV) (by omega) b1; x_aload rfl (w_getr W 0 10 (t := i + 1) hC.lt hC.sh rfl rfl (hC.rf1 _) (x_iload rfl (w_iald W _ hC.lt1 hC.sh1 rfl (by omega) (by decide) (x_sipush (x_br2 (fun b2 => hJ 2 _ _ rfl _ _ _ _ (x_iinc rfl rfl (x_goto (?_)))) (fun b2 => x_sipush (x_iret (by first | exact nrwB _ | rfl | decide) ?_))))))))))))
  · have e : learnerV V = false := decide_eq_false (by rintro ⟨j, h1, h2⟩; exact hno j (by omega) h2)
    rw [e] at hP
    exact hP
  · rw [(hR.2.1 m b1).1] at b2
    refine J_c (ih (by omega) (fun j hj => ?_)) ?_
    · by_cases e : j = m
      · rw [e]; exact b2
      · exact hno j (by omega)
    · simp only [sI, kN_succ]
  · rw [(hR.2.1 m b1).1] at b2
    have e : learnerV V = true := decide_eq_true ⟨m, b1, Decidable.not_not.mp b2⟩
    rw [e] at hP
    exact hP
theorem c_leastMultiple {x y : Int32} {b r : Nat} (hx : x = kI (r : Int)) (hy : y = kI (b : Int)) (hr : 1 ≤ r ∧ r ≤ 27720) (hb9 : 1 ≤ b ∧ b ≤ 12) (hP : P (.inl (some (.int (kI (Nat.lcm r b : Int))))) h) : WP ga L xs (d + 1) 23 [.int x, .int y] h P := by
  subst hx hy
  have hg : 1 ≤ Nat.gcd r b := Nat.gcd_pos_of_pos_left _ (by omega)
  have hdv : ∀ t, b ∣ r * t ↔ b / Nat.gcd r b ∣ t := by
    intro t
    obtain ⟨k, hk⟩ := Nat.gcd_dvd_right r b
    obtain ⟨k2, hk2⟩ := Nat.gcd_dvd_left r b
    have e1 : b / Nat.gcd r b = k := by
      have : b = Nat.gcd r b * k := hk
      exact Nat.div_eq_of_eq_mul_right hg this
    have e2 : r / Nat.gcd r b = k2 := Nat.div_eq_of_eq_mul_right hg hk2
    have hcop : Nat.Coprime k2 k := by
      rw [← e1, ← e2]
      exact Nat.coprime_div_gcd_div_gcd hg
    rw [e1]
    constructor
    · intro h1
      have h2 : Nat.gcd r b * k ∣ Nat.gcd r b * (k2 * t) := by
        rw [← hk, ← Nat.mul_assoc, ← hk2]
        exact h1
      have h3 := Nat.dvd_of_mul_dvd_mul_left hg h2
      exact hcop.symm.dvd_of_dvd_mul_left h3
    · rintro ⟨c, rfl⟩
      refine ⟨k2 * c, ?_⟩
      calc r * (k * c) = (Nat.gcd r b * k2) * (k * c) := by rw [← hk2]
        _ = (Nat.gcd r b * k) * (k2 * c) := by
          rw [Nat.mul_assoc, Nat.mul_assoc, Nat.mul_left_comm k2 k c]
        _ = b * (k2 * c) := by rw [← hk]
  have hlcm : Nat.lcm r b = r * (b / Nat.gcd r b) := by
    unfold Nat.lcm
    exact Nat.mul_div_assoc _ (Nat.gcd_dvd_right r b)
  have hq1 : 1 ≤ b / Nat.gcd r b := Nat.div_pos (Nat.le_of_dvd (by omega) (Nat.gcd_dvd_right r b)) hg
  have hq2 : b / Nat.gcd r b ≤ b := Nat.div_le_self _ _
  refine WP.enter kX0_leastMultiple (Nat.le_of_ble_eq_true rfl) (fun J hJ => ?_)
  have loop : ∀ m, m ≤ b → (m + 1 ≤ b / Nat.gcd r b) → J 1 [some (.int (kI (r : Int))), some (.int (kI (b : Int))), some (.int (kI ((m + 1 : Nat) : Int)))] [] h (0, 0) := up_ind (fun m hm ih hno => ?_)
  · exact hJ 0 _ _ rfl _ _ _ _ (x_sipush (x_istore rfl (x_goto (loop 0 (Nat.zero_le _) hq1))))
  have hmul : r * (m + 1) ≤ 27720 * 12 := Nat.mul_le_mul hr.2 (by omega)
  refine hJ 1 _ _ rfl _ _ _ _ (x_iload rfl (x_iload rfl (x_br2 (fun b1 => have b1 := gt_y rfl (by omega) b1; hJ 3 _ _ rfl _ _ _ _ (x_iload rfl (x_iret (nrwI _) ?_))) (fun b1 => have b1 := gt_n rfl (by omega) b1; x_iload rfl (x_iload rfl (x_imul (x_iload rfl (x_irem (fun z => by rw [kN_eq0 (by omega)] at z; omega) (x_br (fun b2 => have b2 := cy_ne b2; hJ 2 _ _ rfl _ _ _ _ (x_iinc rfl rfl (x_goto (?_)))) (fun b2 => have b2 := cn_ne b2; x_iload rfl (x_iload rfl (x_imul (x_iret (nrwI _) ?_)))))))))))))
  · omega
  · rw [kN_mul, kN_rem (by omega) (by omega), kN_eq0 (Nat.lt_of_le_of_lt (Nat.mod_le _ _) (by omega))] at b2
    have h1 : ¬ m + 1 = b / Nat.gcd r b := fun z => b2 (Nat.mod_eq_zero_of_dvd ((hdv _).mpr (by rw [z]; exact Nat.dvd_refl _)))
    refine J_c (ih (by omega) (by omega)) ?_
    simp only [sI, kN_succ]
  · rw [kN_mul, kN_rem (by omega) (by omega), kN_eq0 (Nat.lt_of_le_of_lt (Nat.mod_le _ _) (by omega))] at b2
    have h1 := Nat.le_of_dvd (by omega) ((hdv _).mp (Nat.dvd_of_mod_eq_zero b2))
    have h2 : m + 1 = b / Nat.gcd r b := by omega
    rw [kN_mul]
    rw [hlcm, ← h2] at hP
    exact hP
theorem c_round (W : WW ad w h) (hC : isC i) (hR : CR w i V) (hV : VOK V) (hP : P (.inl (some (.int (kI (rhyV V : Int))))) h) : WP ga L xs (d + 2) 22 [.ref (ad i)] h P := by
  have hn := hV.n.2
  refine WP.enter kX0_roundOfWeeks (Nat.le_of_ble_eq_true rfl) (fun J hJ => ?_)
  have loop : ∀ m, m ≤ nm V → J 1 [some (.ref (ad i)), some (.int (kI ((fo (rhyF V) 1 m : Nat) : Int))), some (.int (kI (m : Int)))] [] h (0, 0) := up_ind (fun m hm ih => ?_)
  · exact hJ 0 _ _ rfl _ _ _ _ (x_sipush (x_istore rfl (x_sipush (x_istore rfl (x_goto (loop 0 (Nat.zero_le _)))))))
  have hrl := rhy_le hV hm
  have hr1 := (rhy_dvd hV m hm).2
  have hN : m < nm V → wa w (i + 2) m = kI ((vN V m).toInt.toNat : Int) ∧ (vR V m = kI 6 → 1 ≤ (vN V m).toInt.toNat) ∧ (vN V m).toInt.toNat ≤ 12 := fun hm => by
    obtain ⟨-, hN, -, -, h6, -⟩ := hV.2.1 m hm
    refine ⟨?_, fun e => ?_, ?_⟩
    · rw [(hR.2.1 m hm).2.1, Int.toNat_of_nonneg hN.1, kI_of]
    · have := h6 e
      omega
    · have := hN.2
      omega
  refine hJ 1 _ _ rfl _ _ _ _ (x_iload rfl (x_aload rfl (w_geti W 0 4 hC.lt hC.sh rfl rfl (x_br2 (fun b1 => have b1 := ge_y (hR.n hV) (by omega) b1; hJ 3 _ _ rfl _ _ _ _ (x_iload rfl (x_iret (nrwI _) ?_))) (fun b1 => have b1 := ge_n (hR.n hV) (by omega) b1; x_aload rfl (w_getr W 0 10 (t := i + 1) hC.lt hC.sh rfl rfl (hC.rf1 _) (x_iload rfl (w_iald W _ hC.lt1 hC.sh1 rfl (by omega) (by decide) (x_sipush (x_br2 (fun b2 => hJ 2 _ _ rfl _ _ _ _ (x_iinc rfl rfl (x_goto (?_)))) (fun b2 => x_iload rfl (x_aload rfl (w_getr W 0 11 (t := i + 2) hC.lt hC.sh rfl rfl (hC.rf2 _) (x_iload rfl (w_iald W _ hC.lt2 hC.sh2 rfl (by omega) (by decide) (x_cs rfl (Nat.le_of_ble_eq_true rfl) (c_leastMultiple rfl (hN b1).1 ⟨hr1, hrl⟩ ⟨?_, (hN b1).2.2⟩ (xk_go (x_istore rfl (x_goto (hJ 2 _ _ rfl _ _ _ _ (x_iinc rfl rfl (x_goto (?_))))))))))))))))))))))))
  · have e : m = nm V := by omega
    subst e
    exact hP
  · rw [(hR.2.1 m b1).1] at b2
    refine J_c (ih (by omega)) ?_
    simp only [sI, kN_succ, fo, rhyF, if_neg b2]
  · rw [(hR.2.1 m b1).1] at b2
    exact (hN b1).2.1 (Decidable.not_not.mp b2)
  · rw [(hR.2.1 m b1).1] at b2
    refine J_c (ih (by omega)) ?_
    simp only [sI, kN_succ, fo, rhyF, if_pos (Decidable.not_not.mp b2)]
end C0
