/-! ===== the best rule ===== -/
def lsN (r : Nat) : Nat := [0, 0, 0, 0, 0, 0, 1, 0, 0, 0, 0].getD r 0
def msN (r : Nat) : Nat := [0, 0, 0, 0, 12, 12, 12, 12, 12, 6, 0].getD r 0
def rulN (r i : Nat) : Bool := decide (lsN r ≤ i ∧ i ≤ msN r)
theorem ruled_N : ∀ r : Nat, r < 11 → ∀ i : Nat, i < 13 → ruledB (kI (r : Int)) (kI (i : Int)) = rulN r i := by decide +kernel
theorem least_N : ∀ r : Nat, r < 11 → leastN.getD (kI (r : Int)).toNatClampNeg 0 = kI (lsN r : Int) ∧ lsN r ≤ 12 := by decide +kernel
theorem most_N : ∀ r : Nat, r < 11 → mostN.getD (kI (r : Int)).toNatClampNeg 0 = kI (msN r : Int) ∧ msN r ≤ 12 := by decide +kernel
theorem rul_no69 : ∀ r, r < 11 → ∀ i, i < 13 → rulN r i = true → (r = 6 → 1 ≤ i) ∧ (r = 9 → i ≤ 6) := by decide +kernel
def setRN (V : VT) (a : Nat) (y z : Int32) : VT := upd (upd V (6 + 4 * a + 0) y) (6 + 4 * a + 1) z
theorem rn_low {V : VT} {a k : Nat} {y z : Int32} (h : k < 6) : setRN V a y z k = V k := (upd_ne (by omega)).trans (upd_ne (by omega))
theorem rn_R {V : VT} {a m : Nat} {y z : Int32} : vR (setRN V a y z) m = if m = a then y else vR V m := by
  unfold vR setRN
  rw [upd_ne (by omega)]
  by_cases h : m = a
  · subst h
    rw [if_pos rfl]
    exact upd_self _ _ _
  · rw [upd_ne (by omega), if_neg h]
theorem rn_N {V : VT} {a m : Nat} {y z : Int32} : vN (setRN V a y z) m = if m = a then z else vN V m := by
  unfold vN setRN
  by_cases h : m = a
  · subst h
    rw [if_pos rfl, show 7 + 4 * m = 6 + 4 * m + 1 by omega]
    exact upd_self _ _ _
  · rw [upd_ne (by omega), upd_ne (by omega), if_neg h]
theorem rn_C {V : VT} {a m : Nat} {y z : Int32} : vC (setRN V a y z) m = vC V m := (upd_ne (by omega)).trans (upd_ne (by omega))
theorem rn_U {V : VT} {a m : Nat} {y z : Int32} : vU (setRN V a y z) m = vU V m := (upd_ne (by omega)).trans (upd_ne (by omega))
theorem rn_S {V : VT} {a m : Nat} {y z : Int32} (ha : a < 12) : vS (setRN V a y z) m = vS V m := (upd_ne (by omega)).trans (upd_ne (by omega))
theorem rn_nm {V : VT} {a : Nat} {y z : Int32} : nm (setRN V a y z) = nm V := by
  unfold nm
  rw [rn_low (by omega)]
theorem rn_wk {V : VT} {a : Nat} {y z : Int32} : wk (setRN V a y z) = wk V := by
  unfold wk
  rw [rn_low (by omega)]
theorem rn_id (V : VT) (a : Nat) : setRN V a (V (6 + 4 * a + 0)) (V (6 + 4 * a + 1)) = V := by
  funext k
  unfold setRN
  by_cases h1 : k = 6 + 4 * a + 1
  · rw [h1, upd_self]
  · rw [upd_ne h1]
    by_cases h2 : k = 6 + 4 * a + 0
    · rw [h2, upd_self]
    · rw [upd_ne h2]
theorem rn_rn (V : VT) (a : Nat) (y z y' z' : Int32) : setRN (setRN V a y z) a y' z' = setRN V a y' z' := by
  funext k
  unfold setRN
  by_cases h1 : k = 6 + 4 * a + 1
  · rw [h1, upd_self, upd_self]
  · rw [upd_ne h1, upd_ne h1]
    by_cases h2 : k = 6 + 4 * a + 0
    · rw [h2, upd_self, upd_self]
    · rw [upd_ne h2, upd_ne h2, upd_ne h1, upd_ne h2]
theorem VOK.rn {V : VT} {a r i : Nat} (hV : VOK V) (ha : a < 12) (hr : r < 11) (hi : i < 13) (hb : rulN r i = true) : VOK (setRN V a (kI (r : Int)) (kI (i : Int))) := by
  obtain ⟨⟨a0, a1, a2, a3, a4, a5⟩, hm, hj⟩ := hV
  obtain ⟨g6, g9⟩ := rul_no69 r hr i hi hb
  refine ⟨⟨?_, ?_, ?_, ?_, ?_, ?_⟩, fun m hm9 => ?_, fun j hj9 => ?_⟩
  · rw [rn_low (by omega)]; exact a0
  · rw [rn_low (by omega)]; exact a1
  · rw [rn_low (by omega)]; exact a2
  · rw [rn_low (by omega)]; exact a3
  · rw [rn_low (by omega)]; exact a4
  · rw [rn_low (by omega)]; exact a5
  · rw [rn_nm] at hm9
    rw [rn_R, rn_N, rn_C, rn_U]
    by_cases h : m = a
    · simp only [if_pos h]
      have e1 : (kI (r : Int)).toInt = r := kN_toInt (by omega)
      have e2 : (kI (i : Int)).toInt = i := kN_toInt (by omega)
      refine ⟨by unfold btw; omega, by unfold btw; omega, (hm m hm9).2.2.1, (hm m hm9).2.2.2.1, fun z => ?_, fun z => ?_⟩
      · have z2 := congrArg Int32.toInt z
        rw [e1, show (6 : Int32).toInt = 6 from rfl] at z2
        have := g6 (by omega)
        omega
      · have z2 := congrArg Int32.toInt z
        rw [e1, show (9 : Int32).toInt = 9 from rfl] at z2
        have := g9 (by omega)
        omega
    · simp only [if_neg h]
      exact hm m hm9
  · rw [rn_wk] at hj9
    rw [rn_nm, rn_S ha]
    exact hj j hj9
def brF (V : VT) (a n r i : Nat) (st : Int32 × Int32 × Int32) : Int32 × Int32 × Int32 := if rulN r i = true ∧ (st.1 = kI (-1) ∨ st.2.2 < payAV (setRN V a (kI (r : Int)) (kI (i : Int))) a n) then (kI (r : Int), kI (i : Int), payAV (setRN V a (kI (r : Int)) (kI (i : Int))) a n) else st
def brI (V : VT) (a n r : Nat) (st : Int32 × Int32 × Int32) (k : Nat) : Int32 × Int32 × Int32 := fo (brF V a n r) st k
def brO (V : VT) (a n k : Nat) : Int32 × Int32 × Int32 := fo (fun r st => brI V a n r st 13) (kI (-1), kI 0, kI 0) k
def bestRuleV (V : VT) (a n : Nat) (what : Int32) : Int32 := if what = kI 0 then (brO V a n 11).1 else if what = kI 1 then (brO V a n 11).2.1 else (brO V a n 11).2.2
def bestRuleT (V : VT) (x y z : Int32) : Nat := if isMemV V x = true then (if inV y 1 30 = true ∧ inV z 0 2 = true then 0 else 2) else 1
section B1
variable {ga : Nat → Nat} {L : Nat} {xs : Nat → Int32} {d : Nat} {h : ac_H} {P : ac_P} {ad : Nat → Nat} {w : Wst} {i : Nat} {V : VT}
theorem m_bestRule {x y z : Int32} (W : WW ad w h) (hK : wa w 81 = V) (hV : VOK V) (kk : KQ ad P w (bestRuleT V x y z) (.int (bestRuleV V (tN x) (tN y) z))) : WP ga L xs (d + 9) 231 [.ref (ad 80), .int x, .int y, .int z] h P := by
  have hn := hV.n.2
  have hw := hV.w.2
  have wy : inV y 1 30 = decide ((Int64.ofNat 1).toInt ≤ y.toInt64.toInt ∧ y.toInt64.toInt ≤ (Int64.ofNat 30).toInt) := (inV_l (a := 1) (b := 30) (by omega) (by omega)).symm
  have wz : inV z 0 2 = decide ((Int64.ofNat 0).toInt ≤ z.toInt64.toInt ∧ z.toInt64.toInt ≤ (Int64.ofNat 2).toInt) := (inV_l (a := 0) (b := 2) (by omega) (by omega)).symm
  have ixx : isMemV V x = true → ∀ t : Nat, kI 6 + kI 4 * x + kI (t : Int) = kI ((6 + 4 * tN x + t : Nat) : Int) := fun q t => by
    have h9 := of_ix (tN x) t
    rw [← (isMem_m q).1] at h9
    exact h9
  unfold bestRuleT at kk
  refine WP.enter kX7_bestRule (Nat.le_of_ble_eq_true rfl) (fun J hJ => ?_)
  have loop5 : isMemV V x = true → inV y 1 30 = true → inV z 0 2 = true → ∀ r, r ≤ 11 → ∀ h' w' z11 z12 z13, WW ad w' h' → kq SM w w' → kf FM w w' → wn w' 80 4 = kI 0 → (∃ u v, wa w' 81 = setRN V (tN x) u v) → J 5 [some (.ref (ad 80)), some (.int x), some (.int y), some (.int z), some (.int (kI 6 + kI 4 * x)), some (.int (V (6 + 4 * tN x + 0))), some (.int (V (6 + 4 * tN x + 1))), some (.int (brO V (tN x) (tN y) r).1), some (.int (brO V (tN x) (tN y) r).2.1), some (.int (brO V (tN x) (tN y) r).2.2), some (.int (kI (r : Int))), z11, z12, z13] [] h' (0, 0) := by
    intro hm hy hz
    obtain ⟨hx1, hx2⟩ := isMem_m hm
    obtain ⟨y1, y2, y3⟩ := xnV (a := 1) (b := 30) hy
    have hy1 : y = kI (tN y : Int) := y1
    refine up_ind (fun r hr ih5 h5 w5 z11 z12 z13 W5 k5 f5 n5 u5 => ?_)
    have loop6 : r < 11 → ∀ i, i ≤ 13 → ∀ h' w' z12 z13, WW ad w' h' → kq SM w w' → kf FM w w' → wn w' 80 4 = kI 0 → (∃ u v, wa w' 81 = setRN V (tN x) u v) → J 6 [some (.ref (ad 80)), some (.int x), some (.int y), some (.int z), some (.int (kI 6 + kI 4 * x)), some (.int (V (6 + 4 * tN x + 0))), some (.int (V (6 + 4 * tN x + 1))), some (.int (brI V (tN x) (tN y) r (brO V (tN x) (tN y) r) i).1), some (.int (brI V (tN x) (tN y) r (brO V (tN x) (tN y) r) i).2.1), some (.int (brI V (tN x) (tN y) r (brO V (tN x) (tN y) r) i).2.2), some (.int (kI (r : Int))), some (.int (kI (i : Int))), z12, z13] [] h' (0, 0) := by
      intro hr9
      refine up_ind (fun i hi ih6 h6 w6 z12 z13 W6 k6 f6 n6 u6 => ?_)
      obtain ⟨u6a, u6b, u6⟩ := u6
      have hk7 : wa (sa (sa w6 81 (upd (wa w6 81) (6 + 4 * tN x + 0) (kI (r : Int)))) 81 (upd (wa (sa w6 81 (upd (wa w6 81) (6 + 4 * tN x + 0) (kI (r : Int)))) 81) (6 + 4 * tN x + 1) (kI (i : Int)))) 81 = setRN V (tN x) (kI (r : Int)) (kI (i : Int)) := by
        rw [wa_self, wa_self, u6]
        exact rn_rn _ _ _ _ _ _
      have hV7 : i ≤ 12 → ruledB (kI (r : Int)) (kI (i : Int)) = true → VOK (setRN V (tN x) (kI (r : Int)) (kI (i : Int))) := fun h1 h2 => hV.rn (by omega) hr9 (by omega) (by rw [← ruled_N r hr9 i (by omega)]; exact h2)
      have estep : brI V (tN x) (tN y) r (brO V (tN x) (tN y) r) (i + 1) = brF V (tN x) (tN y) r i (brI V (tN x) (tN y) r (brO V (tN x) (tN y) r) i) := rfl
      have loop8 : i ≤ 12 → rulN r i = true → VOK (setRN V (tN x) (kI (r : Int)) (kI (i : Int))) → ∀ m, m ≤ tN y → ∀ h' w', WW ad w' h' → kq SM w w' → kf FM w w' → wn w' 80 4 = kI 0 → wa w' 81 = setRN V (tN x) (kI (r : Int)) (kI (i : Int)) → PR w' (runP (setRN V (tN x) (kI (r : Int)) (kI (i : Int))) (startP (setRN V (tN x) (kI (r : Int)) (kI (i : Int)))) m) → J 8 [some (.ref (ad 80)), some (.int x), some (.int y), some (.int z), some (.int (kI 6 + kI 4 * x)), some (.int (V (6 + 4 * tN x + 0))), some (.int (V (6 + 4 * tN x + 1))), some (.int (brI V (tN x) (tN y) r (brO V (tN x) (tN y) r) i).1), some (.int (brI V (tN x) (tN y) r (brO V (tN x) (tN y) r) i).2.1), some (.int (brI V (tN x) (tN y) r (brO V (tN x) (tN y) r) i).2.2), some (.int (kI (r : Int))), some (.int (kI (i : Int))), some (.int (payAV (setRN V (tN x) (kI (r : Int)) (kI (i : Int))) (tN x) m)), some (.int (kI (m : Int)))] [] h' (0, 0) := by
        intro hi9 hrul hV8
        refine up_ind (fun m hm9 ih8 h8 w8 W8 k8 f8 n8 hK8 hr8 => ?_)
        have hwk8 : wk (setRN V (tN x) (kI (r : Int)) (kI (i : Int))) = wk V := rn_wk
        have hpm := (POK.start hV8).run hV8.n.2 m (by have : (startP (setRN V (tN x) (kI (r : Int)) (kI (i : Int)))).2 = wk (setRN V (tN x) (kI (r : Int)) (kI (i : Int))) := rfl; omega)
        have hlen : (runP (setRN V (tN x) (kI (r : Int)) (kI (i : Int))) (startP (setRN V (tN x) (kI (r : Int)) (kI (i : Int)))) m).2 = wk (setRN V (tN x) (kI (r : Int)) (kI (i : Int))) + m := runP_len m
        have e9 : payAV (setRN V (tN x) (kI (r : Int)) (kI (i : Int))) (tN x) (m + 1) = payAV (setRN V (tN x) (kI (r : Int)) (kI (i : Int))) (tN x) m + payV (setRN V (tN x) (kI (r : Int)) (kI (i : Int))) (nextP (setRN V (tN x) (kI (r : Int)) (kI (i : Int))) (runP (setRN V (tN x) (kI (r : Int)) (kI (i : Int))) (startP (setRN V (tN x) (kI (r : Int)) (kI (i : Int)))) m)) (tN x) := rfl
        have estep := estep
        unfold brF at estep
        refine hJ 8 _ _ rfl _ _ _ _ (x_iload rfl (x_iload rfl (x_br2 (fun q1 => have q1 := ge_y hy1 (by omega) q1; hJ 9 _ _ rfl _ _ _ _ (x_iload rfl (x_sipush (x_br2 (fun q2 => have q2 := cy_eq q2; hJ 10 _ _ rfl _ _ _ _ (x_iload rfl (x_istore rfl (x_iload rfl (x_istore rfl (x_iload rfl (x_istore rfl (x_goto (hJ 11 _ _ rfl _ _ _ _ (x_iinc rfl rfl (x_goto (?_)))))))))))) (fun q2 => have q2 := cn_eq q2; x_iload rfl (x_iload rfl (x_br2 (fun q3 => have q3 := cy_gt q3; hJ 10 _ _ rfl _ _ _ _ (x_iload rfl (x_istore rfl (x_iload rfl (x_istore rfl (x_iload rfl (x_istore rfl (x_goto (hJ 11 _ _ rfl _ _ _ _ (x_iinc rfl rfl (x_goto (?_)))))))))))) (fun q3 => have q3 := cn_gt q3; x_goto (hJ 11 _ _ rfl _ _ _ _ (x_iinc rfl rfl (x_goto (?_)))))))))))) (fun q1 => have q1 := ge_n hy1 (by omega) q1; x_iload rfl (x_aload rfl (x_aload rfl (x_cv rfl (Nat.le_of_ble_eq_true rfl) (isO_W W8 (by decide) shp_80) (c7_goesOn W8 hK8 hV8 hr8 hpm (by omega) (fun h1 w1 W1 e1 f1 c1 => xk_go (x_iload rfl (x_cv rfl (Nat.le_of_ble_eq_true rfl) (isO_W W1 (by decide) shp_80) (c7_payOf W1 ((e1 81 (by simp)).2.2.1.trans hK8) (sok_next hV8.n.2) hx1 (by omega) (xk_go (x_iadd (x_istore rfl (x_iinc rfl rfl (x_goto (?_))))))))))))))))))
        · have e : m = tN y := by omega
          subst e
          rw [if_pos ⟨hrul, Or.inl q2⟩] at estep
          refine J_c (ih6 (by omega) _ _ (some (.int (payAV (setRN V (tN x) (kI (r : Int)) (kI (i : Int))) (tN x) (tN y)))) (some (.int (kI (tN y : Int)))) W8 k8 f8 n8 ⟨_, _, hK8⟩) ?_
          rw [estep]
          simp only [sI, kN_succ] <;> rfl
        · have e : m = tN y := by omega
          subst e
          rw [if_pos ⟨hrul, Or.inr q3⟩] at estep
          refine J_c (ih6 (by omega) _ _ (some (.int (payAV (setRN V (tN x) (kI (r : Int)) (kI (i : Int))) (tN x) (tN y)))) (some (.int (kI (tN y : Int)))) W8 k8 f8 n8 ⟨_, _, hK8⟩) ?_
          rw [estep]
          simp only [sI, kN_succ] <;> rfl
        · have e : m = tN y := by omega
          subst e
          rw [if_neg (fun z => z.2.elim q2 (Int32.not_lt.mpr q3))] at estep
          refine J_c (ih6 (by omega) _ _ (some (.int (payAV (setRN V (tN x) (kI (r : Int)) (kI (i : Int))) (tN x) (tN y)))) (some (.int (kI (tN y : Int)))) W8 k8 f8 n8 ⟨_, _, hK8⟩) ?_
          rw [estep]
          simp only [sI, kN_succ] <;> rfl
        · refine J_c (ih8 q1 h1 _ W1 (k8.step (e1.mono l1786)) (f8.trans (f1.mono f17)) ((f1 4 (by simp)).trans n8) ((e1 81 (by simp)).2.2.1.trans hK8) c1) ?_
          rw [e9]
          simp only [sI, kN_succ]
      refine hJ 6 _ _ rfl _ _ _ _ (x_iload rfl (x_sipush (x_br2 (fun q1 => have q1 := gt_y (n := 12) rfl (by omega) q1; hJ 12 _ _ rfl _ _ _ _ (x_iinc rfl rfl (x_goto (?_)))) (fun q1 => have q1 := gt_n (n := 12) rfl (by omega) q1; x_iload rfl (x_iload rfl (x_cs rfl (Nat.le_of_ble_eq_true rfl) (c7_isRuled (xk_go (x_br (fun q2 => have q2 := bI_ne0.mp q2; hJ 7 _ _ rfl _ _ _ _ (x_aload rfl (w_getr W6 7 0 (t := 81) (by decide) shp_80 rfl rfl rfl (x_iload rfl (x_sipush (x_iadd (x_iload rfl (w_iast W6 (6 + 4 * tN x + 0) (by decide) shp_81 (ixx hm 0) (by omega) (by decide) (fun h1 W1 => x_aload rfl (w_getr W1 7 0 (t := 81) (by decide) shp_80 rfl rfl rfl (x_iload rfl (x_sipush (x_iadd (x_iload rfl (w_iast W1 (6 + 4 * tN x + 1) (by decide) shp_81 (ixx hm 1) (by omega) (by decide) (fun h2 W2 => x_aload rfl (x_cv rfl (Nat.le_of_ble_eq_true rfl) (isO_W W2 (by decide) shp_80) (c7_lays W2 hk7 (hV7 q1 q2) (fun h3 w3 W3 e3 f3 c3 => xk_v (x_sipush (x_istore rfl (x_sipush (x_istore rfl (x_goto (?_))))))))))))))))))))))))) (fun q2 => have q2 := bI_nn q2; x_goto (hJ 11 _ _ rfl _ _ _ _ (x_iinc rfl rfl (x_goto (?_))))))))))))))
      · have e : i = 13 := by omega
        subst e
        exact J_c (ih5 (by omega) _ _ (some (.int (kI ((13 : Nat) : Int)))) z12 z13 W6 k6 f6 n6 ⟨_, _, u6⟩) (by simp only [sI, kN_succ]; rfl)
      · refine J_c (loop8 q1 (by rw [← ruled_N r hr9 i (by omega)]; exact q2) (hV7 q1 q2) 0 (Nat.zero_le _) _ _ W3 ((k6.sa.sa).step (e3.mono l1786)) (((f6.trans kf_sa).trans kf_sa).trans (f3.mono f17)) ((f3 4 (by simp)).trans n6) ((e3 81 (by simp)).2.2.1.trans hk7) c3) ?_
        rfl
      · have hno : ¬ rulN r i = true := by rw [← ruled_N r hr9 i (by omega), q2]; decide
        unfold brF at estep
        rw [if_neg (fun z => hno z.1)] at estep
        refine J_c (ih6 (by omega) _ _ z12 z13 W6 k6 f6 n6 ⟨_, _, u6⟩) ?_
        rw [estep]
        simp only [sI, kN_succ] <;> rfl
    obtain ⟨u5a, u5b, u5⟩ := u5
    have hback : wa (sa (sa w5 81 (upd (wa w5 81) (6 + 4 * tN x + 0) (V (6 + 4 * tN x + 0)))) 81 (upd (wa (sa w5 81 (upd (wa w5 81) (6 + 4 * tN x + 0) (V (6 + 4 * tN x + 0)))) 81) (6 + 4 * tN x + 1) (V (6 + 4 * tN x + 1)))) 81 = V := by
      rw [wa_self, wa_self, u5]
      exact (rn_rn _ _ _ _ _ _).trans (rn_id V (tN x))
    have hbk : sa (sa w5 81 (upd (wa w5 81) (6 + 4 * tN x + 0) (V (6 + 4 * tN x + 0)))) 81 (upd (wa (sa w5 81 (upd (wa w5 81) (6 + 4 * tN x + 0) (V (6 + 4 * tN x + 0)))) 81) (6 + 4 * tN x + 1) (V (6 + 4 * tN x + 1))) = sa w5 81 (wa w 81) := by
      rw [wa_self] at hback
      rw [sa_sa, hback, hK]
    have hT : (if isMemV V x = true then (if inV y 1 30 = true ∧ inV z 0 2 = true then 0 else 2) else 1) = 0 := by rw [if_pos hm, if_pos ⟨hy, hz⟩]
    refine hJ 5 _ _ rfl _ _ _ _ (x_iload rfl (x_sipush (x_br2 (fun q1 => have q1 := gt_y (n := 10) rfl (by omega) q1; hJ 13 _ _ rfl _ _ _ _ (x_aload rfl (w_getr W5 7 0 (t := 81) (by decide) shp_80 rfl rfl rfl (x_iload rfl (x_sipush (x_iadd (x_iload rfl (w_iast W5 (6 + 4 * tN x + 0) (by decide) shp_81 (ixx hm 0) (by omega) (by decide) (fun h1 W1 => x_aload rfl (w_getr W1 7 0 (t := 81) (by decide) shp_80 rfl rfl rfl (x_iload rfl (x_sipush (x_iadd (x_iload rfl (w_iast W1 (6 + 4 * tN x + 1) (by decide) shp_81 (ixx hm 1) (by omega) (by decide) (fun h2 W2 => x_iload rfl (x_br (fun q2 => have q2 := cy_ne q2; hJ 14 _ _ rfl _ _ _ _ (x_iload rfl (x_sipush (x_br2 (fun q3 => have q3 := cy_ne q3; hJ 15 _ _ rfl _ _ _ _ (x_iload rfl (x_goto (hJ 16 _ _ rfl _ _ _ _ (x_iret (nrwI _) ?_))))) (fun q3 => have q3 := cn_ne q3; x_iload rfl (x_goto (hJ 16 _ _ rfl _ _ _ _ (x_iret (nrwI _) ?_)))))))) (fun q2 => have q2 := cn_ne q2; x_iload rfl (x_goto (hJ 16 _ _ rfl _ _ _ _ (x_iret (nrwI _) ?_))))))))))))))))))))) (fun q1 => have q1 := gt_n (n := 10) rfl (by omega) q1; x_sipush (x_istore rfl (x_goto (?_)))))))
    · have e : r = 11 := by omega
      subst e
      rw [hbk] at W2
      refine kk.go W2 k5 (f5.trans kf_sa) hT n5 (fun _ => ?_)
      unfold bestRuleV
      rw [if_neg (show ¬ z = kI 0 from q2), if_neg q3]
    · have e : r = 11 := by omega
      subst e
      rw [hbk] at W2
      refine kk.go W2 k5 (f5.trans kf_sa) hT n5 (fun _ => ?_)
      unfold bestRuleV
      rw [if_neg (show ¬ z = kI 0 from q2), if_pos q3]
    · have e : r = 11 := by omega
      subst e
      rw [hbk] at W2
      refine kk.go W2 k5 (f5.trans kf_sa) hT n5 (fun _ => ?_)
      unfold bestRuleV
      rw [if_pos (show z = kI 0 from q2)]
    · exact loop6 (by omega) 0 (Nat.zero_le _) _ _ z12 z13 W5 k5 f5 n5 ⟨_, _, u5⟩
  refine hJ 0 _ _ rfl _ _ _ _ (x_aload rfl (x_aload rfl (x_iload rfl (x_cv rfl (Nat.le_of_ble_eq_true rfl) (isO_W W (by decide) shp_80) (c7_isMember W hK hV (xk_go (x_br (fun q1 => have q1 := bI_ne0.mp q1; hJ 1 _ _ rfl _ _ _ _ (x_iload rfl (x_i2l (x_ldc2 (x_ldc2 (x_cs rfl (Nat.le_of_ble_eq_true rfl) (c7_within (xk_go (x_br (fun q2 => have q2 := bI_eq0.mp q2; hJ 2 _ _ rfl _ _ _ _ (x_sipush (x_goto (hJ 3 _ _ rfl _ _ _ _ (w_puti W 7 4 (by decide) shp_80 rfl rfl (okI rfl) (fun h1 W1 => x_aload rfl (w_geti W1 7 4 (by decide) shp_80 rfl rfl (x_br (fun q3 => absurd (show kI (2) ≤ 0 from q3) (by decide)) (fun q3 => x_sipush (x_iret (nrwI _) ?_)))))))))) (fun q2 => have q2 := bI_ne0.mp q2; x_iload rfl (x_i2l (x_ldc2 (x_ldc2 (x_cs rfl (Nat.le_of_ble_eq_true rfl) (c7_within (xk_go (x_br (fun q4 => have q4 := bI_eq0.mp q4; hJ 2 _ _ rfl _ _ _ _ (x_sipush (x_goto (hJ 3 _ _ rfl _ _ _ _ (w_puti W 7 4 (by decide) shp_80 rfl rfl (okI rfl) (fun h2 W2 => x_aload rfl (w_geti W2 7 4 (by decide) shp_80 rfl rfl (x_br (fun q5 => absurd (show kI (2) ≤ 0 from q5) (by decide)) (fun q5 => x_sipush (x_iret (nrwI _) ?_)))))))))) (fun q4 => have q4 := bI_ne0.mp q4; x_sipush (x_goto (hJ 3 _ _ rfl _ _ _ _ (w_puti W 7 4 (by decide) shp_80 rfl rfl (okI rfl) (fun h3 W3 => x_aload rfl (w_geti W3 7 4 (by decide) shp_80 rfl rfl (x_br (fun q6 => hJ 4 _ _ rfl _ _ _ _ (x_sipush (x_sipush (x_iload rfl (x_imul (x_iadd (x_istore rfl (x_aload rfl (w_getr W3 7 0 (t := 81) (by decide) shp_80 rfl rfl rfl (x_iload rfl (x_sipush (x_iadd (w_iald W3 (6 + 4 * tN x + 0) (by decide) shp_81 (ixx q1 0) (by have := (isMem_m q1).2; omega) (by decide) (x_istore rfl (x_aload rfl (w_getr W3 7 0 (t := 81) (by decide) shp_80 rfl rfl rfl (x_iload rfl (x_sipush (x_iadd (w_iald W3 (6 + 4 * tN x + 1) (by decide) shp_81 (ixx q1 1) (by have := (isMem_m q1).2; omega) (by decide) (x_istore rfl (x_sipush (x_istore rfl (x_sipush (x_istore rfl (x_sipush (x_istore rfl (x_sipush (x_istore rfl (x_goto (?_))))))))))))))))))))))))))))))) (fun q6 => absurd (show kI (0) ≤ 0 by decide) q6))))))))))))))))))))))))) (fun q1 => have q1 := bI_nn q1; x_sipush (x_goto (hJ 3 _ _ rfl _ _ _ _ (w_puti W 7 4 (by decide) shp_80 rfl rfl (okI rfl) (fun h4 W4 => x_aload rfl (w_geti W4 7 4 (by decide) shp_80 rfl rfl (x_br (fun q7 => absurd (show kI (1) ≤ 0 from q7) (by decide)) (fun q7 => x_sipush (x_iret (nrwI _) ?_))))))))))))))))
  · exact kk.go W1 kpM4 kfM4 (by rw [if_pos q1, if_neg (fun z => by rw [wy, q2] at z; cases z.1)]) wn4 (fun h => by cases h)
  · exact kk.go W2 kpM4 kfM4 (by rw [if_pos q1, if_neg (fun z => by rw [wz, q4] at z; cases z.2)]) wn4 (fun h => by cases h)
  · rw [show wa (sn w 80 4 (kI 0)) 81 = V from hK]
    exact loop5 q1 (wy.trans q2) (wz.trans q4) 0 (Nat.zero_le _) _ _ none none none W3 (kq.of kpM4) kfM4 wn4 ⟨_, _, hK.trans (rn_id V (tN x)).symm⟩
  · exact kk.go W4 kpM4 kfM4 (if_neg (by rw [q1]; decide)) wn4 (fun h => by cases h)
end B1
