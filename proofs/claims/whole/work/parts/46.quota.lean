/-! ===== the best quota ===== -/
def setQ (V : VT) (q : Nat) : VT := upd V 1 (kI (q : Int))
def bqF (V : VT) (n : Nat) (q : Nat) (a : Int32 × Int32) : Int32 × Int32 := if a.2 < metV (setQ V (q + 1)) n then (kI ((q + 1 : Nat) : Int), metV (setQ V (q + 1)) n) else a
def bqS (V : VT) (n m : Nat) : Int32 × Int32 := fo (bqF V n) (kI 1, kI 0) m
def bqM (V : VT) (n m : Nat) : Int32 × Int32 := if m = 0 then (kI (-1), kI (-1)) else bqS V n m
def bqV (V : VT) (n : Nat) : Int32 := (bqS V n 12).1
def weeksT (x : Int32) : Nat := if inV x 1 60 = true then 0 else 1
theorem met_nat {V : VT} : ∀ n, n ≤ 1000 → ∃ S : Nat, metV V n = kI (S : Int) ∧ S ≤ n
  | 0, _ => ⟨0, rfl, Nat.le_refl _⟩
  | n + 1, h => by
    obtain ⟨S, h1, h2⟩ := met_nat (V := V) n (by omega)
    show ∃ S : Nat, metV V n + bI (meetsV V (nextP V (runP V (startP V) n))) = _ ∧ _
    rw [h1]
    cases meetsV V (nextP V (runP V (startP V) n)) with
    | false => exact ⟨S, by show kI (S : Int) + 0 = _; rw [Int32.add_zero], by omega⟩
    | true => exact ⟨S + 1, kN_succ S, by omega⟩
theorem bqM_step {V : VT} {n m : Nat} (hn : n ≤ 1000) : bqF V n m (bqM V n m) = bqM V n (m + 1) := by
  unfold bqM
  rw [if_neg (Nat.succ_ne_zero m)]
  by_cases h : m = 0
  · subst h
    rw [if_pos rfl]
    show bqF V n 0 (kI (-1), kI (-1)) = bqF V n 0 (kI 1, kI 0)
    unfold bqF
    obtain ⟨S, h1, h2⟩ := met_nat (V := setQ V (0 + 1)) n hn
    rw [h1]
    have e1 : kI (-1) < kI (S : Int) := by rw [Int32.lt_iff_toInt_lt, kN_toInt (by omega), show (kI (-1)).toInt = -1 from rfl]; omega
    simp only [if_pos e1]
    split
    · rfl
    · next hh =>
      have hS : S = 0 := by
        rw [Int32.lt_iff_toInt_lt, kN_toInt (by omega), show (kI 0).toInt = 0 from rfl] at hh
        omega
      rw [hS]
      rfl
  · rw [if_neg h]
    rfl
theorem VOK.setQ {V : VT} {q : Nat} (hV : VOK V) (h1 : 1 ≤ q) (h2 : q ≤ 12) : VOK (setQ V q) := by
  obtain ⟨⟨a0, a1, a2, a3, a4, a5⟩, hm, hj⟩ := hV
  show VOK (upd V 1 (kI (q : Int)))
  refine ⟨⟨a0, ?_, a2, a3, a4, a5⟩, fun m hm9 => ?_, fun j hj9 => ?_⟩
  · show btw (upd V 1 (kI (q : Int)) 1) 1 12
    rw [upd_self]
    unfold btw
    rw [kN_toInt (by omega)]
    omega
  · have e1 : vR (upd V 1 (kI (q : Int))) m = vR V m := upd_ne (by omega)
    have e2 : vN (upd V 1 (kI (q : Int))) m = vN V m := upd_ne (by omega)
    have e3 : vC (upd V 1 (kI (q : Int))) m = vC V m := upd_ne (by omega)
    have e4 : vU (upd V 1 (kI (q : Int))) m = vU V m := upd_ne (by omega)
    rw [e1, e2, e3, e4]
    exact hm m hm9
  · have e1 : vS (upd V 1 (kI (q : Int))) j = vS V j := upd_ne (by omega)
    rw [e1]
    exact hj j hj9
theorem CR.setQ {w : Wst} {i : Nat} {V : VT} {y : Int32} {q : Nat} (hC : isC i) (h : CR w i (upd V 1 y)) : CR (sn w i 1 (kI (q : Int))) i (upd V 1 (kI (q : Int))) := by
  obtain ⟨⟨a0, a1, a2, a3, a4, a6⟩, hm, hj, h5, h7, h8, h9⟩ := h
  have er : ∀ m, vR (upd V 1 (kI (q : Int))) m = vR (upd V 1 y) m := fun m => (upd_ne (by omega)).trans (upd_ne (by omega)).symm
  have en : ∀ m, vN (upd V 1 (kI (q : Int))) m = vN (upd V 1 y) m := fun m => (upd_ne (by omega)).trans (upd_ne (by omega)).symm
  have ec : ∀ m, vC (upd V 1 (kI (q : Int))) m = vC (upd V 1 y) m := fun m => (upd_ne (by omega)).trans (upd_ne (by omega)).symm
  have eu : ∀ m, vU (upd V 1 (kI (q : Int))) m = vU (upd V 1 y) m := fun m => (upd_ne (by omega)).trans (upd_ne (by omega)).symm
  have es : ∀ m, vS (upd V 1 (kI (q : Int))) m = vS (upd V 1 y) m := fun m => (upd_ne (by omega)).trans (upd_ne (by omega)).symm
  have f : ∀ j, j ≠ 1 → wn (sn w i 1 (kI (q : Int))) i j = wn w i j := fun j hj => by rw [wn_sn, if_neg (fun z => hj z.2)]
  refine ⟨⟨(f 0 (by omega)).trans a0, ?_, (f 2 (by omega)).trans a2, (f 3 (by omega)).trans a3, (f 4 (by omega)).trans a4, (f 6 (by omega)).trans a6⟩, fun m hm9 => ?_, fun j hj9 => ?_, fun m => ?_, fun m => ?_, fun m => ?_, fun m => ?_⟩
  · rw [wn_sn, if_pos ⟨rfl, rfl⟩]
    exact (upd_self V 1 (kI (q : Int))).symm
  · rw [er, en, ec]
    exact hm m hm9
  · rw [es]
    exact hj j hj9
  · rw [f 5 (by omega), eu]
    exact h5 m
  · rw [f 7 (by omega), ec]
    exact h7 m
  · rw [f 8 (by omega), ec]
    exact h8 m
  · rw [f 9 (by omega), ec]
    exact h9 m
theorem upd_id (V : VT) : upd V 1 (V 1) = V := by
  funext j
  unfold upd
  split
  · next h => rw [h]
  · rfl
def kq (l : List Nat) (w w' : Wst) : Prop := kp l w (sa w' 81 (wa w 81))
theorem kq.of {l : List Nat} {w w' : Wst} (h : kp l w w') : kq l w w' := fun i hi => ⟨(h i hi).1, (h i hi).2.1, by
  rw [wa_sa]
  split
  · next z => rw [z]
  · exact (h i hi).2.2.1, (h i hi).2.2.2⟩
theorem kq.sa {l : List Nat} {w w' : Wst} {f : Nat → Int32} (h : kq l w w') : kq l w (sa w' 81 f) := by
  unfold kq
  rw [sa_sa]
  exact h
theorem kq.step {l : List Nat} {w w' w'' : Wst} (h : kq l w w') (g : kp l w' w'') : kq l w w'' := fun i hi => ⟨(g i hi).1.trans (h i hi).1, (g i hi).2.1.trans (h i hi).2.1, by
  have h9 := (h i hi).2.2.1
  rw [wa_sa] at h9 ⊢
  split
  · next z => rw [z]
  · next z =>
    rw [if_neg z] at h9
    exact (g i hi).2.2.1.trans h9, (g i hi).2.2.2.trans (h i hi).2.2.2⟩
section B1
variable {ga : Nat → Nat} {L : Nat} {xs : Nat → Int32} {d : Nat} {h : ac_H} {P : ac_P} {ad : Nat → Nat} {w : Wst} {i : Nat} {V : VT}
theorem m_bestQuota {x : Int32} (W : WW ad w h) (hK : wa w 81 = V) (hV : VOK V) (kk : KQ ad P w (weeksT x) (.int (bqV V (tN x)))) : WP ga L xs (d + 9) 229 [.ref (ad 80), .int x] h P := by
  have hn := hV.n.2
  have hw := hV.w.2
  have wx : inV x 1 60 = decide ((Int64.ofNat 1).toInt ≤ x.toInt64.toInt ∧ x.toInt64.toInt ≤ (Int64.ofNat 60).toInt) := (inV_l (a := 1) (b := 60) (by omega) (by omega)).symm
  refine WP.enter kX7_bestQuota (Nat.le_of_ble_eq_true rfl) (fun J hJ => ?_)
  have loop : inV x 1 60 = true → ∀ m, m ≤ 12 → ∀ h' w' z, WW ad w' h' → kq SM w w' → kf FM w w' → wn w' 80 4 = kI 0 → (∃ y, wa w' 81 = upd V 1 y) → J 2 [some (.ref (ad 80)), some (.int x), some (.int (V 1)), some (.int (bqM V (tN x) m).1), some (.int (bqM V (tN x) m).2), some (.int (kI ((m + 1 : Nat) : Int))), z] [] h' (0, 0) := fun hx => up_ind (fun m hm ih h0 w0 z W0 k1 k2 h4 hy => ?_)
  · refine hJ 0 _ _ rfl _ _ _ _ (x_aload rfl (x_sipush (w_puti W 7 4 (by decide) shp_80 rfl rfl (okI rfl) (fun h1 W1 => x_iload rfl (x_i2l (x_ldc2 (x_ldc2 (x_cs rfl (Nat.le_of_ble_eq_true rfl) (c7_within (xk_go (x_br (fun q1 => have q1 := bI_ne0.mp q1; hJ 1 _ _ rfl _ _ _ _ (x_aload rfl (w_getr W1 7 0 (t := 81) (by decide) shp_80 rfl rfl rfl (x_sipush (w_iald W1 1 (by decide) shp_81 rfl (by decide) (by decide) (x_istore rfl (x_sipush (x_istore rfl (x_sipush (x_istore rfl (x_sipush (x_istore rfl (x_goto (?_)))))))))))))) (fun q1 => have q1 := bI_nn q1; x_aload rfl (x_sipush (x_cv rfl (Nat.le_of_ble_eq_true rfl) (isO_W W1 (by decide) shp_80) (c7_fails W1 (fun h2 W2 => xk_go (x_iret (nrwI _) ?_)))))))))))))))))
    · refine J_c (loop (wx.trans q1) 0 (Nat.zero_le _) _ _ none W1 (kq.of kpM4) kfM4 wn4 ⟨V 1, by rw [upd_id]; exact hK⟩) ?_
      rw [show wa (sn w 80 4 (kI 0)) 81 = V from hK]
      rfl
    · exact kk.go W2 (kpM4.trans kpM4) (kfM4.trans kfM4) (if_neg (fun z => by rw [wx, q1] at z; cases z)) wn4 (fun h => by cases h)
  have xn := xnV (a := 1) (b := 60) hx
  obtain ⟨y, hy⟩ := hy
  have hK0 : wa (sa w0 81 (upd (wa w0 81) 1 (kI ((m + 1 : Nat) : Int)))) 81 = setQ V (m + 1) := by
    rw [wa_self, hy, upd_upd]
    rfl
  have hVq : m + 1 ≤ 12 → VOK (setQ V (m + 1)) := fun h => hV.setQ (by omega) h
  have es := bqM_step (V := V) (n := tN x) (m := m) (by omega)
  unfold bqF at es
  refine hJ 2 _ _ rfl _ _ _ _ (x_iload rfl (x_sipush (x_br2 (fun q1 => have q1 := gt_y (n := 12) rfl (by omega) q1; hJ 5 _ _ rfl _ _ _ _ (x_aload rfl (w_getr W0 7 0 (t := 81) (by decide) shp_80 rfl rfl rfl (x_sipush (x_iload rfl (w_iast W0 1 (by decide) shp_81 rfl (by decide) (by decide) (fun h1 W1 => x_iload rfl (x_iret (nrwI _) ?_)))))))) (fun q1 => have q1 := gt_n (n := 12) rfl (by omega) q1; x_aload rfl (w_getr W0 7 0 (t := 81) (by decide) shp_80 rfl rfl rfl (x_sipush (x_iload rfl (w_iast W0 1 (by decide) shp_81 rfl (by decide) (by decide) (fun h2 W2 => x_aload rfl (x_iload rfl (x_cv rfl (Nat.le_of_ble_eq_true rfl) (isO_W W2 (by decide) shp_80) (c7_metAhead W2 hK0 (hVq q1) xn.1 xn.2.2 (fun h3 w3 W3 e3 f3 => xk_go (x_istore rfl (x_iload rfl (x_iload rfl (x_br2 (fun q2 => have q2 := cy_gt q2; hJ 3 _ _ rfl _ _ _ _ (x_iload rfl (x_istore rfl (x_iload rfl (x_istore rfl (x_goto (hJ 4 _ _ rfl _ _ _ _ (x_iinc rfl rfl (x_goto (?_)))))))))) (fun q2 => have q2 := cn_gt q2; x_goto (hJ 4 _ _ rfl _ _ _ _ (x_iinc rfl rfl (x_goto (?_))))))))))))))))))))))
  · have e : m = 12 := by omega
    subst e
    have e2 : sa w0 81 (upd (wa w0 81) 1 (V 1)) = sa w0 81 (wa w 81) := by rw [hy, upd_upd, upd_id, hK]
    rw [e2] at W1
    exact kk.go W1 k1 (k2.trans kf_sa) (if_pos hx) h4 (fun _ => rfl)
  · rw [if_pos q2] at es
    refine J_c (ih q1 _ _ (some (.int (metV (setQ V (m + 1)) (tN x)))) W3 ((k1.sa).step (e3.mono l1786)) ((k2.trans kf_sa).trans (f3.mono f17)) ((f3 4 (by simp)).trans h4) ⟨_, (e3 81 (by simp)).2.2.1.trans hK0⟩) ?_
    rw [← es]
    simp only [sI, kN_succ]
  · rw [if_neg (Int32.not_lt.mpr q2)] at es
    refine J_c (ih q1 _ _ (some (.int (metV (setQ V (m + 1)) (tN x)))) W3 ((k1.sa).step (e3.mono l1786)) ((k2.trans kf_sa).trans (f3.mono f17)) ((f3 4 (by simp)).trans h4) ⟨_, (e3 81 (by simp)).2.2.1.trans hK0⟩) ?_
    rw [← es]
    simp only [sI, kN_succ]
end B1
