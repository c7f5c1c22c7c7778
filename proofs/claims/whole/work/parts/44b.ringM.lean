/-! ===== the ring: the model ===== -/
def trV (V : VT) (k : Nat) : Int32 := lastP (runP V (startP V) k)
def hitV (V : VT) (k j : Nat) : Prop := trV V j = trV V k ∧ rhyV V ∣ (k - j)
def RH (V : VT) (k j : Nat) : Prop := j < k ∧ k ≤ 400 ∧ hitV V k j ∧ ∀ k', k' < k → ∀ j', j' < k' → ¬ hitV V k' j'
def ringR (V : VT) (x R : Int32) : Prop := if learnerV V = true then R = kI (-1) else (∀ k j, RH V k j → R = if x = kI 0 then kI (k : Int) - kI (j : Int) else kI (j : Int)) ∧ ((∀ k j, ¬ RH V k j) → R = kI (-1))
theorem tr_succ {V : VT} {k : Nat} : trV V (k + 1) = nextP V (runP V (startP V) k) := last_go
theorem tr_zero {V : VT} : trV V 0 = lastV V := rfl
theorem rh_uniq {V : VT} {k j k' j' : Nat} (h : RH V k j) (h' : RH V k' j') : k = k' ∧ j = j' := by
  obtain ⟨h1, h2, h3, h4⟩ := h
  obtain ⟨g1, g2, g3, g4⟩ := h'
  have e : k = k' := by
    rcases Nat.lt_trichotomy k k' with z | z | z
    · exact absurd h3 (g4 k z j h1)
    · exact z
    · exact absurd g3 (h4 k' z j' g1)
  subst e
  refine ⟨rfl, ?_⟩
  have key : ∀ a b : Nat, a < b → b < k → hitV V k a → hitV V k b → False := fun a b hab hbk ha hb9 => h4 b hbk a hab ⟨ha.1.trans hb9.1.symm, by
    have h9 := Nat.dvd_sub ha.2 hb9.2
    have e9 : k - a - (k - b) = b - a := by omega
    rwa [e9] at h9⟩
  rcases Nat.lt_trichotomy j j' with z | z | z
  · exact absurd (key j j' z g1 h3 g3) id
  · exact z
  · exact absurd (key j' j z h1 g3 h3) id
theorem ringR_ex (V : VT) (x : Int32) : ∃ R, ringR V x R := by
  unfold ringR
  by_cases hl : learnerV V = true
  · exact ⟨kI (-1), by rw [if_pos hl]⟩
  · by_cases h : ∃ k j, RH V k j
    · obtain ⟨k, j, h⟩ := h
      refine ⟨if x = kI 0 then kI (k : Int) - kI (j : Int) else kI (j : Int), ?_⟩
      rw [if_neg hl]
      refine ⟨fun k' j' h' => ?_, fun z => absurd h (z k j)⟩
      obtain ⟨rfl, rfl⟩ := rh_uniq h h'
      rfl
    · refine ⟨kI (-1), ?_⟩
      rw [if_neg hl]
      exact ⟨fun k j z => absurd ⟨k, j, z⟩ h, fun _ => rfl⟩
section R1
variable {ga : Nat → Nat} {L : Nat} {xs : Nat → Int32} {d : Nat} {h : ac_H} {P : ac_P} {ad : Nat → Nat} {w : Wst} {i : Nat} {V : VT}
theorem kN_sub' {a b : Nat} (h : b ≤ a) : kI (a : Int) - kI (b : Int) = kI ((a - b : Nat) : Int) := by
  rw [kI_sub]
  congr 1
  omega
theorem m_ring {x R : Int32} (W : WW ad w h) (hK : wa w 81 = V) (hV : VOK V) (hR : ringR V x R) (kk : KQ ad P w (whatT x) (.int R)) : WP ga L xs (d + 15) 227 [.ref (ad 80), .int x] h P := by
  have hn := hV.n.2
  have hw := hV.w.2
  have hp0 := POK.start hV
  have w01 : inV x 0 1 = decide ((Int64.ofNat 0).toInt ≤ x.toInt64.toInt ∧ x.toInt64.toInt ≤ (Int64.ofNat 1).toInt) := (inV_l (a := 0) (b := 1) (by omega) (by omega)).symm
  have hr1 : 1 ≤ rhyV V := (rhy_dvd hV (nm V) (Nat.le_refl _)).2
  have hr2 : rhyV V ≤ 27720 := rhy_le hV (Nat.le_refl _)
  have rr0 : ¬ kI (rhyV V : Int) = 0 := by rw [kN_eq0 (by omega)]; omega
  refine WP.enter kX7_ring (Nat.le_of_ble_eq_true rfl) (fun J hJ => ?_)
  have inner : learnerV V = false → inV x 0 1 = true → ∀ k, 1 ≤ k → k ≤ 400 → ∀ h' w', WW ad w' h' → kp SM w w' → kf FM w w' → wn w' 80 4 = kI 0 → (∀ j, j ≤ k → wa w' 92 j = trV V j) → (∀ k', k' < k → ∀ j', j' < k' → ¬ hitV V k' j') → ((∀ j', j' < k → ¬ hitV V k j') → ∀ z, J 7 [some (.ref (ad 80)), some (.int x), some (.int (kI (rhyV V : Int))), some (.int (kI ((k + 1 : Nat) : Int))), z] [] h' (0, 0)) → ∀ j, j ≤ k → (∀ j', j' < j → ¬ hitV V k j') → J 8 [some (.ref (ad 80)), some (.int x), some (.int (kI (rhyV V : Int))), some (.int (kI (k : Int))), some (.int (kI (j : Int)))] [] h' (0, 0) := fun hl hx k hk1 hk4 h0 w0 W0 k1 k2 h4 htr hno7 hJ7 => up_ind (fun j hj ih hno => ?_)
  · have loop7 : learnerV V = false → inV x 0 1 = true → ∀ m, m ≤ 400 → ∀ h' w' z, WW ad w' h' → kp SM w w' → kf FM w w' → wn w' 80 4 = kI 0 → PR w' (runP V (startP V) m) → (∀ j, j ≤ m → wa w' 92 j = trV V j) → (∀ k', k' ≤ m → ∀ j', j' < k' → ¬ hitV V k' j') → J 7 [some (.ref (ad 80)), some (.int x), some (.int (kI (rhyV V : Int))), some (.int (kI ((m + 1 : Nat) : Int))), z] [] h' (0, 0) := fun hl hx => up_ind (fun m hm ih h0 w0 z W0 k1 k2 h4 hr0 htr hno => ?_)
    · have loop4 : inV x 0 1 = true → ∀ h1 w1, WW ad w1 h1 → kp SM w w1 → kf FM w w1 → wn w1 80 4 = kI 0 → ∀ m, m ≤ nm V → (∀ j, j < m → ¬ vR V j = kI 10) → J 4 [some (.ref (ad 80)), some (.int x), some (.int (kI (rhyV V : Int))), some (.int (kI (m : Int))), none] [] h1 (0, 0) := fun hx ha wA Wa k1 k2 h4 => up_ind (fun m hm ih hno => ?_)
      · refine hJ 0 _ _ rfl _ _ _ _ (x_aload rfl (x_iload rfl (x_i2l (x_ldc2 (x_ldc2 (x_cs rfl (Nat.le_of_ble_eq_true rfl) (c7_within (xk_go (x_br (fun q1 => have q1 := bI_eq0.mp q1; hJ 1 _ _ rfl _ _ _ _ (x_sipush (x_goto (hJ 2 _ _ rfl _ _ _ _ (w_puti W 7 4 (by decide) shp_80 rfl rfl (okI rfl) (fun h1 W1 => x_aload rfl (w_geti W1 7 4 (by decide) shp_80 rfl rfl (x_br (fun q2 => absurd (show kI (1) ≤ 0 from q2) (by decide)) (fun q2 => x_sipush (x_iret (nrwI _) ?_)))))))))) (fun q1 => have q1 := bI_ne0.mp q1; x_sipush (x_goto (hJ 2 _ _ rfl _ _ _ _ (w_puti W 7 4 (by decide) shp_80 rfl rfl (okI rfl) (fun h2 W2 => x_aload rfl (w_geti W2 7 4 (by decide) shp_80 rfl rfl (x_br (fun q3 => hJ 3 _ _ rfl _ _ _ _ (x_aload rfl (x_cv rfl (Nat.le_of_ble_eq_true rfl) (isO_W W2 (by decide) shp_80) (c7_rhythm W2 hK hV (xk_go (x_istore rfl (x_sipush (x_istore rfl (x_goto (?_)))))))))) (fun q3 => absurd (show kI (0) ≤ 0 by decide) q3)))))))))))))))))
        · exact kk.go W1 kpM4 kfM4 (whatT1 (w01.trans q1)) wn4 (fun h => by cases h)
        · exact loop4 (w01.trans q1) _ _ W2 kpM4 kfM4 wn4 0 (Nat.zero_le _) (fun j hj => by omega)
      have hK1 : wa wA 81 = V := (k1 81 (by simp [SM])).2.2.1.trans hK
      have f1 : V (6 + 4 * m + 0) = vR V m := rfl
      refine hJ 4 _ _ rfl _ _ _ _ (x_iload rfl (x_aload rfl (x_cv rfl (Nat.le_of_ble_eq_true rfl) (isO_W Wa (by decide) shp_80) (c7_many Wa hK1 hV (xk_go (x_br2 (fun q1 => have q1 := ge_y rfl (by omega) q1; hJ 6 _ _ rfl _ _ _ _ (x_aload rfl (w_getr Wa 7 24 (t := 92) (by decide) shp_80 rfl rfl rfl (x_sipush (x_aload rfl (x_cv rfl (Nat.le_of_ble_eq_true rfl) (isO_W Wa (by decide) shp_80) (c7_last Wa hK1 hV (xk_go (w_iast Wa 0 (by decide) shp_92 rfl (by decide) (by decide) (fun h1 W1 => x_aload rfl (x_cv rfl (Nat.le_of_ble_eq_true rfl) (isO_W W1 (by decide) shp_80) (c7_lays W1 hK1 hV (fun h2 w2 W2 e0 f0 c0 => xk_v (x_sipush (x_istore rfl (x_goto (?_))))))))))))))))) (fun q1 => have q1 := ge_n rfl (by omega) q1; x_aload rfl (x_iload rfl (x_sipush (x_cv rfl (Nat.le_of_ble_eq_true rfl) (isO_W Wa (by decide) shp_80) (c7_of Wa hK1 rfl rfl (by omega) (by decide) (xk_go (x_sipush (x_br2 (fun q2 => have q2 := cy_ne q2; hJ 5 _ _ rfl _ _ _ _ (x_iinc rfl rfl (x_goto (?_)))) (fun q2 => have q2 := cn_ne q2; x_sipush (x_iret (nrwI _) ?_))))))))))))))))
      · have hl : learnerV V = false := decide_eq_false (by rintro ⟨j, h1, h2⟩; exact hno j (by omega) h2)
        refine loop7 hl hx 0 (Nat.zero_le _) _ _ _ W2 ((k1.trans (kp_sa (by simp [SM]))).trans (e0.mono l1786)) ((k2.trans kf_sa).trans (f0.mono f17)) ((f0 4 (by simp)).trans h4) c0 (fun j hj => ?_) (fun k' hk' j' hj' => by omega)
        have : j = 0 := by omega
        subst this
        rw [(e0 92 (by simp)).2.2.1, wa_self, upd_self]
        rfl
      · rw [f1] at q2
        refine J_c (ih q1 (fun j hj => ?_)) ?_
        · by_cases e : j = m
          · rw [e]; exact q2
          · exact hno j (by omega)
        · simp only [sI, kN_succ]
      · rw [f1] at q2
        have hl : learnerV V = true := decide_eq_true ⟨m, q1, q2⟩
        unfold ringR at hR
        rw [if_pos hl] at hR
        exact kk.go Wa k1 k2 (whatT0 hx) h4 (fun _ => by rw [hR])
    have hK0 : wa w0 81 = V := (k1 81 (by simp [SM])).2.2.1.trans hK
    have hpm := hp0.run hn m (by have : (startP V).2 = wk V := rfl; omega)
    have hlen : (runP V (startP V) m).2 = wk V + m := runP_len (V := V) (p := startP V) m
    refine hJ 7 _ _ rfl _ _ _ _ (x_iload rfl (x_sipush (x_br2 (fun q1 => have q1 := gt_y (n := 400) rfl (by omega) q1; ?_) (fun q1 => have q1 := gt_n (n := 400) rfl (by omega) q1; x_aload rfl (w_getr W0 7 24 (t := 92) (by decide) shp_80 rfl rfl rfl (x_iload rfl (x_aload rfl (x_cv rfl (Nat.le_of_ble_eq_true rfl) (isO_W W0 (by decide) shp_80) (c7_goesOn W0 hK0 hV hr0 hpm (by omega) (fun h1 w1 W1 e1 f1 c1 => xk_go (w_iast W1 (m + 1) (by decide) shp_92 rfl (by omega) (by decide) (fun h2 W2 => x_sipush (x_istore rfl (x_goto (?_)))))))))))))))
    · refine hJ 13 _ _ rfl _ _ _ _ (x_sipush (x_iret (nrwI _) ?_))
      have e : m = 400 := by omega
      subst e
      refine kk.go W0 k1 k2 (whatT0 hx) h4 (fun _ => ?_)
      unfold ringR at hR
      rw [if_neg (by rw [hl]; decide)] at hR
      rw [hR.2 (fun k j z => hno k z.2.1 j z.1 z.2.2.1)]
    · have htr2 : ∀ j, j ≤ m + 1 → wa (sa w1 92 (upd (wa w1 92) (m + 1) (nextP V (runP V (startP V) m)))) 92 j = trV V j := fun j hj => by
        rw [wa_self]
        by_cases e : j = m + 1
        · rw [e, upd_self, tr_succ]
        · rw [upd_ne e, (e1 92 (by simp)).2.2.1]
          exact htr j (by omega)
      have k19 := (k1.trans (e1.mono l1786)).trans (kp_sa (i := 92) (f := upd (wa w1 92) (m + 1) (nextP V (runP V (startP V) m))) (by simp [SM]))
      have k29 := (k2.trans (f1.mono f17)).trans (kf_sa (i := 92) (f := upd (wa w1 92) (m + 1) (nextP V (runP V (startP V) m))))
      refine J_c (inner hl hx (m + 1) (by omega) (by omega) _ _ W2 k19 k29 ((f1 4 (by simp)).trans h4) htr2 (fun k' hk' => hno k' (by omega)) (fun hno9 z => ih (by omega) _ _ z W2 k19 k29 ((f1 4 (by simp)).trans h4) c1 htr2 (fun k' hk' => ?_)) 0 (Nat.zero_le _) (fun j' hj' => by omega)) (by simp only [sI]; rfl)
      by_cases e : k' = m + 1
      · rw [e]; exact hno9
      · exact hno k' (by omega)
  have ekj : j ≤ k → kI (k : Int) - kI (j : Int) = kI ((k - j : Nat) : Int) := fun h9 => kN_sub' h9
  refine hJ 8 _ _ rfl _ _ _ _ (x_iload rfl (x_iload rfl (x_br2 (fun q1 => have q1 := ge_y rfl (by omega) q1; hJ 12 _ _ rfl _ _ _ _ (x_iinc rfl rfl (x_goto (?_)))) (fun q1 => have q1 := ge_n rfl (by omega) q1; x_aload rfl (w_getr W0 7 24 (t := 92) (by decide) shp_80 rfl rfl rfl (x_iload rfl (w_iald W0 j (by decide) shp_92 rfl (by omega) (by decide) (x_aload rfl (w_getr W0 7 24 (t := 92) (by decide) shp_80 rfl rfl rfl (x_iload rfl (w_iald W0 k (by decide) shp_92 rfl (by omega) (by decide) (x_br2 (fun q2 => have q2 := cy_ne q2; hJ 11 _ _ rfl _ _ _ _ (x_iinc rfl rfl (x_goto (?_)))) (fun q2 => have q2 := cn_ne q2; x_iload rfl (x_iload rfl (x_isub (x_iload rfl (x_irem rr0 (x_br (fun q3 => have q3 := cy_ne q3; hJ 11 _ _ rfl _ _ _ _ (x_iinc rfl rfl (x_goto (?_)))) (fun q3 => have q3 := cn_ne q3; x_iload rfl (x_br (fun q4 => have q4 := cy_ne q4; hJ 9 _ _ rfl _ _ _ _ (x_iload rfl (x_goto (hJ 10 _ _ rfl _ _ _ _ (x_iret (nrwI _) ?_))))) (fun q4 => have q4 := cn_ne q4; x_iload rfl (x_iload rfl (x_isub (x_goto (hJ 10 _ _ rfl _ _ _ _ (x_iret (nrwI _) ?_))))))))))))))))))))))))))
  · have e : j = k := by omega
    subst e
    refine J_c (hJ7 hno (some (.int (kI (j : Int))))) ?_
    simp only [sI, kN_succ]
  · refine J_c (ih q1 (fun j' hj' => ?_)) ?_
    · by_cases e : j' = j
      · rw [e]
        exact fun z => q2 (by rw [htr j (by omega), htr k (Nat.le_refl _)]; exact z.1)
      · exact hno j' (by omega)
    · simp only [sI, kN_succ]
  · rw [ekj (by omega), kN_rem (by omega) (by omega), kN_eq0 (by have := Nat.mod_le (k - j) (rhyV V); omega)] at q3
    refine J_c (ih q1 (fun j' hj' => ?_)) ?_
    · by_cases e : j' = j
      · rw [e]
        exact fun z => q3 (Nat.mod_eq_zero_of_dvd z.2)
      · exact hno j' (by omega)
    · simp only [sI, kN_succ]
  · rw [ekj (by omega), kN_rem (by omega) (by omega), kN_eq0 (by have := Nat.mod_le (k - j) (rhyV V); omega)] at q3
    rw [htr j (by omega), htr k (Nat.le_refl _)] at q2
    have hh : RH V k j := ⟨q1, hk4, ⟨q2, Nat.dvd_of_mod_eq_zero q3⟩, hno7⟩
    unfold ringR at hR
    rw [if_neg (by rw [hl]; decide)] at hR
    exact kk.go W0 k1 k2 (whatT0 hx) h4 (fun _ => by rw [hR.1 k j hh, if_neg (show ¬ x = kI 0 from q4)])
  · rw [ekj (by omega), kN_rem (by omega) (by omega), kN_eq0 (by have := Nat.mod_le (k - j) (rhyV V); omega)] at q3
    rw [htr j (by omega), htr k (Nat.le_refl _)] at q2
    have hh : RH V k j := ⟨q1, hk4, ⟨q2, Nat.dvd_of_mod_eq_zero q3⟩, hno7⟩
    unfold ringR at hR
    rw [if_neg (by rw [hl]; decide)] at hR
    exact kk.go W0 k1 k2 (whatT0 hx) h4 (fun _ => by rw [hR.1 k j hh, if_pos (show x = kI 0 from q4)])
end R1
