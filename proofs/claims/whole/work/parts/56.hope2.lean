/-! ===== hope ===== -/
def hopeT (V : VT) (x y z u : Int32) : Nat := if isMemV V x = true then (if inV z 1 20 = true ∧ inV y 0 z.toInt = true ∧ inV u 0 1 = true then 0 else 2) else 1
def hopeA (V : VT) (b : Nat) : Int := ((b ^ (nm V - 1) : Nat) : Int)
def hopeI (V : VT) (m a b : Nat) : Int := (V 2).toInt * (waysV (nm V - 1) (V 1 - kI 1) a b).toInt - (vC V m).toInt * hopeA V b
def hopeV (V : VT) (x y z u : Int32) : Int64 := if u = kI 0 then kL (hopeI V (tN x) (tN y) (tN z) / hopeA V (tN z)) else kL (hopeI V (tN x) (tN y) (tN z) % hopeA V (tN z))
theorem hopeA_b {V : VT} {b : Nat} (hn : nm V ≤ 12) (hb : 1 ≤ b ∧ b ≤ 20) : 0 < hopeA V b ∧ hopeA V b ≤ 204800000000000 := by
  have h1 : b ^ (nm V - 1) ≤ 20 ^ (nm V - 1) := Nat.pow_le_pow_left hb.2 _
  have h2 : 20 ^ (nm V - 1) ≤ 20 ^ 11 := Nat.pow_le_pow_right (by decide) (by omega)
  have h3 : 20 ^ 11 = 204800000000000 := by decide
  have h4 : 0 < b ^ (nm V - 1) := Nat.pow_pos hb.1
  unfold hopeA
  omega
theorem mul_b {c s : Int} (hc : 0 ≤ c ∧ c ≤ 999) (hs : 0 ≤ s ∧ s ≤ 204800000000000) : 0 ≤ c * s ∧ c * s ≤ 204595200000000000 := by
  have h1 := Int.mul_le_mul hc.2 hs.2 hs.1 (by omega : (0 : Int) ≤ 999)
  have h2 := Int.mul_nonneg hc.1 hs.1
  omega
theorem hopeI_b {V : VT} {m a b : Nat} (hV : VOK V) (hm : m < nm V) (hab : a ≤ b) (hb : 1 ≤ b ∧ b ≤ 20) : -204595200000000000 ≤ hopeI V m a b ∧ hopeI V m a b ≤ 204595200000000000 := by
  have hn := hV.n.2
  have hA := hopeA_b (V := V) hn hb
  obtain ⟨S, h1, h2⟩ := way_nat (n := nm V - 1) (k := V 1 - kI 1) (by omega) hab hb.2
  have h3 : ((b ^ (nm V - 1) : Nat) : Int) ≤ 204800000000000 := hA.2
  have h4 : (waysV (nm V - 1) (V 1 - kI 1) a b).toInt = S := by rw [h1, kL_toInt (by omega) (by omega)]
  have hD : btw (V 2) 0 999 := hV.1.2.2.1
  have hC : btw (vC V m) 0 999 := (hV.2.1 m hm).2.2.1
  have g1 := mul_b (c := (V 2).toInt) (s := (waysV (nm V - 1) (V 1 - kI 1) a b).toInt) hD (by omega)
  have g2 := mul_b (c := (vC V m).toInt) (s := hopeA V b) hC (by omega)
  unfold hopeI
  omega
theorem toI64 (x : Int32) : x.toInt64 = kL x.toInt := by
  have h := kI_64 (a := x.toInt) (by have := x.le_toInt; omega) (by have := x.toInt_lt; omega)
  rw [kI_of] at h
  exact h
theorem rest_is {v A : Int} (hA : 0 < A) : (v.tmod A + A).tmod A = v % A ∧ (v - v % A).tdiv A = v / A := by
  have hp : -A < v.tmod A := by
    rcases Int.lt_or_le v 0 with h9 | h9
    · exact (tm_neg hA h9).2
    · have := Int.tmod_nonneg A h9
      omega
  refine ⟨?_, ?_⟩
  · rw [Int.tmod_eq_emod_of_nonneg (by omega), Int.add_emod_right]
    rcases Int.lt_or_le v 0 with h9 | h9
    · by_cases h0 : v.tmod A = 0
      · rw [(dm_zero hA h0).2, h0, Int.zero_emod]
      · have hh := (dm_neg hA h9 h0).2
        have h8 := (tm_neg hA h9)
        rw [hh]
        have h7 : (v.tmod A + A) % A = v.tmod A % A := Int.add_emod_right _ _
        rw [← h7]
        exact Int.emod_eq_of_lt (by omega) (by omega)
    · rw [(dm_pos hA h9).2]
      exact Int.emod_eq_of_lt (Int.tmod_nonneg A h9) (Int.tmod_lt_of_pos v hA)
  · have h1 := Int.emod_add_mul_ediv v A
    rw [show v - v % A = A * (v / A) by omega]
    exact Int.mul_tdiv_cancel_left _ (by omega)
section W1
variable {ga : Nat → Nat} {L : Nat} {xs : Nat → Int32} {d : Nat} {h : ac_H} {P : ac_P} {ad : Nat → Nat} {w : Wst} {V : VT}
theorem m_hope {x y z u : Int32} (W : WW ad w h) (hK : wa w 81 = V) (hV : VOK V) (kk : KQ ad P w (hopeT V x y z u) (.long (hopeV V x y z u))) : WP ga L xs (d + 9) 222 [.ref (ad 80), .int x, .int y, .int z, .int u] h P := by
  have hn := hV.n.2
  have wz : inV z 1 20 = decide ((Int64.ofNat 1).toInt ≤ z.toInt64.toInt ∧ z.toInt64.toInt ≤ (Int64.ofNat 20).toInt) := (inV_l (a := 1) (b := 20) (by omega) (by omega)).symm
  have wy : inV y 0 z.toInt = decide ((Int64.ofNat 0).toInt ≤ y.toInt64.toInt ∧ y.toInt64.toInt ≤ z.toInt64.toInt) := inVy (a := 0) (by omega)
  have wu : inV u 0 1 = decide ((Int64.ofNat 0).toInt ≤ u.toInt64.toInt ∧ u.toInt64.toInt ≤ (Int64.ofNat 1).toInt) := (inV_l (a := 0) (b := 1) (by omega) (by omega)).symm
  unfold hopeT at kk
  refine WP.enter kX7_hope (Nat.le_of_ble_eq_true rfl) (fun J hJ => ?_)
  have loop : isMemV V x = true → inV z 1 20 = true → inV y 0 z.toInt = true → inV u 0 1 = true → ∀ h0 w0, WW ad w0 h0 → kp SM w w0 → kf FM w w0 → wn w0 80 4 = kI 0 → ∀ m, m ≤ nm V - 1 → J 5 [some (.ref (ad 80)), some (.int x), some (.int y), some (.int z), some (.int u), some (.long (kL ((tN z ^ m : Nat) : Int))), none, some (.int (kI ((m + 1 : Nat) : Int))), none, none, none] [] h0 (0, 0) := by
    intro hm hz hy hu h0 w0 W0 k0 f0 n0
    have hT : (if isMemV V x = true then (if inV z 1 20 = true ∧ inV y 0 z.toInt = true ∧ inV u 0 1 = true then 0 else 2) else 1) = 0 := by rw [if_pos hm, if_pos ⟨hz, hy, hu⟩]
    have hK0 : wa w0 81 = V := (k0 81 (by decide)).2.2.1.trans hK
    obtain ⟨hx1, hx2⟩ := isMem_m hm
    obtain ⟨hz1, hz2, hz3⟩ := xnV (a := 1) (b := 20) hz
    obtain ⟨hy1, hy2⟩ := in0y hz hy
    have hn1 : 1 ≤ nm V := by omega
    have hAb := hopeA_b (V := V) hn ⟨hz2, hz3⟩
    have hvb := hopeI_b (m := tN x) hV hx2 hy2 ⟨hz2, hz3⟩
    refine up_ind (fun m hm9 ih => ?_)
    have hAm : nm V ≤ m + 1 → ((tN z ^ m : Nat) : Int) = hopeA V (tN z) := fun q => by
      unfold hopeA
      rw [show m = nm V - 1 by omega]
    have nz : nm V ≤ m + 1 → ¬ kL ((tN z ^ m : Nat) : Int) = 0 := fun q z9 => by
      have z9 := congrArg Int64.toInt z9
      rw [hAm q, kL_toInt (by omega) (by omega), show (0 : Int64).toInt = 0 from rfl] at z9
      omega
    have hvv : nm V ≤ m + 1 → (wa w0 81 2).toInt64 * waysV (nm V - 1) (wa w0 81 1 - kI 1) (tN y) (tN z) - (V (6 + 4 * tN x + 2)).toInt64 * kL ((tN z ^ m : Nat) : Int) = kL (hopeI V (tN x) (tN y) (tN z)) := fun q => by
      rw [hK0, hAm q, toI64, toI64, ← kL_of (waysV (nm V - 1) (V 1 - kI 1) (tN y) (tN z)), kL_mul, kL_mul, kL_sub]
      refine congrArg kL ?_
      unfold hopeI vC
      rw [show 6 + 4 * tN x + 2 = 8 + 4 * tN x by omega]
    have rem1 : nm V ≤ m + 1 → kL (hopeI V (tN x) (tN y) (tN z)) - kL (hopeI V (tN x) (tN y) (tN z)) / kL ((tN z ^ m : Nat) : Int) * kL ((tN z ^ m : Nat) : Int) = kL ((hopeI V (tN x) (tN y) (tN z)).tmod ((tN z ^ m : Nat) : Int)) := fun q => by
      rw [hAm q]
      exact kL_rem (by unfold bndL; omega) (by unfold bndL; omega)
    have htl : (hopeI V (tN x) (tN y) (tN z)).tmod (hopeA V (tN z)) < hopeA V (tN z) ∧ - hopeA V (tN z) < (hopeI V (tN x) (tN y) (tN z)).tmod (hopeA V (tN z)) := by
      refine ⟨Int.tmod_lt_of_pos _ hAb.1, ?_⟩
      rcases Int.lt_or_le (hopeI V (tN x) (tN y) (tN z)) 0 with h9 | h9
      · exact (tm_neg hAb.1 h9).2
      · have := Int.tmod_nonneg (hopeA V (tN z)) h9
        omega
    have hri := rest_is (v := hopeI V (tN x) (tN y) (tN z)) hAb.1
    have hel := Int.emod_lt_of_pos (hopeI V (tN x) (tN y) (tN z)) hAb.1
    have hen := Int.emod_nonneg (hopeI V (tN x) (tN y) (tN z)) (show ¬ hopeA V (tN z) = 0 by omega)
    have rem2 : nm V ≤ m + 1 → kL ((hopeI V (tN x) (tN y) (tN z)).tmod ((tN z ^ m : Nat) : Int) + ((tN z ^ m : Nat) : Int)) - kL ((hopeI V (tN x) (tN y) (tN z)).tmod ((tN z ^ m : Nat) : Int) + ((tN z ^ m : Nat) : Int)) / kL ((tN z ^ m : Nat) : Int) * kL ((tN z ^ m : Nat) : Int) = kL (hopeI V (tN x) (tN y) (tN z) % ((tN z ^ m : Nat) : Int)) := fun q => by
      rw [hAm q, kL_rem (by unfold bndL; omega) (by unfold bndL; omega), hri.1]
    have div1 : nm V ≤ m + 1 → kL (hopeI V (tN x) (tN y) (tN z) - hopeI V (tN x) (tN y) (tN z) % ((tN z ^ m : Nat) : Int)) / kL ((tN z ^ m : Nat) : Int) = kL (hopeI V (tN x) (tN y) (tN z) / ((tN z ^ m : Nat) : Int)) := fun q => by
      rw [hAm q, kL_tdiv (by omega) (by omega), hri.2]
    unfold hopeV at kk
    refine hJ 5 _ _ rfl _ _ _ _ (x_iload rfl (x_aload rfl (x_cv rfl (Nat.le_of_ble_eq_true rfl) (isO_W W0 (by decide) shp_80) (c7_many W0 hK0 hV (xk_go (x_br2 (fun q1 => have q1 := ge_y rfl (by omega) q1; hJ 6 _ _ rfl _ _ _ _ (x_aload rfl (w_getr W0 7 0 (t := 81) (by decide) shp_80 rfl rfl rfl (x_sipush (w_iald W0 2 (by decide) shp_81 rfl (by decide) (by decide) (x_i2l (x_aload rfl (x_aload rfl (x_cv rfl (Nat.le_of_ble_eq_true rfl) (isO_W W0 (by decide) shp_80) (c7_many W0 hK0 hV (xk_go (x_sipush (x_isub (x_iload rfl (x_iload rfl (x_aload rfl (w_getr W0 7 0 (t := 81) (by decide) shp_80 rfl rfl rfl (x_sipush (w_iald W0 1 (by decide) shp_81 rfl (by decide) (by decide) (x_sipush (x_isub (x_cv rfl (Nat.le_of_ble_eq_true rfl) (isO_W W0 (by decide) shp_80) (c7_waysOf W0 (kN_pred hn1) (by omega) hy1 hz1 hy2 hz3 (fun h1 w1 W1 e1 => xk_go (x_lmul (x_aload rfl (x_iload rfl (x_sipush (x_cv rfl (Nat.le_of_ble_eq_true rfl) (isO_W W1 (by decide) shp_80) (c7_of W1 ((e1 81 (by simp)).2.2.1.trans hK0) hx1 rfl (by omega) (by decide) (xk_go (x_i2l (x_lload rfl (x_lmul (x_lsub (x_eql (hvv q1) (x_lstore rfl (x_lload rfl (x_lload rfl (x_lrem (nz q1) (x_eql (rem1 q1) (x_lload rfl (x_ladd (x_eql (kL_add _ _) (x_lload rfl (x_lrem (nz q1) (x_eql (rem2 q1) (x_lstore rfl (x_iload rfl (x_br (fun q2 => have q2 := cy_ne q2; hJ 7 _ _ rfl _ _ _ _ (x_lload rfl (x_goto (hJ 8 _ _ rfl _ _ _ _ (x_lret rfl ?_))))) (fun q2 => have q2 := cn_ne q2; x_lload rfl (x_lload rfl (x_lsub (x_eql (kL_sub _ _) (x_lload rfl (x_ldiv (nz q1) (x_eql (div1 q1) (x_goto (hJ 8 _ _ rfl _ _ _ _ (x_lret rfl ?_)))))))))))))))))))))))))))))))))))))))))))))))))))))))))))) (fun q1 => have q1 := ge_n rfl (by omega) q1; x_lload rfl (x_iload rfl (x_i2l (x_lmul (x_lstore rfl (x_iinc rfl rfl (x_goto (?_))))))))))))))
    · rw [if_neg (show ¬ u = kI 0 from q2)] at kk
      refine kk.go W1 (k0.trans (e1.mono l91)) (f0.trans (kf91 e1)) hT (by rw [(e1 80 (by simp)).1]; exact n0) (fun _ => ?_)
      rw [hAm q1]
    · rw [if_pos (show u = kI 0 from q2)] at kk
      refine kk.go W1 (k0.trans (e1.mono l91)) (f0.trans (kf91 e1)) hT (by rw [(e1 80 (by simp)).1]; exact n0) (fun _ => ?_)
      rw [hAm q1]
    · refine J_c (ih (by omega)) ?_
      rw [toI64 z, xnT (a := 1) (b := 20) hz, kL_mulN, ← Nat.pow_succ]
      simp only [sI, kN_succ]
  refine hJ 0 _ _ rfl _ _ _ _ (x_aload rfl (x_aload rfl (x_iload rfl (x_cv rfl (Nat.le_of_ble_eq_true rfl) (isO_W W (by decide) shp_80) (c7_isMember W hK hV (xk_go (x_br (fun q1 => have q1 := bI_ne0.mp q1; hJ 1 _ _ rfl _ _ _ _ (x_iload rfl (x_i2l (x_ldc2 (x_ldc2 (x_cs rfl (Nat.le_of_ble_eq_true rfl) (c7_within (xk_go (x_br (fun q2 => have q2 := bI_eq0.mp q2; hJ 2 _ _ rfl _ _ _ _ (x_sipush (x_goto (hJ 3 _ _ rfl _ _ _ _ (w_puti W 7 4 (by decide) shp_80 rfl rfl (okI rfl) (fun h1 W1 => x_aload rfl (w_geti W1 7 4 (by decide) shp_80 rfl rfl (x_br (fun q3 => absurd (show kI (2) ≤ 0 from q3) (by decide)) (fun q3 => x_ldc2 (x_lret rfl ?_)))))))))) (fun q2 => have q2 := bI_ne0.mp q2; x_iload rfl (x_i2l (x_ldc2 (x_iload rfl (x_i2l (x_cs rfl (Nat.le_of_ble_eq_true rfl) (c7_within (xk_go (x_br (fun q4 => have q4 := bI_eq0.mp q4; hJ 2 _ _ rfl _ _ _ _ (x_sipush (x_goto (hJ 3 _ _ rfl _ _ _ _ (w_puti W 7 4 (by decide) shp_80 rfl rfl (okI rfl) (fun h2 W2 => x_aload rfl (w_geti W2 7 4 (by decide) shp_80 rfl rfl (x_br (fun q5 => absurd (show kI (2) ≤ 0 from q5) (by decide)) (fun q5 => x_ldc2 (x_lret rfl ?_)))))))))) (fun q4 => have q4 := bI_ne0.mp q4; x_iload rfl (x_i2l (x_ldc2 (x_ldc2 (x_cs rfl (Nat.le_of_ble_eq_true rfl) (c7_within (xk_go (x_br (fun q6 => have q6 := bI_eq0.mp q6; hJ 2 _ _ rfl _ _ _ _ (x_sipush (x_goto (hJ 3 _ _ rfl _ _ _ _ (w_puti W 7 4 (by decide) shp_80 rfl rfl (okI rfl) (fun h3 W3 => x_aload rfl (w_geti W3 7 4 (by decide) shp_80 rfl rfl (x_br (fun q7 => absurd (show kI (2) ≤ 0 from q7) (by decide)) (fun q7 => x_ldc2 (x_lret rfl ?_)))))))))) (fun q6 => have q6 := bI_ne0.mp q6; x_sipush (x_goto (hJ 3 _ _ rfl _ _ _ _ (w_puti W 7 4 (by decide) shp_80 rfl rfl (okI rfl) (fun h4 W4 => x_aload rfl (w_geti W4 7 4 (by decide) shp_80 rfl rfl (x_br (fun q8 => hJ 4 _ _ rfl _ _ _ _ (x_ldc2 (x_lstore rfl (x_sipush (x_istore rfl (x_goto (?_))))))) (fun q8 => absurd (show kI (0) ≤ 0 by decide) q8)))))))))))))))))))))))))))))))))) (fun q1 => have q1 := bI_nn q1; x_sipush (x_goto (hJ 3 _ _ rfl _ _ _ _ (w_puti W 7 4 (by decide) shp_80 rfl rfl (okI rfl) (fun h5 W5 => x_aload rfl (w_geti W5 7 4 (by decide) shp_80 rfl rfl (x_br (fun q9 => absurd (show kI (1) ≤ 0 from q9) (by decide)) (fun q9 => x_ldc2 (x_lret rfl ?_))))))))))))))))
  · exact kk.go W1 kpM4 kfM4 (by rw [if_pos q1, if_neg (fun z => by rw [wz, q2] at z; cases z.1)]) wn4 (fun h => by cases h)
  · exact kk.go W2 kpM4 kfM4 (by rw [if_pos q1, if_neg (fun z => by rw [wy, q4] at z; cases z.2.1)]) wn4 (fun h => by cases h)
  · exact kk.go W3 kpM4 kfM4 (by rw [if_pos q1, if_neg (fun z => by rw [wu, q6] at z; cases z.2.2)]) wn4 (fun h => by cases h)
  · exact J_c (loop q1 (wz.trans q2) (wy.trans q4) (wu.trans q6) _ _ W4 kpM4 kfM4 wn4 0 (Nat.zero_le _)) rfl
  · exact kk.go W5 kpM4 kfM4 (if_neg (by rw [q1]; decide)) wn4 (fun h => by cases h)
end W1
