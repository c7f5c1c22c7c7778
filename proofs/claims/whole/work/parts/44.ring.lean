/-! ===== the ring ===== -/
theorem lcm_alt {r b : Nat} (hr : 1 ≤ r) : r / Nat.gcd r b * b = Nat.lcm r b := by
  have hg : 0 < Nat.gcd r b := Nat.gcd_pos_of_pos_left _ (by omega)
  obtain ⟨k, hk⟩ := Nat.gcd_dvd_left r b
  unfold Nat.lcm
  generalize Nat.gcd r b = g at *
  subst hk
  rw [Nat.mul_div_cancel_left _ hg, Nat.mul_assoc, Nat.mul_div_cancel_left _ hg]
section R1
variable {ga : Nat → Nat} {L : Nat} {xs : Nat → Int32} {d : Nat} {h : ac_H} {P : ac_P} {ad : Nat → Nat} {w : Wst} {i : Nat} {V : VT}
theorem c7_common {ga : Nat → Nat} {L : Nat} {xs : Nat → Int32} {d : Nat} {h : ac_H} : ∀ (f : Nat) {a b : Nat} {x y : Int32} {P : ac_P}, x = kI (a : Int) → y = kI (b : Int) → b ≤ f → f < 1000 → a < 2147483648 → P (.inl (some (.int (kI (Nat.gcd a b : Int))))) h → WP ga L xs (d + f + 1) 225 [.int x, .int y] h P := by
  intro f
  induction f with
  | zero =>
    intro a b x y P hx hy hf _ ha hP
    subst hx hy
    have : b = 0 := by omega
    subst this
    rw [Nat.gcd_zero_right] at hP
    refine WP.enter kX7_common (Nat.le_of_ble_eq_true rfl) (fun J hJ => ?_)
    refine hJ 0 _ _ rfl _ _ _ _ (x_iload rfl (x_br (fun q1 => have q1 := cy_ne q1; hJ 1 _ _ rfl _ _ _ _ (x_iload rfl (x_iload rfl (x_iload rfl (x_irem ?_ (x_cs rfl (Nat.le_of_ble_eq_true rfl) (?_))))))) (fun q1 => have q1 := cn_ne q1; x_iload rfl (x_goto (hJ 2 _ _ rfl _ _ _ _ (x_iret (nrwI _) ?_))))))
    · exact absurd rfl q1
    · exact absurd rfl q1
    · exact hP
  | succ f ih =>
    intro a b x y P hx hy hf hf9 ha hP
    subst hx hy
    have hz : kI (b : Int) = 0 ↔ b = 0 := kN_eq0 (by omega)
    refine WP.enter kX7_common (Nat.le_of_ble_eq_true rfl) (fun J hJ => ?_)
    refine hJ 0 _ _ rfl _ _ _ _ (x_iload rfl (x_br (fun q1 => have q1 := cy_ne q1; hJ 1 _ _ rfl _ _ _ _ (x_iload rfl (x_iload rfl (x_iload rfl (x_irem (fun z => q1 z) (x_cs rfl (Nat.le_of_ble_eq_true rfl) (ih (a := b) (b := a % b) rfl (kN_rem ha (by omega)) (by have hb0 : ¬ b = 0 := fun z => q1 (hz.mpr z); have := Nat.mod_lt a (show 0 < b by omega); omega) (by omega) (by omega) (xk_go (x_goto (hJ 2 _ _ rfl _ _ _ _ (x_iret (nrwI _) ?_))))))))))) (fun q1 => have q1 := cn_ne q1; x_iload rfl (x_goto (hJ 2 _ _ rfl _ _ _ _ (x_iret (nrwI _) ?_))))))
    · have hb0 : ¬ b = 0 := fun z => q1 (hz.mpr z)
      have e : Nat.gcd b (a % b) = Nat.gcd a b := by rw [Nat.gcd_comm, ← Nat.gcd_rec, Nat.gcd_comm]
      rw [e]
      exact hP
    · have hb0 : b = 0 := hz.mp q1
      subst hb0
      rw [Nat.gcd_zero_right] at hP
      exact hP
theorem c7_rhythm (W : WW ad w h) (hK : wa w 81 = V) (hV : VOK V) (hP : P (.inl (some (.int (kI (rhyV V : Int))))) h) : WP ga L xs (d + 14) 226 [.ref (ad 80)] h P := by
  have hn := hV.n.2
  refine WP.enter kX7_rhythm (Nat.le_of_ble_eq_true rfl) (fun J hJ => ?_)
  have loop : ∀ m, m ≤ nm V → J 1 [some (.ref (ad 80)), some (.int (kI ((fo (rhyF V) 1 m : Nat) : Int))), some (.int (kI (m : Int)))] [] h (0, 0) := up_ind (fun m hm ih => ?_)
  · exact hJ 0 _ _ rfl _ _ _ _ (x_sipush (x_istore rfl (x_sipush (x_istore rfl (x_goto (loop 0 (Nat.zero_le _)))))))
  have hrl := rhy_le hV hm
  have hr1 := (rhy_dvd hV m hm).2
  have f1 : V (6 + 4 * m + 0) = vR V m := rfl
  have f2 : V (6 + 4 * m + 1) = vN V m := by unfold vN; congr 1; omega
  have hN : m < nm V → V (6 + 4 * m + 1) = kI ((vN V m).toInt.toNat : Int) ∧ (vR V m = kI 6 → 1 ≤ (vN V m).toInt.toNat) ∧ (vN V m).toInt.toNat ≤ 12 := fun hm => by
    obtain ⟨-, hN, -, -, h6, -⟩ := hV.2.1 m hm
    refine ⟨?_, fun e => ?_, ?_⟩
    · rw [f2, Int.toNat_of_nonneg hN.1, kI_of]
    · have := h6 e
      omega
    · have := hN.2
      omega
  have hg : 1 ≤ Nat.gcd (fo (rhyF V) 1 m) (vN V m).toInt.toNat := Nat.gcd_pos_of_pos_left _ (by omega)
  have hg2 : Nat.gcd (fo (rhyF V) 1 m) (vN V m).toInt.toNat ≤ fo (rhyF V) 1 m := Nat.gcd_le_left _ (by omega)
  refine hJ 1 _ _ rfl _ _ _ _ (x_iload rfl (x_aload rfl (x_cv rfl (Nat.le_of_ble_eq_true rfl) (isO_W W (by decide) shp_80) (c7_many W hK hV (xk_go (x_br2 (fun q1 => have q1 := ge_y rfl (by omega) q1; hJ 3 _ _ rfl _ _ _ _ (x_iload rfl (x_iret (nrwI _) ?_))) (fun q1 => have q1 := ge_n rfl (by omega) q1; x_aload rfl (x_iload rfl (x_sipush (x_cv rfl (Nat.le_of_ble_eq_true rfl) (isO_W W (by decide) shp_80) (c7_of W hK rfl rfl (by omega) (by decide) (xk_go (x_sipush (x_br2 (fun q2 => have q2 := cy_ne q2; hJ 2 _ _ rfl _ _ _ _ (x_iinc rfl rfl (x_goto (?_)))) (fun q2 => have q2 := cn_ne q2; x_iload rfl (x_iload rfl (x_aload rfl (x_iload rfl (x_sipush (x_cv rfl (Nat.le_of_ble_eq_true rfl) (isO_W W (by decide) shp_80) (c7_of W hK rfl rfl (by omega) (by decide) (xk_go (x_cs rfl (Nat.le_of_ble_eq_true rfl) (c7_common 12 rfl (hN q1).1 (hN q1).2.2 (by omega) (by omega) (xk_go (x_idiv ?_ (x_aload rfl (x_iload rfl (x_sipush (x_cv rfl (Nat.le_of_ble_eq_true rfl) (isO_W W (by decide) shp_80) (c7_of W hK rfl rfl (by omega) (by decide) (xk_go (x_imul (x_istore rfl (x_goto (hJ 2 _ _ rfl _ _ _ _ (x_iinc rfl rfl (x_goto (?_)))))))))))))))))))))))))))))))))))))))
  · have e : m = nm V := by omega
    subst e
    exact hP
  · refine J_c (ih q1) ?_
    rw [f1] at q2
    simp only [sI, kN_succ, fo, rhyF, if_neg (show ¬ vR V m = kI 6 from q2)]
  · rw [kN_eq0 (by omega)]
    omega
  · refine J_c (ih q1) ?_
    rw [f1] at q2
    have e9 : kI ((fo (rhyF V) 1 m : Nat) : Int) / kI ((Nat.gcd (fo (rhyF V) 1 m) (vN V m).toInt.toNat : Nat) : Int) * V (6 + 4 * m + 1) = kI ((fo (rhyF V) 1 (m + 1) : Nat) : Int) := by
      rw [(hN q1).1, kN_div (by omega) (by omega), kN_mul, lcm_alt hr1]
      simp only [fo, rhyF, if_pos (show vR V m = kI 6 from q2)]
    simp only [sI, kN_succ, e9]
end R1
