/-! ===== turns: the model ===== -/
theorem kN_add (a b : Nat) : kI (a : Int) + kI (b : Int) = kI ((a + b : Nat) : Int) := by
  rw [kI_add]
  exact congrArg kI (by omega)
theorem ix14 (a : Nat) : kI 14 * kI (a : Int) = kI ((14 * a : Nat) : Int) := by
  rw [kI_mul]
  exact congrArg kI (by omega)
theorem ix14m {q : Nat} (h : 1 ≤ q) : kI 14 * kI ((q : Int) - 1) = kI ((14 * (q - 1) : Nat) : Int) := by
  rw [ixm1 h, ix14]
theorem ix14q (q : Nat) : kI 14 * (kI ((q : Int) - 1) + kI 1) = kI ((14 * q : Nat) : Int) := by
  rw [ixq, ix14]
theorem or_k0 (x : Int32) : x ||| kI 0 = x := by
  apply hb_ext
  intro j _
  rw [hb_or, hb_zero, Bool.or_false]
theorem pc_set {s : Int32} {m : Nat} (hm : m < 12) (h : hb s m = false) : pc (s ||| b1 m) = pc s + 1 := by
  have e : s ||| b1 m = s ^^^ b1 m := hb_ext (fun j _ => by
    rw [hb_set (by omega), hb_tog (by omega)]
    by_cases ej : j = m
    · subst ej
      rw [h]
      simp
    · simp [ej])
  rw [e, pc_ex hm h]
theorem turS_ok {V : VT} {o : Nat → Nat} (hn : nm V ≤ 12) (ho : ∀ p, p < nm V → o p < nm V) (hd : ∀ p, p < nm V → ∀ p', p' < p → ¬ o p' = o p) : ∀ p, p ≤ nm V → sok (nm V) (turS V o p).1 ∧ pc (turS V o p).1 = (turS V o p).2 ∧ ∀ m, hb (turS V o p).1 m = true → ∃ p', p' < p ∧ o p' = m
  | 0, _ => ⟨sok.zero hn, by
      show pc (kI 0) = 0
      decide, fun m h => by
      have h9 : hb (kI 0) m = true := h
      rw [hb_zero] at h9
      cases h9⟩
  | p + 1, hp => by
    obtain ⟨h1, h2, h3⟩ := turS_ok hn ho hd p (by omega)
    have hop := ho p (by omega)
    show sok (nm V) (turF V o p (turS V o p)).1 ∧ pc (turF V o p (turS V o p)).1 = (turF V o p (turS V o p)).2 ∧ ∀ m, hb (turF V o p (turS V o p)).1 m = true → ∃ p', p' < p + 1 ∧ o p' = m
    unfold turF
    split
    · have hf : hb (turS V o p).1 (o p) = false := by
        cases e : hb (turS V o p).1 (o p) with
        | false => rfl
        | true =>
          obtain ⟨p', g1, g2⟩ := h3 _ e
          exact absurd g2 (hd p (by omega) p' g1)
      refine ⟨h1.or (sok.b1 hn hop), ?_, fun m hm => ?_⟩
      · show pc ((turS V o p).1 ||| b1 (o p)) = (turS V o p).2 + 1
        rw [pc_set (by omega) hf, h2]
      · have hm : hb ((turS V o p).1 ||| b1 (o p)) m = true := hm
        rw [hb_set (by omega), Bool.or_eq_true] at hm
        rcases hm with hm | hm
        · obtain ⟨p', g1, g2⟩ := h3 m hm
          exact ⟨p', by omega, g2⟩
        · exact ⟨p, by omega, (of_decide_eq_true hm).symm⟩
    · refine ⟨h1, h2, fun m hm => ?_⟩
      obtain ⟨p', g1, g2⟩ := h3 m hm
      exact ⟨p', by omega, g2⟩
theorem l88 : ∀ a ∈ [88], a ∈ SM := by decide
theorem l87 : ∀ a ∈ [87], a ∈ SM := by decide
theorem kf_of {w w' : Wst} {l m : List Nat} (h : kp m w w') (hm : 80 ∉ m) : kf l w w' := fun b _ => by rw [(h 80 hm).1]
section W1
variable {o : Nat → Nat} {T : TT}
variable {ga : Nat → Nat} {L : Nat} {xs : Nat → Int32} {d : Nat} {h : ac_H} {P : ac_P} {ad : Nat → Nat} {w : Wst} {V : VT}
theorem c7_wants {x y : Int32} {p c e : Nat} (W : WW ad w h) (hK : wa w 81 = V) (hV : VOK V) (hx : x = kI (p : Int)) (hp : p < nm V) (hy : y = kI (c : Int)) (hc : c ≤ p) (ho : wa w 87 p = kI (o p : Int) ∧ o p < nm V) (he : wa w 88 (14 * (p + 1) + c + 1) = kI (e : Int)) (hP : P (.inl (some (.int (bI (wnt V (o p) e))))) h) : WP ga L xs (d + 2) 199 [.ref (ad 80), .int x, .int y] h P := by
  have hn := hV.n.2
  have hix : kI 14 * (x + kI 1) + y + kI 1 = kI ((14 * (p + 1) + c + 1 : Nat) : Int) := by
    rw [hx, hy, kN_succ, ix14, kN_add, kN_succ]
  unfold wnt at hP
  refine WP.enter kX7_wants (Nat.le_of_ble_eq_true rfl) (fun J hJ => ?_)
  refine hJ 0 _ _ rfl _ _ _ _ (x_aload rfl (w_getr W 7 20 (t := 88) (by decide) shp_80 rfl rfl rfl (x_sipush (x_iload rfl (x_sipush (x_iadd (x_imul (x_iload rfl (x_iadd (x_sipush (x_iadd (w_iald W ((14 * (p + 1) + c + 1)) (by decide) shp_88 hix (by omega) (by decide) (x_aload rfl (w_getr W 7 0 (t := 81) (by decide) shp_80 rfl rfl rfl (x_sipush (w_iald W 1 (by decide) shp_81 rfl (by decide) (by decide) (x_br2 (fun q1 => have q1 := cy_ne q1; hJ 1 _ _ rfl _ _ _ _ (x_sipush (x_goto (hJ 2 _ _ rfl _ _ _ _ (x_iret (by first | exact nrwB _ | rfl | decide) ?_))))) (fun q1 => have q1 := cn_ne q1; x_aload rfl (w_getr W 7 0 (t := 81) (by decide) shp_80 rfl rfl rfl (x_sipush (w_iald W 2 (by decide) shp_81 rfl (by decide) (by decide) (x_aload rfl (x_aload rfl (w_getr W 7 19 (t := 87) (by decide) shp_80 rfl rfl rfl (x_iload rfl (w_iald W p (by decide) shp_87 hx (by omega) (by decide) (x_sipush (x_cv rfl (Nat.le_of_ble_eq_true rfl) (isO_W W (by decide) shp_80) (c7_of W hK ho.1 rfl (by omega) (by decide) (xk_go (x_br2 (fun q2 => have q2 := cy_le q2; hJ 1 _ _ rfl _ _ _ _ (x_sipush (x_goto (hJ 2 _ _ rfl _ _ _ _ (x_iret (by first | exact nrwB _ | rfl | decide) ?_))))) (fun q2 => have q2 := cn_le q2; x_sipush (x_goto (hJ 2 _ _ rfl _ _ _ _ (x_iret (by first | exact nrwB _ | rfl | decide) ?_)))))))))))))))))))))))))))))))))))
LEAVESW
