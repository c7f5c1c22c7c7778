/-! ===== the rules that there are; what is paid ahead ===== -/
def ruledB (x y : Int32) : Bool := if x < kI 4 ∨ x = kI 10 then decide (y = 0) else if x = kI 6 then decide (0 < y) else if x = kI 9 then decide (y ≤ kI 6) else true
section B1
variable {ga : Nat → Nat} {L : Nat} {xs : Nat → Int32} {d : Nat} {h : ac_H} {P : ac_P} {ad : Nat → Nat} {w : Wst} {i : Nat} {V : VT}
theorem c7_isRuled {x y : Int32} (hP : P (.inl (some (.int (bI (ruledB x y))))) h) : WP ga L xs (d + 1) 230 [.int x, .int y] h P := by
  refine WP.enter kX7_isRuled (Nat.le_of_ble_eq_true rfl) (fun J hJ => ?_)
  refine hJ 0 _ _ rfl _ _ _ _ (x_iload rfl (x_sipush (x_br2 (fun q1 => have q1 := cy_lt q1; hJ 1 _ _ rfl _ _ _ _ (x_iload rfl (x_br (fun q2 => have q2 := cy_ne q2; hJ 2 _ _ rfl _ _ _ _ (x_sipush (x_goto (hJ 8 _ _ rfl _ _ _ _ (x_iret (by first | exact nrwB _ | rfl | decide) ?_))))) (fun q2 => have q2 := cn_ne q2; x_sipush (x_goto (hJ 8 _ _ rfl _ _ _ _ (x_iret (by first | exact nrwB _ | rfl | decide) ?_))))))) (fun q1 => have q1 := cn_lt q1; x_iload rfl (x_sipush (x_br2 (fun q3 => have q3 := cy_ne q3; hJ 3 _ _ rfl _ _ _ _ (x_iload rfl (x_sipush (x_br2 (fun q4 => have q4 := cy_ne q4; hJ 5 _ _ rfl _ _ _ _ (x_iload rfl (x_sipush (x_br2 (fun q5 => have q5 := cy_ne q5; hJ 6 _ _ rfl _ _ _ _ (x_sipush (x_goto (hJ 8 _ _ rfl _ _ _ _ (x_iret (by first | exact nrwB _ | rfl | decide) ?_))))) (fun q5 => have q5 := cn_ne q5; x_iload rfl (x_sipush (x_br2 (fun q6 => have q6 := cy_gt q6; hJ 7 _ _ rfl _ _ _ _ (x_sipush (x_goto (hJ 8 _ _ rfl _ _ _ _ (x_iret (by first | exact nrwB _ | rfl | decide) ?_))))) (fun q6 => have q6 := cn_gt q6; x_goto (hJ 6 _ _ rfl _ _ _ _ (x_sipush (x_goto (hJ 8 _ _ rfl _ _ _ _ (x_iret (by first | exact nrwB _ | rfl | decide) ?_))))))))))))) (fun q4 => have q4 := cn_ne q4; x_iload rfl (x_br (fun q7 => have q7 := cy_le q7; hJ 4 _ _ rfl _ _ _ _ (x_sipush (x_goto (hJ 8 _ _ rfl _ _ _ _ (x_iret (by first | exact nrwB _ | rfl | decide) ?_))))) (fun q7 => have q7 := cn_le q7; x_sipush (x_goto (hJ 8 _ _ rfl _ _ _ _ (x_iret (by first | exact nrwB _ | rfl | decide) ?_)))))))))) (fun q3 => have q3 := cn_ne q3; x_goto (hJ 1 _ _ rfl _ _ _ _ (x_iload rfl (x_br (fun q8 => have q8 := cy_ne q8; hJ 2 _ _ rfl _ _ _ _ (x_sipush (x_goto (hJ 8 _ _ rfl _ _ _ _ (x_iret (by first | exact nrwB _ | rfl | decide) ?_))))) (fun q8 => have q8 := cn_ne q8; x_sipush (x_goto (hJ 8 _ _ rfl _ _ _ _ (x_iret (by first | exact nrwB _ | rfl | decide) ?_))))))))))))))
  · rw [show ruledB x y = false from by unfold ruledB; rw [if_pos (Or.inl q1)]; exact decide_eq_false q2] at hP
    exact hP
  · rw [show ruledB x y = true from by unfold ruledB; rw [if_pos (Or.inl q1)]; exact decide_eq_true q2] at hP
    exact hP
  · rw [show ruledB x y = true from by unfold ruledB; rw [if_neg (fun z => z.elim (Int32.not_lt.mpr q1) q3), if_neg q4, if_neg q5]] at hP
    exact hP
  · rw [show ruledB x y = false from by unfold ruledB; rw [if_neg (fun z => z.elim (Int32.not_lt.mpr q1) q3), if_neg q4, if_pos q5]; exact decide_eq_false (Int32.not_le.mpr q6)] at hP
    exact hP
  · rw [show ruledB x y = true from by unfold ruledB; rw [if_neg (fun z => z.elim (Int32.not_lt.mpr q1) q3), if_neg q4, if_pos q5]; exact decide_eq_true q6] at hP
    exact hP
  · rw [show ruledB x y = false from by unfold ruledB; rw [if_neg (fun z => z.elim (Int32.not_lt.mpr q1) q3), if_pos q4]; exact decide_eq_false (Int32.not_lt.mpr q7)] at hP
    exact hP
  · rw [show ruledB x y = true from by unfold ruledB; rw [if_neg (fun z => z.elim (Int32.not_lt.mpr q1) q3), if_pos q4]; exact decide_eq_true q7] at hP
    exact hP
  · rw [show ruledB x y = false from by unfold ruledB; rw [if_pos (Or.inr q3)]; exact decide_eq_false q8] at hP
    exact hP
  · rw [show ruledB x y = true from by unfold ruledB; rw [if_pos (Or.inr q3)]; exact decide_eq_true q8] at hP
    exact hP
end B1
