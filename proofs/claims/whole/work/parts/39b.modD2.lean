/-! ===== the model: what was, further ===== -/
section M1
variable {ga : Nat → Nat} {L : Nat} {xs : Nat → Int32} {d : Nat} {h : ac_H} {P : ac_P} {ad : Nat → Nat} {w : Wst} {V : VT}
theorem m_settled (W : WW ad w h) (hK : wa w 81 = V) (hV : VOK V) (kk : KQ ad P w 0 (.int (stlV V))) : WP ga L xs (d + 4) 187 [.ref (ad 80)] h P := by
  have hn := hV.n.2
  have hw := hV.w.2
  have e5 : wa w 81 5 = kI (wk V : Int) := by rw [hK]; exact hV.w.1
  have hS : ∀ j, wa w 81 (54 + j) = vS V j := fun j => by rw [hK]; rfl
  have hl : sok (nm V) (lastV V) := (POK.start hV).last hn
  unfold stlV at kk
  refine WP.enter kX7_settled (Nat.le_of_ble_eq_true rfl) (fun J hJ => ?_)
  refine hJ 0 _ _ rfl _ _ _ _ (x_aload rfl (x_sipush (w_puti W 7 4 (by decide) shp_80 rfl rfl (okI rfl) (fun h1 W1 => x_sipush (x_istore rfl (x_goto (?_)))))))
  have fin : ∀ d : Nat, d ≤ 6 → stlN (thoughtsV V (lastV V)) 6 = d → J 2 [some (.ref (ad 80)), some (.int (kI (d : Int)))] [] h1 (0, 0) := fun d hd he => by
    rw [he] at kk
    have t6 : kI (d : Int) = kI 6 ↔ d = 6 := kN_inj (a := d) (b := 6) (by omega) (by omega)
    refine hJ 2 _ _ rfl _ _ _ _ (x_iload rfl (x_sipush (x_br2 (fun q1 => have q1 := cy_ne q1; hJ 3 _ _ rfl _ _ _ _ (x_iload rfl (x_goto (hJ 4 _ _ rfl _ _ _ _ (x_iret (nrwI _) ?_))))) (fun q1 => have q1 := cn_ne q1; x_sipush (x_goto (hJ 4 _ _ rfl _ _ _ _ (x_iret (nrwI _) ?_)))))))
    · rw [if_neg (fun z => q1 (t6.mpr z))] at kk
      exact kk.go W1 kpM4 kfM4 rfl wn4 (fun _ => rfl)
    · rw [if_pos (t6.mp q1)] at kk
      exact kk.go W1 kpM4 kfM4 rfl wn4 (fun _ => rfl)
  have loop : ∀ d : Nat, d ≤ 6 → stlN (thoughtsV V (lastV V)) 6 = stlN (thoughtsV V (lastV V)) d → J 1 [some (.ref (ad 80)), some (.int (kI (d : Int)))] [] h1 (0, 0) := by
    intro d
    induction d with
    | zero =>
      intro _ he
      refine hJ 1 _ _ rfl _ _ _ _ (x_iload rfl (x_br (fun q1 => have q1 := cy_le q1; ?_) (fun q1 => have q1 := cn_le q1; x_aload rfl (x_aload rfl (x_cv rfl (Nat.le_of_ble_eq_true rfl) (isO_W W1 (by decide) shp_80) (c7_last W1 hK hV (xk_go (x_iload rfl (x_sipush (x_isub (x_cv rfl (Nat.le_of_ble_eq_true rfl) (isO_W W1 (by decide) shp_80) (c7_thoughts W1 hK hV hl (t := 0) ?_ (by omega) (xk_go (x_aload rfl (x_aload rfl (x_cv rfl (Nat.le_of_ble_eq_true rfl) (isO_W W1 (by decide) shp_80) (c7_last W1 hK hV (xk_go (x_sipush (x_cv rfl (Nat.le_of_ble_eq_true rfl) (isO_W W1 (by decide) shp_80) (c7_thoughts W1 hK hV hl (t := 6) rfl (by omega) (xk_go (x_br2 (fun q2 => have q2 := cy_ne q2; ?_) (fun q2 => have q2 := cn_ne q2; x_iinc rfl rfl (x_goto (?_))))))))))))))))))))))))))
      · exact fin 0 (by omega) he
      all_goals exact absurd q1 (by decide)
    | succ d ih =>
      intro hd he
      have ed : stlN (thoughtsV V (lastV V)) (d + 1) = if thoughtsV V (lastV V) d = thoughtsV V (lastV V) 6 then stlN (thoughtsV V (lastV V)) d else d + 1 := rfl
      have ek : kI ((d + 1 : Nat) : Int) - kI 1 = kI (d : Int) := kN_pred (by omega)
      refine hJ 1 _ _ rfl _ _ _ _ (x_iload rfl (x_br (fun q1 => have q1 := cy_le q1; ?_) (fun q1 => have q1 := cn_le q1; x_aload rfl (x_aload rfl (x_cv rfl (Nat.le_of_ble_eq_true rfl) (isO_W W1 (by decide) shp_80) (c7_last W1 hK hV (xk_go (x_iload rfl (x_sipush (x_isub (x_cv rfl (Nat.le_of_ble_eq_true rfl) (isO_W W1 (by decide) shp_80) (c7_thoughts W1 hK hV hl ek (by omega) (xk_go (x_aload rfl (x_aload rfl (x_cv rfl (Nat.le_of_ble_eq_true rfl) (isO_W W1 (by decide) shp_80) (c7_last W1 hK hV (xk_go (x_sipush (x_cv rfl (Nat.le_of_ble_eq_true rfl) (isO_W W1 (by decide) shp_80) (c7_thoughts W1 hK hV hl (t := 6) rfl (by omega) (xk_go (x_br2 (fun q2 => have q2 := cy_ne q2; ?_) (fun q2 => have q2 := cn_ne q2; x_iinc rfl rfl (x_goto (?_))))))))))))))))))))))))))
      · rw [show (0 : Int32) = kI ((0 : Nat) : Int) from rfl, kN_le (by omega) (by omega)] at q1
        omega
      · rw [if_neg q2] at ed
        exact fin (d + 1) hd (he.trans ed)
      · rw [if_pos q2] at ed
        refine J_c (ih (by omega) (he.trans ed)) ?_
        have ek2 : kI ((d + 1 : Nat) : Int) + kI (-1) = kI (d : Int) := by rw [kI_add]; congr 1; omega
        simp only [sI, ek2]
  exact loop 6 (Nat.le_refl _) rfl
theorem c7_guessOf {c x : Int32} {u : Nat} (W : WW ad w h) (hK : wa w 81 = V) (hV : VOK V) (hcb : inV c 0 3 = true) (hx : x = kI (u : Int)) (hu : u ≤ wk V) (hu1 : 1 ≤ u) (hP : P (.inl (some (.int (cookV V c u)))) h) : WP ga L xs (d + 2) 238 [.ref (ad 80), .int c, .int x] h P := by
  subst hx
  have hn := hV.n.2
  have hw := hV.w.2
  have e5 : wa w 81 5 = kI (wk V : Int) := by rw [hK]; exact hV.w.1
  have hS : ∀ j, wa w 81 (54 + j) = vS V j := fun j => by rw [hK]; rfl
  have hcs : c = kI 0 ∨ c = kI 1 ∨ c = kI 2 ∨ c = kI 3 := by
    obtain ⟨h1, h2⟩ := in_m (b := 3) hcb
    have : tN c = 0 ∨ tN c = 1 ∨ tN c = 2 ∨ tN c = 3 := by omega
    rcases this with h | h | h | h <;> rw [h] at h1
    · exact Or.inl h1
    · exact Or.inr (Or.inl h1)
    · exact Or.inr (Or.inr (Or.inl h1))
    · exact Or.inr (Or.inr (Or.inr h1))
  unfold cookV at hP
  rw [if_neg (by omega)] at hP
  refine WP.enter kX7_guessOf (Nat.le_of_ble_eq_true rfl) (fun J hJ => ?_)
  have inner : ∀ m, m < u → ∀ (A B C : Int32) (here : Nat), here = pc (vS V m) → (∀ z z3, J 1 [some (.ref (ad 80)), some (.int c), some (.int (kI (u : Int))), some (.int (A + kI (here : Int))), some (.int (mmF V u m (B, C)).1), some (.int (mmF V u m (B, C)).2), some (.int (kI ((m + 1 : Nat) : Int))), some (.int (justV V (kI (here : Int)) u)), z, z3] [] h (0, 0)) → ∀ k, k ≤ u → J 2 [some (.ref (ad 80)), some (.int c), some (.int (kI (u : Int))), some (.int A), some (.int B), some (.int C), some (.int (kI (m : Int))), some (.int (justV V (kI (here : Int)) k)), some (.int (kI (here : Int))), some (.int (kI (k : Int)))] [] h (0, 0) := fun m hm A B C here hh hJ1 => up_ind (fun k hk ih => ?_)
  · have loop : ∀ m, m ≤ u → ∀ z1 z2 z3, J 1 [some (.ref (ad 80)), some (.int c), some (.int (kI (u : Int))), some (.int (comersV V m)), some (.int (fo (mmF V u) (kI 0, kI 0) m).1), some (.int (fo (mmF V u) (kI 0, kI 0) m).2), some (.int (kI (m : Int))), z1, z2, z3] [] h (0, 0) := up_ind (fun m hm ih z1 z2 z3 => ?_)
    · refine hJ 0 _ _ rfl _ _ _ _ (x_sipush (x_istore rfl (x_sipush (x_istore rfl (x_sipush (x_istore rfl (x_sipush (x_istore rfl (x_goto (?_))))))))))
      exact loop 0 (Nat.zero_le _) _ _ _
    have hs : m < u → sok (nm V) (wa w 81 (54 + m)) := fun h9 => by rw [hS]; exact hV.2.2 m (by omega)
    have hs1 : sok (nm V) (wa w 81 (54 + (u - 1))) := by rw [hS]; exact hV.2.2 (u - 1) (by omega)
    have hcne : ∀ a b : Int, -5 ≤ a ∧ a ≤ 5 → -5 ≤ b ∧ b ≤ 5 → (kI a = kI b ↔ a = b) := fun a b h1 h2 => kI_inj (by omega) (by omega) (by omega) (by omega)
    refine hJ 1 _ _ rfl _ _ _ _ (x_iload rfl (x_iload rfl (x_br2 (fun q1 => have q1 := ge_y rfl (by omega) q1; hJ 8 _ _ rfl _ _ _ _ (x_iload rfl (x_br (fun q2 => have q2 := cy_ne q2; hJ 9 _ _ rfl _ _ _ _ (x_iload rfl (x_sipush (x_br2 (fun q3 => have q3 := cy_ne q3; hJ 10 _ _ rfl _ _ _ _ (x_iload rfl (x_sipush (x_br2 (fun q4 => have q4 := cy_ne q4; hJ 11 _ _ rfl _ _ _ _ (x_aload rfl (w_getr W 7 0 (t := 81) (by decide) shp_80 rfl rfl rfl (x_sipush (w_iald W 1 (by decide) shp_81 rfl (by decide) (by decide) (x_goto (hJ 12 _ _ rfl _ _ _ _ (x_iret (nrwI _) ?_)))))))) (fun q4 => have q4 := cn_ne q4; x_iload rfl (x_goto (hJ 12 _ _ rfl _ _ _ _ (x_iret (nrwI _) ?_)))))))) (fun q3 => have q3 := cn_ne q3; x_iload rfl (x_iload rfl (x_idiv (fun z => by rw [kN_eq0 (by omega)] at z; omega) (x_goto (hJ 12 _ _ rfl _ _ _ _ (x_iret (nrwI _) ?_)))))))))) (fun q2 => have q2 := cn_ne q2; x_aload rfl (w_getr W 7 0 (t := 81) (by decide) shp_80 rfl rfl rfl (x_sipush (x_iload rfl (x_iadd (x_sipush (x_isub (w_iald W ((54 + (u - 1))) (by decide) shp_81 (by rw [came_ix, kI_sub]; congr 1; omega) (by omega) (by decide) (x_cs rfl (Nat.le_of_ble_eq_true rfl) (c7_size hs1 (xk_go (x_goto (hJ 12 _ _ rfl _ _ _ _ (x_iret (nrwI _) ?_))))))))))))))))) (fun q1 => have q1 := ge_n rfl (by omega) q1; x_sipush (x_istore rfl (x_aload rfl (w_getr W 7 0 (t := 81) (by decide) shp_80 rfl rfl rfl (x_sipush (x_iload rfl (x_iadd (w_iald W (54 + m) (by decide) shp_81 (came_ix _) (by omega) (by decide) (x_cs rfl (Nat.le_of_ble_eq_true rfl) (c7_size (hs q1) (xk_go (x_istore rfl (x_sipush (x_istore rfl (x_goto (?_)))))))))))))))))))
    · have e : m = u := by omega
      subst e
      rcases hcs with rfl | rfl | rfl | rfl
      · exact absurd rfl q2
      · exact absurd rfl q3
      · exact absurd rfl q4
      · rw [if_neg (by decide), if_neg (by decide), if_neg (by decide)] at hP
        rw [hK]
        exact hP
    · have e : m = u := by omega
      subst e
      have q2 : ¬ c = kI 0 := q2
      rw [if_neg q2, if_neg q3, if_pos q4] at hP
      rw [← most_eq hV hu hu1] at hP
      exact hP
    · have e : m = u := by omega
      subst e
      have q2 : ¬ c = kI 0 := q2
      rw [if_neg q2, if_pos q3] at hP
      exact hP
    · have e : m = u := by omega
      subst e
      have q2 : c = kI 0 := q2
      rw [if_pos q2, ← hS] at hP
      exact hP
    · have ec : comersV V (m + 1) = comersV V m + kI (pc (vS V m) : Int) := rfl
      have h9 := inner m q1 (comersV V m) (fo (mmF V u) (kI 0, kI 0) m).1 (fo (mmF V u) (kI 0, kI 0) m).2 (pc (vS V m)) rfl (fun z z3 => by
        have h8 := ih q1 (some (.int (justV V (kI (pc (vS V m) : Int)) u))) z z3
        rw [ec] at h8
        exact h8) 0 (Nat.zero_le _)
      refine J_c h9 ?_
      rw [← hS]
      rfl
  have hs : k < u → sok (nm V) (wa w 81 (54 + k)) := fun h9 => by rw [hS]; exact hV.2.2 k (by omega)
  have ej : justV V (kI (here : Int)) (k + 1) = justV V (kI (here : Int)) k + bI (decide (kI (pc (vS V k) : Int) = kI (here : Int))) := rfl
  have em : mmF V u m (B, C) = if justV V (kI (here : Int)) u < C then (B, C) else if ¬ justV V (kI (here : Int)) u = C then (kI (here : Int), justV V (kI (here : Int)) u) else if kI (here : Int) < B then (kI (here : Int), justV V (kI (here : Int)) u) else (B, C) := by rw [hh]; rfl
  refine hJ 2 _ _ rfl _ _ _ _ (x_iload rfl (x_iload rfl (x_br2 (fun q1 => have q1 := ge_y rfl (by omega) q1; hJ 5 _ _ rfl _ _ _ _ (x_iload rfl (x_iload rfl (x_iadd (x_istore rfl (x_iload rfl (x_iload rfl (x_br2 (fun q2 => have q2 := cy_lt q2; hJ 7 _ _ rfl _ _ _ _ (x_iinc rfl rfl (x_goto (?_)))) (fun q2 => have q2 := cn_lt q2; x_iload rfl (x_iload rfl (x_br2 (fun q3 => have q3 := cy_ne q3; hJ 6 _ _ rfl _ _ _ _ (x_iload rfl (x_istore rfl (x_iload rfl (x_istore rfl (x_goto (hJ 7 _ _ rfl _ _ _ _ (x_iinc rfl rfl (x_goto (?_)))))))))) (fun q3 => have q3 := cn_ne q3; x_iload rfl (x_iload rfl (x_br2 (fun q4 => have q4 := cy_lt q4; hJ 6 _ _ rfl _ _ _ _ (x_iload rfl (x_istore rfl (x_iload rfl (x_istore rfl (x_goto (hJ 7 _ _ rfl _ _ _ _ (x_iinc rfl rfl (x_goto (?_)))))))))) (fun q4 => have q4 := cn_lt q4; x_goto (hJ 7 _ _ rfl _ _ _ _ (x_iinc rfl rfl (x_goto (?_))))))))))))))))))) (fun q1 => have q1 := ge_n rfl (by omega) q1; x_iload rfl (x_aload rfl (w_getr W 7 0 (t := 81) (by decide) shp_80 rfl rfl rfl (x_sipush (x_iload rfl (x_iadd (w_iald W (54 + k) (by decide) shp_81 (came_ix _) (by omega) (by decide) (x_cs rfl (Nat.le_of_ble_eq_true rfl) (c7_size (hs q1) (xk_go (x_iload rfl (x_br2 (fun q5 => have q5 := cy_ne q5; hJ 3 _ _ rfl _ _ _ _ (x_sipush (x_goto (hJ 4 _ _ rfl _ _ _ _ (x_iadd (x_istore rfl (x_iinc rfl rfl (x_goto (?_))))))))) (fun q5 => have q5 := cn_ne q5; x_sipush (x_goto (hJ 4 _ _ rfl _ _ _ _ (x_iadd (x_istore rfl (x_iinc rfl rfl (x_goto (?_)))))))))))))))))))))))
  · have e : k = u := by omega
    subst e
    rw [if_pos q2] at em
    refine J_c (hJ1 (some (.int (kI (here : Int)))) (some (.int (kI (k : Int))))) ?_
    simp only [sI, em, kN_succ]
  · have e : k = u := by omega
    subst e
    rw [if_neg (Int32.not_lt.mpr q2), if_pos q3] at em
    refine J_c (hJ1 (some (.int (kI (here : Int)))) (some (.int (kI (k : Int))))) ?_
    simp only [sI, em, kN_succ]
  · have e : k = u := by omega
    subst e
    rw [if_neg (Int32.not_lt.mpr q2), if_neg (fun z => z q3), if_pos q4] at em
    refine J_c (hJ1 (some (.int (kI (here : Int)))) (some (.int (kI (k : Int))))) ?_
    simp only [sI, em, kN_succ]
  · have e : k = u := by omega
    subst e
    rw [if_neg (Int32.not_lt.mpr q2), if_neg (fun z => z q3), if_neg (Int32.not_lt.mpr q4)] at em
    refine J_c (hJ1 (some (.int (kI (here : Int)))) (some (.int (kI (k : Int))))) ?_
    simp only [sI, em, kN_succ]
  · rw [hS] at q5
    refine J_c (ih q1) ?_
    simp only [sI, kN_succ, ej, decide_eq_false q5]
    rfl
  · rw [hS] at q5
    refine J_c (ih q1) ?_
    simp only [sI, kN_succ, ej, decide_eq_true q5]
    rfl
theorem c_abs {x : Int32} (hP : P (.inl (some (.int (iabs x)))) h) : WP ga L xs (d + 1) 252 [.int x] h P := by
  unfold iabs at hP
  refine WP.enter kJ9_abs_0f7a4 (Nat.le_of_ble_eq_true rfl) (fun J hJ => ?_)
  refine hJ 0 _ _ rfl _ _ _ _ (x_iload rfl (x_br (fun q1 => have q1 := cy_ge q1; hJ 1 _ _ rfl _ _ _ _ (x_iload rfl (x_goto (hJ 2 _ _ rfl _ _ _ _ (x_iret (nrwI _) ?_))))) (fun q1 => have q1 := cn_ge q1; x_iload rfl (x_ineg (x_goto (hJ 2 _ _ rfl _ _ _ _ (x_iret (nrwI _) ?_)))))))
  · rw [if_neg (Int32.not_lt.mpr q1)] at hP
    exact hP
  · rw [if_pos q1] at hP
    exact hP
theorem iabs_neg {x y : Int32} (hx : btw x (-1000) 1000) (hy : btw y (-1000) 1000) : iabs (x - y) = iabs (y - x) := by
  obtain ⟨a, rfl, a1, a2⟩ := btw_k hx
  obtain ⟨b, rfl, b1, b2⟩ := btw_k hy
  unfold iabs
  rw [kI_sub, kI_sub, show (0 : Int32) = kI 0 from rfl]
  have t1 : kI (a - b) < kI 0 ↔ a - b < 0 := kI_lt (by omega) (by omega) (by omega) (by omega)
  have t2 : kI (b - a) < kI 0 ↔ b - a < 0 := kI_lt (by omega) (by omega) (by omega) (by omega)
  have n1 : ∀ z : Int, -kI z = kI (-z) := fun z => (Int32.ofInt_neg z).symm
  by_cases h1 : a - b < 0
  · rw [if_pos (t1.mpr h1), if_neg (fun z => by have := t2.mp z; omega), n1]
    congr 1
    omega
  · by_cases h2 : b - a < 0
    · rw [if_neg (fun z => h1 (t1.mp z)), if_pos (t2.mpr h2), n1]
      congr 1
      omega
    · rw [if_neg (fun z => h1 (t1.mp z)), if_neg (fun z => h2 (t2.mp z))]
      congr 1
      omega
theorem m_cook {c : Int32} (W : WW ad w h) (hK : wa w 81 = V) (hV : VOK V) (kk : KQ ad P w (cookT c) (.int (cookSV V c))) : WP ga L xs (d + 3) 239 [.ref (ad 80), .int c] h P := by
  have hn := hV.n.2
  have hw := hV.w.2
  have e5 : wa w 81 5 = kI (wk V : Int) := by rw [hK]; exact hV.w.1
  have hS : ∀ j, wa w 81 (54 + j) = vS V j := fun j => by rw [hK]; rfl
  have ew : inV c 0 3 = decide ((Int64.ofNat 0).toInt ≤ c.toInt64.toInt ∧ c.toInt64.toInt ≤ (Int64.ofNat 3).toInt) := (inV_l (a := 0) (b := 3) (by omega) (by omega)).symm
  unfold cookT at kk
  refine WP.enter kX7_cook (Nat.le_of_ble_eq_true rfl) (fun J hJ => ?_)
  have loop : ∀ h1, WW ad (sn w 80 4 (kI 0)) h1 → inV c 0 3 = true → ∀ m, m ≤ wk V - 1 → J 2 [some (.ref (ad 80)), some (.int c), some (.int (sm (fun j => iabs (kI (pc (vS V (j + 1)) : Int) - cookV V c (j + 1))) m)), some (.int (kI ((m + 1 : Nat) : Int)))] [] h1 (0, 0) := fun h1 W1 hcb => up_ind (fun m hm ih => ?_)
  · refine hJ 0 _ _ rfl _ _ _ _ (x_aload rfl (x_sipush (w_puti W 7 4 (by decide) shp_80 rfl rfl (okI rfl) (fun h1 W1 => x_iload rfl (x_i2l (x_ldc2 (x_ldc2 (x_cs rfl (Nat.le_of_ble_eq_true rfl) (c7_within (xk_go (x_br (fun q1 => have q1 := bI_ne0.mp q1; hJ 1 _ _ rfl _ _ _ _ (x_sipush (x_istore rfl (x_sipush (x_istore rfl (x_goto (?_))))))) (fun q1 => have q1 := bI_nn q1; x_aload rfl (x_sipush (x_cv rfl (Nat.le_of_ble_eq_true rfl) (isO_W W1 (by decide) shp_80) (c7_fails W1 (fun h2 W2 => xk_go (x_iret (nrwI _) ?_)))))))))))))))))
    · exact loop _ W1 (ew.trans q1) 0 (Nat.zero_le _)
    · exact kk.go W2 (kpM4.trans kpM4) (kfM4.trans kfM4) (if_neg (by rw [ew, q1]; decide)) wn4 (fun h => by cases h)
  have hs : m + 1 < wk V → sok (nm V) (wa (sn w 80 4 (kI 0)) 81 (54 + (m + 1))) := fun hm => by rw [wa_sn, hS]; exact hV.2.2 _ hm
  refine hJ 2 _ _ rfl _ _ _ _ (x_iload rfl (x_aload rfl (w_getr W1 7 0 (t := 81) (by decide) shp_80 rfl rfl rfl (x_sipush (w_iald W1 5 (by decide) shp_81 rfl (by decide) (by decide) (x_br2 (fun q1 => have q1 := ge_y e5 (by omega) q1; hJ 3 _ _ rfl _ _ _ _ (x_iload rfl (x_iret (nrwI _) ?_))) (fun q1 => have q1 := ge_n e5 (by omega) q1; x_iload rfl (x_aload rfl (w_getr W1 7 0 (t := 81) (by decide) shp_80 rfl rfl rfl (x_sipush (x_iload rfl (x_iadd (w_iald W1 ((54 + (m + 1))) (by decide) shp_81 (came_ix _) (by omega) (by decide) (x_cs rfl (Nat.le_of_ble_eq_true rfl) (c7_size (hs q1) (xk_go (x_aload rfl (x_iload rfl (x_iload rfl (x_cv rfl (Nat.le_of_ble_eq_true rfl) (isO_W W1 (by decide) shp_80) (c7_guessOf W1 hK hV hcb rfl (by omega) (by omega) (xk_go (x_isub (x_cs rfl (Nat.le_of_ble_eq_true rfl) (c_abs (xk_go (x_iadd (x_istore rfl (x_iinc rfl rfl (x_goto (?_)))))))))))))))))))))))))))))))
  · rw [if_pos hcb] at kk
    have e : m = wk V - 1 := by omega
    subst e
    exact kk.go W1 kpM4 kfM4 rfl wn4 (fun _ => rfl)
  · refine J_c (ih (by omega)) ?_
    simp only [sI, sm, kN_succ, wa_sn, hS]
theorem m_guess {c : Int32} (W : WW ad w h) (hK : wa w 81 = V) (hV : VOK V) (kk : KQ ad P w (cookT c) (.int (cookV V c (wk V)))) : WP ga L xs (d + 3) 240 [.ref (ad 80), .int c] h P := by
  have hn := hV.n.2
  have hw := hV.w.2
  have e5 : wa w 81 5 = kI (wk V : Int) := by rw [hK]; exact hV.w.1
  have hS : ∀ j, wa w 81 (54 + j) = vS V j := fun j => by rw [hK]; rfl
  have ew : inV c 0 3 = decide ((Int64.ofNat 0).toInt ≤ c.toInt64.toInt ∧ c.toInt64.toInt ≤ (Int64.ofNat 3).toInt) := (inV_l (a := 0) (b := 3) (by omega) (by omega)).symm
  unfold cookT at kk
  refine WP.enter kX7_guess (Nat.le_of_ble_eq_true rfl) (fun J hJ => ?_)
  refine hJ 0 _ _ rfl _ _ _ _ (x_aload rfl (x_sipush (w_puti W 7 4 (by decide) shp_80 rfl rfl (okI rfl) (fun h1 W1 => x_iload rfl (x_i2l (x_ldc2 (x_ldc2 (x_cs rfl (Nat.le_of_ble_eq_true rfl) (c7_within (xk_go (x_br (fun q1 => have q1 := bI_ne0.mp q1; hJ 1 _ _ rfl _ _ _ _ (x_aload rfl (w_getr W1 7 0 (t := 81) (by decide) shp_80 rfl rfl rfl (x_sipush (w_iald W1 5 (by decide) shp_81 rfl (by decide) (by decide) (x_br (fun q2 => have q2 := ne0_n e5 (by omega) q2; hJ 2 _ _ rfl _ _ _ _ (x_aload rfl (x_iload rfl (x_aload rfl (w_getr W1 7 0 (t := 81) (by decide) shp_80 rfl rfl rfl (x_sipush (w_iald W1 5 (by decide) shp_81 rfl (by decide) (by decide) (x_cv rfl (Nat.le_of_ble_eq_true rfl) (isO_W W1 (by decide) shp_80) (c7_guessOf W1 hK hV (ew.trans q1) e5 (Nat.le_refl _) q2 (xk_go (x_goto (hJ 3 _ _ rfl _ _ _ _ (x_iret (nrwI _) ?_))))))))))))) (fun q2 => have q2 := eq0_n e5 (by omega) (cn_ne q2); x_sipush (x_goto (hJ 3 _ _ rfl _ _ _ _ (x_iret (nrwI _) ?_)))))))))) (fun q1 => have q1 := bI_nn q1; x_aload rfl (x_sipush (x_cv rfl (Nat.le_of_ble_eq_true rfl) (isO_W W1 (by decide) shp_80) (c7_fails W1 (fun h2 W2 => xk_go (x_iret (nrwI _) ?_)))))))))))))))))
  · exact kk.go W1 kpM4 kfM4 (if_pos (ew.trans q1)) wn4 (fun _ => rfl)
  · exact kk.go W1 kpM4 kfM4 (if_pos (ew.trans q1)) wn4 (fun _ => by unfold cookV; rw [if_pos q2])
  · exact kk.go W2 (kpM4.trans kpM4) (kfM4.trans kfM4) (if_neg (by rw [ew, q1]; decide)) wn4 (fun h => by cases h)
theorem m_count {x : Int32} {tp : Nat} (W : WW ad w h) (hK : wa w 81 = V) (hV : VOK V) (ht : wn w 80 6 = kI (tp : Int)) (kk : KQ ad P w 0 (.int (countV V tp x))) : WP ga L xs (d + 3) 248 [.ref (ad 80), .int x] h P := by
  have hn := hV.n.2
  have hw := hV.w.2
  have e5 : wa w 81 5 = kI (wk V : Int) := by rw [hK]; exact hV.w.1
  have hS : ∀ j, wa w 81 (54 + j) = vS V j := fun j => by rw [hK]; rfl
  refine WP.enter kX7_count (Nat.le_of_ble_eq_true rfl) (fun J hJ => ?_)
  refine hJ 0 _ _ rfl _ _ _ _ (x_aload rfl (x_sipush (w_puti W 7 4 (by decide) shp_80 rfl rfl (okI rfl) (fun h1 W1 => x_sipush (x_istore rfl (x_sipush (x_istore rfl (x_goto (?_)))))))))
  have loop : ∀ m, m ≤ wk V → J 1 [some (.ref (ad 80)), some (.int x), some (.int (justV V (V 1) m)), some (.int (kI (m : Int)))] [] h1 (0, 0) := up_ind (fun m hm ih => ?_)
  · exact loop 0 (Nat.zero_le _)
  have hs : m < wk V → sok (nm V) (wa (sn w 80 4 (kI 0)) 81 (54 + m)) := fun hm => by rw [wa_sn, hS]; exact hV.2.2 m hm
  have ej : justV V (V 1) (m + 1) = justV V (V 1) m + bI (meetsV V (vS V m)) := rfl
  by_cases hlast : m = wk V
  · subst hlast
    have fin : J 4 [some (.ref (ad 80)), some (.int x), some (.int (justV V (V 1) (wk V))), some (.int (kI (wk V : Int)))] [] h1 (0, 0) := by
      by_cases hx : inV x 0 7 = true
      · obtain ⟨x1, x2⟩ := in_m (b := 7) hx
        have hcs : tN x = 0 ∨ tN x = 1 ∨ tN x = 2 ∨ tN x = 3 ∨ tN x = 4 ∨ tN x = 5 ∨ tN x = 6 ∨ tN x = 7 := by omega
        rcases hcs with h9 | h9 | h9 | h9 | h9 | h9 | h9 | h9 <;> rw [h9] at x1 <;> subst x1 <;> unfold countV at kk <;> simp (decide := true) only [if_true, if_false] at kk
        · refine hJ 4 _ _ rfl _ _ _ _ (x_iload rfl (x_ts (b := 5) rfl (hJ 5 _ _ rfl _ _ _ _ (x_aload rfl (w_getr W1 7 0 (t := 81) (by decide) shp_80 rfl rfl rfl (x_sipush (w_iald W1 0 (by decide) shp_81 rfl (by decide) (by decide) (x_iret (nrwI _) ?_))))))))
          exact kk.go W1 kpM4 kfM4 rfl wn4 (fun _ => by first | rfl | (rw [wa_sn, hK]) | (rw [hV.n.1]) | (rw [← ht]; rfl))
        · refine hJ 4 _ _ rfl _ _ _ _ (x_iload rfl (x_ts (b := 6) rfl (hJ 6 _ _ rfl _ _ _ _ (x_aload rfl (w_getr W1 7 0 (t := 81) (by decide) shp_80 rfl rfl rfl (x_sipush (w_iald W1 1 (by decide) shp_81 rfl (by decide) (by decide) (x_iret (nrwI _) ?_))))))))
          exact kk.go W1 kpM4 kfM4 rfl wn4 (fun _ => by first | rfl | (rw [wa_sn, hK]) | (rw [hV.n.1]) | (rw [← ht]; rfl))
        · refine hJ 4 _ _ rfl _ _ _ _ (x_iload rfl (x_ts (b := 7) rfl (hJ 7 _ _ rfl _ _ _ _ (x_aload rfl (w_getr W1 7 0 (t := 81) (by decide) shp_80 rfl rfl rfl (x_sipush (w_iald W1 2 (by decide) shp_81 rfl (by decide) (by decide) (x_iret (nrwI _) ?_))))))))
          exact kk.go W1 kpM4 kfM4 rfl wn4 (fun _ => by first | rfl | (rw [wa_sn, hK]) | (rw [hV.n.1]) | (rw [← ht]; rfl))
        · refine hJ 4 _ _ rfl _ _ _ _ (x_iload rfl (x_ts (b := 8) rfl (hJ 8 _ _ rfl _ _ _ _ (x_aload rfl (w_getr W1 7 0 (t := 81) (by decide) shp_80 rfl rfl rfl (x_sipush (w_iald W1 3 (by decide) shp_81 rfl (by decide) (by decide) (x_iret (nrwI _) ?_))))))))
          exact kk.go W1 kpM4 kfM4 rfl wn4 (fun _ => by first | rfl | (rw [wa_sn, hK]) | (rw [hV.n.1]) | (rw [← ht]; rfl))
        · refine hJ 4 _ _ rfl _ _ _ _ (x_iload rfl (x_ts (b := 9) rfl (hJ 9 _ _ rfl _ _ _ _ (x_aload rfl (x_cv rfl (Nat.le_of_ble_eq_true rfl) (isO_W W1 (by decide) shp_80) (c7_many W1 hK hV (xk_go (x_iret (nrwI _) ?_))))))))
          exact kk.go W1 kpM4 kfM4 rfl wn4 (fun _ => by first | rfl | (rw [wa_sn, hK]) | (rw [hV.n.1]) | (rw [← ht]; rfl))
        · refine hJ 4 _ _ rfl _ _ _ _ (x_iload rfl (x_ts (b := 10) rfl (hJ 10 _ _ rfl _ _ _ _ (x_aload rfl (w_getr W1 7 0 (t := 81) (by decide) shp_80 rfl rfl rfl (x_sipush (w_iald W1 5 (by decide) shp_81 rfl (by decide) (by decide) (x_iret (nrwI _) ?_))))))))
          exact kk.go W1 kpM4 kfM4 rfl wn4 (fun _ => by first | rfl | (rw [wa_sn, hK]) | (rw [hV.n.1]) | (rw [← ht]; rfl))
        · refine hJ 4 _ _ rfl _ _ _ _ (x_iload rfl (x_ts (b := 11) rfl (hJ 11 _ _ rfl _ _ _ _ (x_iload rfl (x_iret (nrwI _) ?_)))))
          exact kk.go W1 kpM4 kfM4 rfl wn4 (fun _ => by first | rfl | (rw [wa_sn, hK]) | (rw [hV.n.1]) | (rw [← ht]; rfl))
        · refine hJ 4 _ _ rfl _ _ _ _ (x_iload rfl (x_ts (b := 12) rfl (hJ 12 _ _ rfl _ _ _ _ (x_aload rfl (w_geti W1 7 6 (by decide) shp_80 rfl rfl (x_iret (nrwI _) ?_))))))
          exact kk.go W1 kpM4 kfM4 rfl wn4 (fun _ => by first | rfl | (rw [wa_sn, hK]) | (rw [hV.n.1]) | (rw [← ht]; rfl))
      · unfold countV at kk
        have hne : ∀ c : Nat, c ≤ 7 → ¬ x = kI (c : Int) := fun c hc z => hx (by rw [z]; exact decide_eq_true (by rw [kN_toInt (by omega)]; omega))
        rw [if_neg (show ¬ x = kI 0 from hne 0 (by omega)), if_neg (show ¬ x = kI 1 from hne 1 (by omega)), if_neg (show ¬ x = kI 2 from hne 2 (by omega)), if_neg (show ¬ x = kI 3 from hne 3 (by omega)), if_neg (show ¬ x = kI 4 from hne 4 (by omega)), if_neg (show ¬ x = kI 5 from hne 5 (by omega)), if_neg (show ¬ x = kI 6 from hne 6 (by omega)), if_neg (show ¬ x = kI 7 from hne 7 (by omega))] at kk
        refine hJ 4 _ _ rfl _ _ _ _ (x_iload rfl (x_ts (b := 13) (by unfold tsel; have hx2 : ¬ (0 ≤ x.toInt ∧ x.toInt ≤ 7) := fun z => hx (decide_eq_true z); rw [if_pos (by omega)]) (hJ 13 _ _ rfl _ _ _ _ (x_sipush (x_iret (nrwI _) ?_)))))
        exact kk.go W1 kpM4 kfM4 rfl wn4 (fun _ => rfl)
    refine hJ 1 _ _ rfl _ _ _ _ (x_iload rfl (x_aload rfl (w_getr W1 7 0 (t := 81) (by decide) shp_80 rfl rfl rfl (x_sipush (w_iald W1 5 (by decide) shp_81 rfl (by decide) (by decide) (x_br2 (fun q1 => have q1 := ge_y e5 (by omega) q1; ?_) (fun q1 => have q1 := ge_n e5 (by omega) q1; x_iload rfl (x_aload rfl (x_aload rfl (w_getr W1 7 0 (t := 81) (by decide) shp_80 rfl rfl rfl (x_sipush (x_iload rfl (x_iadd (w_iald W1 ((54 + (wk V))) (by decide) shp_81 (came_ix _) (by omega) (by decide) (x_cv rfl (Nat.le_of_ble_eq_true rfl) (isO_W W1 (by decide) shp_80) (c7_meets W1 hK (hs q1) (xk_go (x_br (fun q2 => have q2 := bI_eq0.mp q2; ?_) (fun q2 => have q2 := bI_ne0.mp q2; x_sipush (x_goto (hJ 3 _ _ rfl _ _ _ _ (x_iadd (x_istore rfl (x_iinc rfl rfl (x_goto (?_))))))))))))))))))))))))))
    · exact fin
    all_goals omega
  refine hJ 1 _ _ rfl _ _ _ _ (x_iload rfl (x_aload rfl (w_getr W1 7 0 (t := 81) (by decide) shp_80 rfl rfl rfl (x_sipush (w_iald W1 5 (by decide) shp_81 rfl (by decide) (by decide) (x_br2 (fun q1 => have q1 := ge_y e5 (by omega) q1; ?_) (fun q1 => have q1 := ge_n e5 (by omega) q1; x_iload rfl (x_aload rfl (x_aload rfl (w_getr W1 7 0 (t := 81) (by decide) shp_80 rfl rfl rfl (x_sipush (x_iload rfl (x_iadd (w_iald W1 (54 + m) (by decide) shp_81 (came_ix _) (by omega) (by decide) (x_cv rfl (Nat.le_of_ble_eq_true rfl) (isO_W W1 (by decide) shp_80) (c7_meets W1 hK (hs q1) (xk_go (x_br (fun q2 => have q2 := bI_eq0.mp q2; hJ 2 _ _ rfl _ _ _ _ (x_sipush (x_goto (hJ 3 _ _ rfl _ _ _ _ (x_iadd (x_istore rfl (x_iinc rfl rfl (x_goto (?_))))))))) (fun q2 => have q2 := bI_ne0.mp q2; x_sipush (x_goto (hJ 3 _ _ rfl _ _ _ _ (x_iadd (x_istore rfl (x_iinc rfl rfl (x_goto (?_))))))))))))))))))))))))))
  · omega
  · rw [wa_sn, hS] at q2
    refine J_c (ih q1) ?_
    simp only [sI, kN_succ, ej, q2]
    rfl
  · rw [wa_sn, hS] at q2
    refine J_c (ih q1) ?_
    simp only [sI, kN_succ, ej, q2]
    rfl
theorem lt4_of {y : Int32} (h1 : y = kI (tN y : Int)) (h2 : tN y ≤ 6) (h3 : y < kI 4) : tN y < 4 := by
  rw [h1] at h3
  exact (kN_lt (b := 4) (by omega) (by omega)).mp h3
theorem m_member {x y : Int32} (W : WW ad w h) (hK : wa w 81 = V) (hV : VOK V) (kk : KQ ad P w (membT V x y) (.int (memberV V (tN x) y))) : WP ga L xs (d + 4) 166 [.ref (ad 80), .int x, .int y] h P := by
  have hn := hV.n.2
  have hw := hV.w.2
  have e5 : wa w 81 5 = kI (wk V : Int) := by rw [hK]; exact hV.w.1
  have hS : ∀ j, wa w 81 (54 + j) = vS V j := fun j => by rw [hK]; rfl
  have ew : inV y 0 6 = decide ((Int64.ofNat 0).toInt ≤ y.toInt64.toInt ∧ y.toInt64.toInt ≤ (Int64.ofNat 6).toInt) := (inV_l (a := 0) (b := 6) (by omega) (by omega)).symm
  unfold membT memberV at kk
  refine WP.enter kX7_member (Nat.le_of_ble_eq_true rfl) (fun J hJ => ?_)
  have loop : ∀ h1, WW ad (sn w 80 4 (kI 0)) h1 → isMemV V x = true → inV y 0 6 = true → ¬ y < kI 4 → ∀ m, m ≤ wk V → ∀ z, J 4 [some (.ref (ad 80)), some (.int x), some (.int y), some (.int (sm (membS V (tN x) y) m)), some (.int (kI (m : Int))), z] [] h1 (0, 0) := fun h1 W1 hm hy hy4 => up_ind (fun m hm9 ih z => ?_)
  · refine hJ 0 _ _ rfl _ _ _ _ (x_aload rfl (x_sipush (w_puti W 7 4 (by decide) shp_80 rfl rfl (okI rfl) (fun h1 W1 => x_aload rfl (x_iload rfl (x_cv rfl (Nat.le_of_ble_eq_true rfl) (isO_W W1 (by decide) shp_80) (c7_isMember W1 hK hV (xk_go (x_br (fun q1 => have q1 := bI_ne0.mp q1; hJ 1 _ _ rfl _ _ _ _ (x_iload rfl (x_i2l (x_ldc2 (x_ldc2 (x_cs rfl (Nat.le_of_ble_eq_true rfl) (c7_within (xk_go (x_br (fun q2 => have q2 := bI_ne0.mp q2; hJ 2 _ _ rfl _ _ _ _ (x_iload rfl (x_sipush (x_br2 (fun q3 => have q3 := cy_ge q3; hJ 3 _ _ rfl _ _ _ _ (x_sipush (x_istore rfl (x_sipush (x_istore rfl (x_goto (?_))))))) (fun q3 => have q3 := cn_ge q3; x_aload rfl (x_iload rfl (x_iload rfl (x_cv rfl (Nat.le_of_ble_eq_true rfl) (isO_W W1 (by decide) shp_80) (c7_of W1 hK (isMem_m q1).1 (in_m (b := 6) (ew.trans q2)).1 (by have := (isMem_m q1).2; omega) (lt4_of (in_m (b := 6) (ew.trans q2)).1 (in_m (b := 6) (ew.trans q2)).2 q3) (xk_go (x_iret (nrwI _) ?_))))))))))) (fun q2 => have q2 := bI_nn q2; x_aload rfl (x_sipush (x_cv rfl (Nat.le_of_ble_eq_true rfl) (isO_W W1 (by decide) shp_80) (c7_fails W1 (fun h2 W2 => xk_go (x_iret (nrwI _) ?_))))))))))))))) (fun q1 => have q1 := bI_nn q1; x_aload rfl (x_sipush (x_cv rfl (Nat.le_of_ble_eq_true rfl) (isO_W W1 (by decide) shp_80) (c7_fails W1 (fun h3 W3 => xk_go (x_iret (nrwI _) ?_)))))))))))))))
    · exact loop _ W1 q1 (ew.trans q2) (Int32.not_lt.mpr q3) 0 (Nat.zero_le _) _
    · rw [if_pos q1, if_pos (ew.trans q2), if_pos q3] at kk
      exact kk.go W1 kpM4 kfM4 rfl wn4 (fun _ => rfl)
    · rw [if_pos q1, if_neg (by rw [ew, q2]; decide)] at kk
      exact kk.go W2 (kpM4.trans kpM4) (kfM4.trans kfM4) rfl wn4 (fun h => by cases h)
    · rw [if_neg (by rw [q1]; decide)] at kk
      exact kk.go W3 (kpM4.trans kpM4) (kfM4.trans kfM4) rfl wn4 (fun h => by cases h)
  obtain ⟨x1, x2⟩ := isMem_m hm
  have hs : m < wk V → sok (nm V) (wa (sn w 80 4 (kI 0)) 81 (54 + m)) := fun hm => by rw [wa_sn, hS]; exact hV.2.2 _ hm
  have es : sm (membS V (tN x) y) (m + 1) = sm (membS V (tN x) y) m + membS V (tN x) y m := rfl
  refine hJ 4 _ _ rfl _ _ _ _ (x_iload rfl (x_aload rfl (w_getr W1 7 0 (t := 81) (by decide) shp_80 rfl rfl rfl (x_sipush (w_iald W1 5 (by decide) shp_81 rfl (by decide) (by decide) (x_br2 (fun q1 => have q1 := ge_y e5 (by omega) q1; hJ 9 _ _ rfl _ _ _ _ (x_iload rfl (x_iret (nrwI _) ?_))) (fun q1 => have q1 := ge_n e5 (by omega) q1; x_aload rfl (w_getr W1 7 0 (t := 81) (by decide) shp_80 rfl rfl rfl (x_sipush (x_iload rfl (x_iadd (w_iald W1 (54 + m) (by decide) shp_81 (came_ix _) (by omega) (by decide) (x_istore rfl (x_iload rfl (x_iload rfl (x_sipush (x_br2 (fun q2 => have q2 := cy_ne q2; hJ 5 _ _ rfl _ _ _ _ (x_iload rfl (x_iload rfl (x_cs rfl (Nat.le_of_ble_eq_true rfl) (c7_has x1 (by omega) (xk_go (x_br (fun q3 => have q3 := bI_eq0.mp q3; hJ 7 _ _ rfl _ _ _ _ (x_sipush (x_goto (hJ 8 _ _ rfl _ _ _ _ (x_iadd (x_istore rfl (x_iinc rfl rfl (x_goto (?_))))))))) (fun q3 => have q3 := bI_ne0.mp q3; x_iload rfl (x_sipush (x_br2 (fun q4 => have q4 := cy_eq q4; hJ 6 _ _ rfl _ _ _ _ (x_sipush (x_goto (hJ 8 _ _ rfl _ _ _ _ (x_iadd (x_istore rfl (x_iinc rfl rfl (x_goto (?_))))))))) (fun q4 => have q4 := cn_eq q4; x_aload rfl (x_iload rfl (x_cv rfl (Nat.le_of_ble_eq_true rfl) (isO_W W1 (by decide) shp_80) (c7_meets W1 hK (hs q1) (xk_go (x_br (fun q5 => have q5 := bI_eq0.mp q5; hJ 7 _ _ rfl _ _ _ _ (x_sipush (x_goto (hJ 8 _ _ rfl _ _ _ _ (x_iadd (x_istore rfl (x_iinc rfl rfl (x_goto (?_))))))))) (fun q5 => have q5 := bI_ne0.mp q5; x_goto (hJ 6 _ _ rfl _ _ _ _ (x_sipush (x_goto (hJ 8 _ _ rfl _ _ _ _ (x_iadd (x_istore rfl (x_iinc rfl rfl (x_goto (?_)))))))))))))))))))))))))) (fun q2 => have q2 := cn_ne q2; x_aload rfl (x_iload rfl (x_iload rfl (x_cv rfl (Nat.le_of_ble_eq_true rfl) (isO_W W1 (by decide) shp_80) (c7_payOf W1 hK (hs q1) x1 (by omega) (xk_go (x_goto (hJ 8 _ _ rfl _ _ _ _ (x_iadd (x_istore rfl (x_iinc rfl rfl (x_goto (?_))))))))))))))))))))))))))))))
  · rw [if_pos hm, if_pos hy, if_neg hy4] at kk
    have e : m = wk V := by omega
    subst e
    exact kk.go W1 kpM4 kfM4 rfl wn4 (fun _ => rfl)
  · rw [wa_sn, hS] at q3
    have e : membS V (tN x) y m = bI false := by
      unfold membS
      rw [if_neg q2, q3]
      rfl
    refine J_c (ih q1 (some (.int (vS V m)))) ?_
    rw [es, e]
    simp only [sI, kN_succ, wa_sn, hS]
    all_goals rfl
  · rw [wa_sn, hS] at q3
    have e : membS V (tN x) y m = bI true := by
      unfold membS
      rw [if_neg q2, q3, decide_eq_true q4]
      rfl
    refine J_c (ih q1 (some (.int (vS V m)))) ?_
    rw [es, e]
    simp only [sI, kN_succ, wa_sn, hS]
    all_goals rfl
  · rw [wa_sn, hS] at q3 q5
    have e : membS V (tN x) y m = bI false := by
      unfold membS
      rw [if_neg q2, q3, decide_eq_false q4, q5]
      rfl
    refine J_c (ih q1 (some (.int (vS V m)))) ?_
    rw [es, e]
    simp only [sI, kN_succ, wa_sn, hS]
    all_goals rfl
  · rw [wa_sn, hS] at q3 q5
    have e : membS V (tN x) y m = bI true := by
      unfold membS
      rw [if_neg q2, q3, decide_eq_false q4, q5]
      rfl
    refine J_c (ih q1 (some (.int (vS V m)))) ?_
    rw [es, e]
    simp only [sI, kN_succ, wa_sn, hS]
    all_goals rfl
  · have e : membS V (tN x) y m = payV V (vS V m) (tN x) := by
      unfold membS
      rw [if_pos q2]
    refine J_c (ih q1 (some (.int (vS V m)))) ?_
    rw [es, e]
    simp only [sI, kN_succ, wa_sn, hS]
    all_goals rfl
theorem m_doubts {x y : Int32} (W : WW ad w h) (hK : wa w 81 = V) (hV : VOK V) (kk : KQ ad P w (doubtT V x y) (.int (doubtsV V (tN x) (tN y)))) : WP ga L xs (d + 4) 237 [.ref (ad 80), .int x, .int y] h P := by
  have hn := hV.n.2
  have hw := hV.w.2
  have e5 : wa w 81 5 = kI (wk V : Int) := by rw [hK]; exact hV.w.1
  have hS : ∀ j, wa w 81 (54 + j) = vS V j := fun j => by rw [hK]; rfl
  unfold doubtT doubtsV at kk
  have f0 : ∀ m, V (6 + 4 * m + 0) = vR V m := fun m => rfl
  have f1 : ∀ m, V (6 + 4 * m + 1) = vN V m := fun m => by unfold vN; congr 1; omega
  refine WP.enter kX7_doubts (Nat.le_of_ble_eq_true rfl) (fun J hJ => ?_)
  have b4 : ∀ h1, WW ad (sn w 80 4 (kI 0)) h1 → isMemV V x = true → isWkV V y = true → (vR V (tN x) = kI 7 ∨ vR V (tN x) = kI 8) → ∀ z1 z2 z3 z4 z5 z6, J 4 [some (.ref (ad 80)), some (.int x), some (.int y), z1, z2, z3, z4, z5, z6] [] h1 (0, 0) := fun h1 W1 hm hy hr z1 z2 z3 z4 z5 z6 => ?_
  · refine hJ 0 _ _ rfl _ _ _ _ (x_aload rfl (x_aload rfl (x_iload rfl (x_cv rfl (Nat.le_of_ble_eq_true rfl) (isO_W W (by decide) shp_80) (c7_isMember W hK hV (xk_go (x_br (fun q1 => have q1 := bI_eq0.mp q1; hJ 1 _ _ rfl _ _ _ _ (x_sipush (x_goto (hJ 2 _ _ rfl _ _ _ _ (w_puti W 7 4 (by decide) shp_80 rfl rfl (okI rfl) (fun h1 W1 => x_aload rfl (w_geti W1 7 4 (by decide) shp_80 rfl rfl (x_br (fun q2 => absurd (show kI (1) ≤ 0 from q2) (by decide)) (fun q2 => x_sipush (x_iret (nrwI _) ?_)))))))))) (fun q1 => have q1 := bI_ne0.mp q1; x_aload rfl (x_iload rfl (x_cv rfl (Nat.le_of_ble_eq_true rfl) (isO_W W (by decide) shp_80) (c7_isWeek W hK hV (xk_go (x_br (fun q3 => have q3 := bI_eq0.mp q3; hJ 1 _ _ rfl _ _ _ _ (x_sipush (x_goto (hJ 2 _ _ rfl _ _ _ _ (w_puti W 7 4 (by decide) shp_80 rfl rfl (okI rfl) (fun h2 W2 => x_aload rfl (w_geti W2 7 4 (by decide) shp_80 rfl rfl (x_br (fun q4 => absurd (show kI (1) ≤ 0 from q4) (by decide)) (fun q4 => x_sipush (x_iret (nrwI _) ?_)))))))))) (fun q3 => have q3 := bI_ne0.mp q3; x_sipush (x_goto (hJ 2 _ _ rfl _ _ _ _ (w_puti W 7 4 (by decide) shp_80 rfl rfl (okI rfl) (fun h3 W3 => x_aload rfl (w_geti W3 7 4 (by decide) shp_80 rfl rfl (x_br (fun q5 => hJ 3 _ _ rfl _ _ _ _ (x_aload rfl (x_iload rfl (x_sipush (x_cv rfl (Nat.le_of_ble_eq_true rfl) (isO_W W3 (by decide) shp_80) (c7_of W3 hK (isMem_m q1).1 rfl (by have := (isMem_m q1).2; omega) (by decide) (xk_go (x_sipush (x_br2 (fun q6 => have q6 := cy_eq q6; ?_) (fun q6 => have q6 := cn_eq q6; x_aload rfl (x_iload rfl (x_sipush (x_cv rfl (Nat.le_of_ble_eq_true rfl) (isO_W W3 (by decide) shp_80) (c7_of W3 hK (isMem_m q1).1 rfl (by have := (isMem_m q1).2; omega) (by decide) (xk_go (x_sipush (x_br2 (fun q7 => have q7 := cy_eq q7; ?_) (fun q7 => have q7 := cn_eq q7; x_sipush (x_iret (nrwI _) ?_))))))))))))))))))) (fun q5 => absurd (show kI (0) ≤ 0 by decide) q5)))))))))))))))))))))
    · rw [if_neg (fun z => by rw [z.1] at q1; cases q1)] at kk
      exact kk.go W1 kpM4 kfM4 rfl wn4 (fun h => by cases h)
    · rw [if_neg (fun z => by rw [z.2] at q3; cases q3)] at kk
      exact kk.go W2 kpM4 kfM4 rfl wn4 (fun h => by cases h)
    · exact b4 _ W3 q1 q3 (Or.inl q6) _ _ _ _ _ _
    · exact b4 _ W3 q1 q3 (Or.inr q7) _ _ _ _ _ _
    · rw [if_pos ⟨q1, q3⟩, if_pos ⟨q6, q7⟩] at kk
      exact kk.go W3 kpM4 kfM4 rfl wn4 (fun _ => rfl)
  obtain ⟨x1, x2⟩ := isMem_m hm
  obtain ⟨y1, y2⟩ := isWk_m hy
  rw [if_pos ⟨hm, hy⟩, if_neg (fun z => hr.elim z.1 z.2)] at kk
  have hset : sok (nm V) (vS V (tN y)) := hV.2.2 _ y2
  have hh9 : (seenG V false (wa (sn w 80 4 (kI 0)) 81 (54 + tN y)) (wn (sn w 80 4 (kI 0)) 80 18) (tN x)) = (pc (hatsV V (vS V (tN y)) (tN x)), wn w 80 18) := by
    rw [seen0_eq, pc_hats (by omega), wa_sn, hS]
    rfl
  have hpl : pc (hatsV V (vS V (tN y)) (tN x)) ≤ 12 := pc_le _
  have ews : sn (sn w 80 4 (kI 0)) 80 18 (wn w 80 18) = sn w 80 4 (kI 0) := sn_self (sn w 80 4 (kI 0)) 80 18
  have loop : ∀ h1, WW ad (sn w 80 4 (kI 0)) h1 → ∀ m, m ≤ pc (hatsV V (vS V (tN y)) (tN x)) + 1 → ∀ z, J 5 [some (.ref (ad 80)), some (.int x), some (.int y), some (.int (vS V (tN y))), some (.int (kI (pc (hatsV V (vS V (tN y)) (tN x)) : Int))), some (.int (sm (dbtS V (tN x) (vS V (tN y))) m)), some (.int (kI (bin (pc (hatsV V (vS V (tN y)) (tN x))) m : Int))), some (.int (kI (m : Int))), z] [] h1 (0, 0) := fun h1 W1 => up_ind (fun m hm9 ih z => ?_)
  · refine hJ 4 _ _ rfl _ _ _ _ (x_aload rfl (w_getr W1 7 0 (t := 81) (by decide) shp_80 rfl rfl rfl (x_sipush (x_iload rfl (x_iadd (w_iald W1 (54 + tN y) (by decide) shp_81 (by rw [y1, came_ix, ← y1]) (by omega) (by decide) (x_istore rfl (x_aload rfl (x_iload rfl (x_iload rfl (x_sipush (x_cv rfl (Nat.le_of_ble_eq_true rfl) (isO_W W1 (by decide) shp_80) (c7_seen (fog := false) W1 hK hV x1 (Nat.le_of_lt x2) (fun h2 W2 => xk_go (x_istore rfl (x_sipush (x_istore rfl (x_sipush (x_istore rfl (x_sipush (x_istore rfl (x_goto (?_)))))))))))))))))))))))
    rw [hh9, ews] at W2
    rw [hh9]
    have h9 := loop h2 W2 0 (Nat.zero_le _)
    refine J_c (h9 z6) ?_
    have bin0 : ∀ n, bin n 0 = 1 := fun n => by cases n <;> rfl
    simp only [sI, wa_sn, hS, bin0]
    rfl
  have hK1 : wa (sn w 80 4 (kI 0)) 81 = V := hK
  generalize hH : pc (hatsV V (vS V (tN y)) (tN x)) = H at *
  have es : sm (dbtS V (tN x) (vS V (tN y))) (m + 1) = sm (dbtS V (tN x) (vS V (tN y))) m + dbtS V (tN x) (vS V (tN y)) m := rfl
  have wst : m ≤ H → kI (bin H m : Int) * (kI (H : Int) - kI (m : Int)) / (kI (m : Int) + kI 1) = kI (bin H (m + 1) : Int) := fun hmH => by
    have h1 := bin_le H (by omega) m (by omega)
    have h2 : bin H m * (H - m) ≤ 924 * 12 := Nat.mul_le_mul h1 (by omega)
    rw [kI_sub, show ((H : Int) - (m : Int)) = ((H - m : Nat) : Int) by omega, kN_mul, kN_succ, kN_div (by omega) (by omega), bin_step H (by omega) m hmH]
  refine hJ 5 _ _ rfl _ _ _ _ (x_iload rfl (x_iload rfl (x_br2 (fun q1 => have q1 := gt_y rfl (by omega) q1; hJ 12 _ _ rfl _ _ _ _ (x_iload rfl (x_iret (nrwI _) ?_))) (fun q1 => have q1 := gt_n rfl (by omega) q1; x_aload rfl (x_iload rfl (x_sipush (x_cv rfl (Nat.le_of_ble_eq_true rfl) (isO_W W1 (by decide) shp_80) (c7_of W1 hK1 x1 rfl (by omega) (by decide) (xk_go (x_sipush (x_br2 (fun q2 => have q2 := cy_ne q2; hJ 7 _ _ rfl _ _ _ _ (x_iload rfl (x_aload rfl (x_iload rfl (x_sipush (x_cv rfl (Nat.le_of_ble_eq_true rfl) (isO_W W1 (by decide) shp_80) (c7_of W1 hK1 x1 rfl (by omega) (by decide) (xk_go (x_br2 (fun q3 => have q3 := cy_ne q3; hJ 8 _ _ rfl _ _ _ _ (x_sipush (x_goto (hJ 9 _ _ rfl _ _ _ _ (x_istore rfl (x_iload rfl (x_iload rfl (x_iload rfl (x_iload rfl (x_cs rfl (Nat.le_of_ble_eq_true rfl) (c7_has x1 (by omega) (xk_go (x_br2 (fun q4 => have q4 := cy_ne q4; hJ 10 _ _ rfl _ _ _ _ (x_sipush (x_goto (hJ 11 _ _ rfl _ _ _ _ (x_iadd (x_istore rfl (x_iload rfl (x_iload rfl (x_iload rfl (x_isub (x_imul (x_iload rfl (x_sipush (x_iadd (x_idiv (fun z => by rw [kN_succ, kN_eq0 (by omega)] at z; omega) (x_istore rfl (x_iinc rfl rfl (x_goto (?_))))))))))))))))))) (fun q4 => have q4 := cn_ne q4; x_iload rfl (x_goto (hJ 11 _ _ rfl _ _ _ _ (x_iadd (x_istore rfl (x_iload rfl (x_iload rfl (x_iload rfl (x_isub (x_imul (x_iload rfl (x_sipush (x_iadd (x_idiv (fun z => by rw [kN_succ, kN_eq0 (by omega)] at z; omega) (x_istore rfl (x_iinc rfl rfl (x_goto (?_))))))))))))))))))))))))))))))) (fun q3 => have q3 := cn_ne q3; x_sipush (x_goto (hJ 9 _ _ rfl _ _ _ _ (x_istore rfl (x_iload rfl (x_iload rfl (x_iload rfl (x_iload rfl (x_cs rfl (Nat.le_of_ble_eq_true rfl) (c7_has x1 (by omega) (xk_go (x_br2 (fun q5 => have q5 := cy_ne q5; hJ 10 _ _ rfl _ _ _ _ (x_sipush (x_goto (hJ 11 _ _ rfl _ _ _ _ (x_iadd (x_istore rfl (x_iload rfl (x_iload rfl (x_iload rfl (x_isub (x_imul (x_iload rfl (x_sipush (x_iadd (x_idiv (fun z => by rw [kN_succ, kN_eq0 (by omega)] at z; omega) (x_istore rfl (x_iinc rfl rfl (x_goto (?_))))))))))))))))))) (fun q5 => have q5 := cn_ne q5; x_iload rfl (x_goto (hJ 11 _ _ rfl _ _ _ _ (x_iadd (x_istore rfl (x_iload rfl (x_iload rfl (x_iload rfl (x_isub (x_imul (x_iload rfl (x_sipush (x_iadd (x_idiv (fun z => by rw [kN_succ, kN_eq0 (by omega)] at z; omega) (x_istore rfl (x_iinc rfl rfl (x_goto (?_))))))))))))))))))))))))))))))))))))))) (fun q2 => have q2 := cn_ne q2; x_iload rfl (x_aload rfl (x_iload rfl (x_sipush (x_cv rfl (Nat.le_of_ble_eq_true rfl) (isO_W W1 (by decide) shp_80) (c7_of W1 hK1 x1 rfl (by omega) (by decide) (xk_go (x_br2 (fun q6 => have q6 := cy_ge q6; hJ 6 _ _ rfl _ _ _ _ (x_sipush (x_goto (hJ 9 _ _ rfl _ _ _ _ (x_istore rfl (x_iload rfl (x_iload rfl (x_iload rfl (x_iload rfl (x_cs rfl (Nat.le_of_ble_eq_true rfl) (c7_has x1 (by omega) (xk_go (x_br2 (fun q7 => have q7 := cy_ne q7; hJ 10 _ _ rfl _ _ _ _ (x_sipush (x_goto (hJ 11 _ _ rfl _ _ _ _ (x_iadd (x_istore rfl (x_iload rfl (x_iload rfl (x_iload rfl (x_isub (x_imul (x_iload rfl (x_sipush (x_iadd (x_idiv (fun z => by rw [kN_succ, kN_eq0 (by omega)] at z; omega) (x_istore rfl (x_iinc rfl rfl (x_goto (?_))))))))))))))))))) (fun q7 => have q7 := cn_ne q7; x_iload rfl (x_goto (hJ 11 _ _ rfl _ _ _ _ (x_iadd (x_istore rfl (x_iload rfl (x_iload rfl (x_iload rfl (x_isub (x_imul (x_iload rfl (x_sipush (x_iadd (x_idiv (fun z => by rw [kN_succ, kN_eq0 (by omega)] at z; omega) (x_istore rfl (x_iinc rfl rfl (x_goto (?_))))))))))))))))))))))))))))))) (fun q6 => have q6 := cn_ge q6; x_sipush (x_goto (hJ 9 _ _ rfl _ _ _ _ (x_istore rfl (x_iload rfl (x_iload rfl (x_iload rfl (x_iload rfl (x_cs rfl (Nat.le_of_ble_eq_true rfl) (c7_has x1 (by omega) (xk_go (x_br2 (fun q8 => have q8 := cy_ne q8; hJ 10 _ _ rfl _ _ _ _ (x_sipush (x_goto (hJ 11 _ _ rfl _ _ _ _ (x_iadd (x_istore rfl (x_iload rfl (x_iload rfl (x_iload rfl (x_isub (x_imul (x_iload rfl (x_sipush (x_iadd (x_idiv (fun z => by rw [kN_succ, kN_eq0 (by omega)] at z; omega) (x_istore rfl (x_iinc rfl rfl (x_goto (?_))))))))))))))))))) (fun q8 => have q8 := cn_ne q8; x_iload rfl (x_goto (hJ 11 _ _ rfl _ _ _ _ (x_iadd (x_istore rfl (x_iload rfl (x_iload rfl (x_iload rfl (x_isub (x_imul (x_iload rfl (x_sipush (x_iadd (x_idiv (fun z => by rw [kN_succ, kN_eq0 (by omega)] at z; omega) (x_istore rfl (x_iinc rfl rfl (x_goto (?_)))))))))))))))))))))))))))))))))))))))))))))))))
  · have e : m = H + 1 := by omega
    subst e
    exact kk.go W1 kpM4 kfM4 rfl wn4 (fun _ => rfl)
  · rw [f0] at q2
    have eb : bySee V (tN x) (kI (m : Int)) = false := by
      unfold bySee
      rw [f1] at q3
      rw [if_neg q2, decide_eq_false q3]
    have e : dbtS V (tN x) (vS V (tN y)) m = kI 0 := by
      unfold dbtS
      rw [eb, if_neg (fun z => q4 (by rw [← z]; rfl))]
    refine J_c (ih (by omega) (some (.int (kI 0)))) ?_
    rw [es, e]
    simp only [sI, kN_succ]
    first | rw [← kN_succ, wst (by omega)] | (rw [← kN_succ]; simp only [wst (show m ≤ H by omega)])
  · rw [f0] at q2
    have eb : bySee V (tN x) (kI (m : Int)) = false := by
      unfold bySee
      rw [f1] at q3
      rw [if_neg q2, decide_eq_false q3]
    have e9 : false = hb (vS V (tN y)) (tN x) := by
      cases h9 : hb (vS V (tN y)) (tN x)
      · rw [h9] at q4
      · rw [h9] at q4; exact absurd q4 (by decide)
    have e : dbtS V (tN x) (vS V (tN y)) m = kI (bin H m : Int) := by
      unfold dbtS
      rw [eb, if_pos e9, hH]
    refine J_c (ih (by omega) (some (.int (kI 0)))) ?_
    rw [es, e]
    simp only [sI, kN_succ]
    first | rw [← kN_succ, wst (by omega)] | (rw [← kN_succ]; simp only [wst (show m ≤ H by omega)])
  · rw [f0] at q2
    have eb : bySee V (tN x) (kI (m : Int)) = true := by
      unfold bySee
      rw [f1] at q3
      rw [if_neg q2, decide_eq_true q3]
    have e : dbtS V (tN x) (vS V (tN y)) m = kI 0 := by
      unfold dbtS
      rw [eb, if_neg (fun z => q5 (by rw [← z]; rfl))]
    refine J_c (ih (by omega) (some (.int (kI 1)))) ?_
    rw [es, e]
    simp only [sI, kN_succ]
    first | rw [← kN_succ, wst (by omega)] | (rw [← kN_succ]; simp only [wst (show m ≤ H by omega)])
  · rw [f0] at q2
    have eb : bySee V (tN x) (kI (m : Int)) = true := by
      unfold bySee
      rw [f1] at q3
      rw [if_neg q2, decide_eq_true q3]
    have e9 : true = hb (vS V (tN y)) (tN x) := by
      cases h9 : hb (vS V (tN y)) (tN x)
      · rw [h9] at q5; exact absurd q5 (by decide)
      · rw [h9] at q5
    have e : dbtS V (tN x) (vS V (tN y)) m = kI (bin H m : Int) := by
      unfold dbtS
      rw [eb, if_pos e9, hH]
    refine J_c (ih (by omega) (some (.int (kI 1)))) ?_
    rw [es, e]
    simp only [sI, kN_succ]
    first | rw [← kN_succ, wst (by omega)] | (rw [← kN_succ]; simp only [wst (show m ≤ H by omega)])
  · rw [f0] at q2
    have eb : bySee V (tN x) (kI (m : Int)) = false := by
      unfold bySee
      rw [f1] at q6
      rw [if_pos q2, decide_eq_false (Int32.not_lt.mpr q6)]
    have e : dbtS V (tN x) (vS V (tN y)) m = kI 0 := by
      unfold dbtS
      rw [eb, if_neg (fun z => q7 (by rw [← z]; rfl))]
    refine J_c (ih (by omega) (some (.int (kI 0)))) ?_
    rw [es, e]
    simp only [sI, kN_succ]
    first | rw [← kN_succ, wst (by omega)] | (rw [← kN_succ]; simp only [wst (show m ≤ H by omega)])
  · rw [f0] at q2
    have eb : bySee V (tN x) (kI (m : Int)) = false := by
      unfold bySee
      rw [f1] at q6
      rw [if_pos q2, decide_eq_false (Int32.not_lt.mpr q6)]
    have e9 : false = hb (vS V (tN y)) (tN x) := by
      cases h9 : hb (vS V (tN y)) (tN x)
      · rw [h9] at q7
      · rw [h9] at q7; exact absurd q7 (by decide)
    have e : dbtS V (tN x) (vS V (tN y)) m = kI (bin H m : Int) := by
      unfold dbtS
      rw [eb, if_pos e9, hH]
    refine J_c (ih (by omega) (some (.int (kI 0)))) ?_
    rw [es, e]
    simp only [sI, kN_succ]
    first | rw [← kN_succ, wst (by omega)] | (rw [← kN_succ]; simp only [wst (show m ≤ H by omega)])
  · rw [f0] at q2
    have eb : bySee V (tN x) (kI (m : Int)) = true := by
      unfold bySee
      rw [f1] at q6
      rw [if_pos q2, decide_eq_true q6]
    have e : dbtS V (tN x) (vS V (tN y)) m = kI 0 := by
      unfold dbtS
      rw [eb, if_neg (fun z => q8 (by rw [← z]; rfl))]
    refine J_c (ih (by omega) (some (.int (kI 1)))) ?_
    rw [es, e]
    simp only [sI, kN_succ]
    first | rw [← kN_succ, wst (by omega)] | (rw [← kN_succ]; simp only [wst (show m ≤ H by omega)])
  · rw [f0] at q2
    have eb : bySee V (tN x) (kI (m : Int)) = true := by
      unfold bySee
      rw [f1] at q6
      rw [if_pos q2, decide_eq_true q6]
    have e9 : true = hb (vS V (tN y)) (tN x) := by
      cases h9 : hb (vS V (tN y)) (tN x)
      · rw [h9] at q8; exact absurd q8 (by decide)
      · rw [h9] at q8
    have e : dbtS V (tN x) (vS V (tN y)) m = kI (bin H m : Int) := by
      unfold dbtS
      rw [eb, if_pos e9, hH]
    refine J_c (ih (by omega) (some (.int (kI 1)))) ?_
    rw [es, e]
    simp only [sI, kN_succ]
    first | rw [← kN_succ, wst (by omega)] | (rw [← kN_succ]; simp only [wst (show m ≤ H by omega)])
end M1
