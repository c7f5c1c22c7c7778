/-! ===== the model's reader: words, numbers, refusals ===== -/
theorem km_eq : ∀ k, k < 5 → ∀ j, j < 5 → (km k = km j ↔ k = j) := by decide
theorem km_lt : ∀ k, k < 5 → km k < 5 := by decide
theorem tok_eq {x : Int32} {k j : Nat} (hx : x = kI (km k : Int)) (hk : k < 5) (hj : j < 5) : x = kI (km j : Int) ↔ k = j := by
  have h1 := km_lt k hk
  have h2 := km_lt j hj
  rw [hx, kN_inj (by omega) (by omega), km_eq k hk j hj]
theorem RmC.keep {w w' : Wst} {τ : Nat → Nat} {n : Nat} {t : TK} (h : RmC w τ n t) (hn : ∀ j, j < 12 → wn w' 80 j = wn w 80 j) (hs : wa w' 85 = wa w 85) : RmC w' τ n t := by
  unfold RmC RmA
  rw [hn 7 (by omega), hn 8 (by omega), hn 9 (by omega), hn 10 (by omega), hn 11 (by omega), hs]
  exact h
section W1
variable {τ : Nat → Nat} {n : Nat} {t : TK}
variable {ga : Nat → Nat} {L : Nat} {xs : Nat → Int32} {d : Nat} {h : ac_H} {P : ac_P} {ad : Nat → Nat} {w : Wst} {V : VT}
theorem m_isWord {x : Nat} (W : WW ad w h) (hd : RmC w τ n t) (ht : tkOK τ n t) (hn7 : n ≤ 700) (hτ : ∀ k, τ k < 256) (hb : wn w 80 12 = 0) (hx : x < 17) (hP : P (.inl (some (.int (bI (isW τ t x))))) h) : WP ga L xs (d + 1) 151 [.ref (ad 80), .ref (ga (3 + x))] h P := by
  have hlen : (sl x).length < 100 := (sl_ok x hx).2.1
  have hk5 := ht.2.2.1
  have hes := ht.1
  have hen := ht.2.1
  have e89 : wn w 80 8 - wn w 80 9 = kI ((t.2.1 - t.1 : Nat) : Int) := by
    rw [hd.1.2.1, hd.2.1, kI_sub]
    exact congrArg kI (by omega)
  refine WP.enter kX7_isWord (Nat.le_of_ble_eq_true rfl) (fun J hJ => ?_)
  have loop : ∀ m, m ≤ (sl x).length → ∀ f : Bool, (f = false → isW τ t x = false) → (f = true → t.2.2 = 1 ∧ t.2.1 - t.1 = (sl x).length ∧ ∀ i, i < m → kI (τ (t.1 + i) : Int) = (sl x).getD i 0) → J 3 [some (.ref (ad 80)), some (.ref (ga (3 + x))), some (.int (bI f)), some (.int (kI (m : Int)))] [] h (0, 0) := up_ind (fun m hm ih f hf hg => ?_)
  · refine hJ 0 _ _ rfl _ _ _ _ (x_aload rfl (w_geti W 7 12 (by decide) shp_80 rfl rfl (x_br (fun q1 => have q1 := cy_ne q1; hJ 1 _ _ rfl _ _ _ _ (x_sipush (x_goto (hJ 2 _ _ rfl _ _ _ _ (x_istore rfl (x_sipush (x_istore rfl (x_goto (?_))))))))) (fun q1 => have q1 := cn_ne q1; x_aload rfl (w_geti W 7 10 (by decide) shp_80 rfl rfl (x_sipush (x_br2 (fun q2 => have q2 := cy_ne q2; hJ 1 _ _ rfl _ _ _ _ (x_sipush (x_goto (hJ 2 _ _ rfl _ _ _ _ (x_istore rfl (x_sipush (x_istore rfl (x_goto (?_))))))))) (fun q2 => have q2 := cn_ne q2; x_aload rfl (w_geti W 7 8 (by decide) shp_80 rfl rfl (x_aload rfl (w_geti W 7 9 (by decide) shp_80 rfl rfl (x_isub (x_aload rfl (x_slen hx (Nat.le_of_ble_eq_true rfl) (x_br2 (fun q3 => have q3 := cy_ne q3; hJ 1 _ _ rfl _ _ _ _ (x_sipush (x_goto (hJ 2 _ _ rfl _ _ _ _ (x_istore rfl (x_sipush (x_istore rfl (x_goto (?_))))))))) (fun q3 => have q3 := cn_ne q3; x_sipush (x_goto (hJ 2 _ _ rfl _ _ _ _ (x_istore rfl (x_sipush (x_istore rfl (x_goto (?_)))))))))))))))))))))))
    · exact absurd hb q1
    · have q2 : ¬ wn w 80 10 = kI (km 1 : Int) := q2
      rw [tok_eq hd.2.2.1 hk5 (by omega)] at q2
      exact J_c (loop 0 (Nat.zero_le _) false (fun _ => by
        unfold isW
        rw [decide_eq_false (fun z => q2 z.1), Bool.false_and]) (fun z => by cases z)) rfl
    · rw [e89, ofN_kI, kinj5 (by omega) (by omega)] at q3
      exact J_c (loop 0 (Nat.zero_le _) false (fun _ => by
        unfold isW
        rw [decide_eq_false (fun z => q3 z.2), Bool.false_and]) (fun z => by cases z)) rfl
    · have q2 : wn w 80 10 = kI (km 1 : Int) := q2
      rw [tok_eq hd.2.2.1 hk5 (by omega)] at q2
      rw [e89, ofN_kI, kinj5 (by omega) (by omega)] at q3
      exact J_c (loop 0 (Nat.zero_le _) true (fun z => by cases z) (fun _ => ⟨q2, q3, fun i hi => by omega⟩)) rfl
  have hch : m < (sl x).length → f = true → (wa w 85 (t.1 + m) = (sl x).getD m 0 ↔ kI (τ (t.1 + m) : Int) = (sl x).getD m 0) := fun h9 hf9 => by
    rw [hd.1.2.2 _ (by have := hg hf9; omega)]
  refine hJ 3 _ _ rfl _ _ _ _ (x_iload rfl (x_br (fun q1 => have q1 := bI_eq0.mp q1; hJ 6 _ _ rfl _ _ _ _ (x_iload rfl (x_iret (by first | exact nrwB _ | rfl | decide) ?_))) (fun q1 => have q1 := bI_ne0.mp q1; x_iload rfl (x_aload rfl (x_slen hx (Nat.le_of_ble_eq_true rfl) (x_br2 (fun q2 => have q2 := ge_y (ofN_kI _) (by omega) q2; hJ 6 _ _ rfl _ _ _ _ (x_iload rfl (x_iret (by first | exact nrwB _ | rfl | decide) ?_))) (fun q2 => have q2 := ge_n (ofN_kI _) (by omega) q2; x_aload rfl (w_getr W 7 5 (t := 85) (by decide) shp_80 rfl rfl rfl (x_aload rfl (w_geti W 7 9 (by decide) shp_80 rfl rfl (x_iload rfl (x_iadd (w_iald W (t.1 + m) (by decide) shp_85 (by rw [hd.2.1]; exact kN_add _ _) (by have := hg q1; omega) (by decide) (x_aload rfl (x_iload rfl (x_schr hx rfl q2 (Nat.le_of_ble_eq_true rfl) (x_br2 (fun q3 => have q3 := cy_ne q3; hJ 4 _ _ rfl _ _ _ _ (x_sipush (x_goto (hJ 5 _ _ rfl _ _ _ _ (x_istore rfl (x_iinc rfl rfl (x_goto (?_)))))))) (fun q3 => have q3 := cn_ne q3; x_sipush (x_goto (hJ 5 _ _ rfl _ _ _ _ (x_istore rfl (x_iinc rfl rfl (x_goto (?_))))))))))))))))))))))))
  · rw [hf q1] at hP
    rw [q1]
    exact hP
  · have g := hg q1
    have e : isW τ t x = true := by
      unfold isW
      rw [decide_eq_true ⟨g.1, g.2.1⟩, decide_eq_true (fun i hi => g.2.2 i (by omega))]
      rfl
    rw [e] at hP
    rw [q1]
    exact hP
  · rw [hch q2 q1] at q3
    exact J_c (ih q2 false (fun _ => by
      unfold isW
      rw [decide_eq_false (p := ∀ i, i < (sl x).length → kI (τ (t.1 + i) : Int) = (sl x).getD i 0) (fun z => q3 (z m q2)), Bool.and_false]) (fun z => by cases z)) (by simp only [sI, kN_succ] <;> rfl)
  · rw [hch q2 q1] at q3
    have g := hg q1
    refine J_c (ih q2 true (fun z => by cases z) (fun _ => ⟨g.1, g.2.1, fun i hi => ?_⟩)) (by simp only [sI, kN_succ] <;> rfl)
    by_cases ei : i = m
    · rw [ei]; exact q3
    · exact g.2.2 i (by omega)
theorem m_isWordB {x : Nat} (W : WW ad w h) (hb : ¬ wn w 80 12 = 0) (hP : P (.inl (some (.int (bI false)))) h) : WP ga L xs (d + 1) 151 [.ref (ad 80), .ref (ga (3 + x))] h P := by
  refine WP.enter kX7_isWord (Nat.le_of_ble_eq_true rfl) (fun J hJ => ?_)
  refine hJ 0 _ _ rfl _ _ _ _ (x_aload rfl (w_geti W 7 12 (by decide) shp_80 rfl rfl (x_br (fun q1 => have q1 := cy_ne q1; hJ 1 _ _ rfl _ _ _ _ (x_sipush (x_goto (hJ 2 _ _ rfl _ _ _ _ (x_istore rfl (x_sipush (x_istore rfl (x_goto (hJ 3 _ _ rfl _ _ _ _ (x_iload rfl (x_br (fun q2 => hJ 6 _ _ rfl _ _ _ _ (x_iload rfl (x_iret (by first | exact nrwB _ | rfl | decide) ?_))) (fun q2 => absurd (show kI (0) = 0 by decide) q2)))))))))))) (fun q1 => absurd (cn_ne q1) hb))))
  exact hP
theorem m_took {x : Nat} (W : WW ad w h) (hd : RmC w τ n t) (ht : tkOK τ n t) (hn7 : n ≤ 700) (hτ : ∀ k, τ k < 256) (hb : wn w 80 12 = 0) (hx : x < 17) (k0 : isW τ t x = false → P (.inl (some (.int (bI false)))) h) (k1 : isW τ t x = true → ∀ h' w', WW ad w' h' → kB lrd w w' → RmC w' τ n (tk τ n t.2.1) → P (.inl (some (.int (bI true)))) h') : WP ga L xs (d + 3) 152 [.ref (ad 80), .ref (ga (3 + x))] h P := by
  refine WP.enter kX7_took (Nat.le_of_ble_eq_true rfl) (fun J hJ => ?_)
  refine hJ 0 _ _ rfl _ _ _ _ (x_aload rfl (x_aload rfl (x_cv rfl (Nat.le_of_ble_eq_true rfl) (isO_W W (by decide) shp_80) (m_isWord W hd ht hn7 hτ hb hx (xk_go (x_istore rfl (x_iload rfl (x_br (fun q1 => have q1 := bI_eq0.mp q1; hJ 1 _ _ rfl _ _ _ _ (x_iload rfl (x_iret (by first | exact nrwB _ | rfl | decide) ?_))) (fun q1 => have q1 := bI_ne0.mp q1; x_aload rfl (x_cv rfl (Nat.le_of_ble_eq_true rfl) (isO_W W (by decide) shp_80) (m_reads W hd.1 ht.2.1 hn7 hτ (fun h1 w1 W1 e1 r1 => xk_v (x_goto (hJ 1 _ _ rfl _ _ _ _ (x_iload rfl (x_iret (by first | exact nrwB _ | rfl | decide) ?_))))))))))))))))
  · rw [q1]
    exact k0 q1
  · rw [q1]
    exact k1 q1 h1 w1 W1 e1 r1
theorem m_tookB {x : Nat} (W : WW ad w h) (hb : ¬ wn w 80 12 = 0) (hP : P (.inl (some (.int (bI false)))) h) : WP ga L xs (d + 2) 152 [.ref (ad 80), .ref (ga (3 + x))] h P := by
  refine WP.enter kX7_took (Nat.le_of_ble_eq_true rfl) (fun J hJ => ?_)
  refine hJ 0 _ _ rfl _ _ _ _ (x_aload rfl (x_aload rfl (x_cv rfl (Nat.le_of_ble_eq_true rfl) (isO_W W (by decide) shp_80) (m_isWordB W hb (xk_go (x_istore rfl (x_iload rfl (x_br (fun q1 => have q1 := bI_eq0.mp q1; hJ 1 _ _ rfl _ _ _ _ (x_iload rfl (x_iret (by first | exact nrwB _ | rfl | decide) ?_))) (fun q1 => absurd (bI_ne0.mp q1) (by decide))))))))))
  exact hP
theorem m_blames {x : Int32} {f : Ft} (W : WW ad w h) (hd : RmC w τ n t) (ht : tkOK τ n t) (hn7 : n ≤ 700) (hτ : ∀ k, τ k < 256) (hb : wn w 80 12 = 0) (hx : kI (f.1 : Int) = if t.2.2 = 0 then kI 1 else x) (hf : f.2 = t.1) (hf4 : 1 ≤ f.1 ∧ f.1 ≤ 4) (kk : ∀ h' w', WW ad w' h' → kB [12, 13] w w' → ¬ wn w' 80 12 = 0 → wn w' 80 12 = kI (f.1 : Int) → wn w' 80 13 = kI (f.2 : Int) → P (.inl none) h') : WP ga L xs (d + 1) 150 [.ref (ad 80), .int x] h P := by
  have hk5 := ht.2.2.1
  have hn0 : ¬ kI (f.1 : Int) = 0 := fun z => by
    have := (kN_inj (a := f.1) (b := 0) (by omega) (by omega)).mp z
    omega
  have h40 : wn w 80 10 = kI 4 ↔ t.2.2 = 0 := tok_eq (j := 0) hd.2.2.1 hk5 (by omega)
  have hfin : ∀ h' y, WW ad (sn (sn w 80 12 y) 80 13 (wn w 80 9)) h' → y = kI (f.1 : Int) → P (.inl none) h' := fun h' y W' hy => by
    refine kk h' _ W' ((kB_sn (by decide)).trans (kB_sn (by decide))) ?_ ?_ ?_
    · rw [wn_sn, if_neg (fun z => by cases z.2), wn_sn, if_pos ⟨rfl, rfl⟩, hy]; exact hn0
    · rw [wn_sn, if_neg (fun z => by cases z.2), wn_sn, if_pos ⟨rfl, rfl⟩, hy]
    · rw [wn_sn, if_pos ⟨rfl, rfl⟩, hd.2.1, hf]
  refine WP.enter kX7_blames (Nat.le_of_ble_eq_true rfl) (fun J hJ => ?_)
  refine hJ 0 _ _ rfl _ _ _ _ (x_aload rfl (w_geti W 7 12 (by decide) shp_80 rfl rfl (x_br (fun q1 => have q1 := cy_eq q1; hJ 1 _ _ rfl _ _ _ _ (x_aload rfl (x_aload rfl (w_geti W 7 10 (by decide) shp_80 rfl rfl (x_sipush (x_br2 (fun q2 => have q2 := cy_ne q2; hJ 2 _ _ rfl _ _ _ _ (x_iload rfl (x_goto (hJ 3 _ _ rfl _ _ _ _ (w_puti W 7 12 (by decide) shp_80 rfl rfl (okI rfl) (fun h1 W1 => x_aload rfl (x_aload rfl (w_geti W1 7 9 (by decide) shp_80 rfl rfl (w_puti W1 7 13 (by decide) shp_80 rfl rfl (okI rfl) (fun h2 W2 => x_vret rfl ?_)))))))))) (fun q2 => have q2 := cn_ne q2; x_sipush (x_goto (hJ 3 _ _ rfl _ _ _ _ (w_puti W 7 12 (by decide) shp_80 rfl rfl (okI rfl) (fun h3 W3 => x_aload rfl (x_aload rfl (w_geti W3 7 9 (by decide) shp_80 rfl rfl (w_puti W3 7 13 (by decide) shp_80 rfl rfl (okI rfl) (fun h4 W4 => x_vret rfl ?_))))))))))))))) (fun q1 => absurd hb (cn_eq q1)))))
  · rw [h40] at q2
    exact hfin h2 _ W2 (by rw [hx, if_neg q2])
  · rw [h40] at q2
    exact hfin h4 _ W4 (by rw [hx, if_pos q2])
theorem m_blamesB {x : Int32} (W : WW ad w h) (hb : ¬ wn w 80 12 = 0) (hP : P (.inl none) h) : WP ga L xs (d + 1) 150 [.ref (ad 80), .int x] h P := by
  refine WP.enter kX7_blames (Nat.le_of_ble_eq_true rfl) (fun J hJ => ?_)
  refine hJ 0 _ _ rfl _ _ _ _ (x_aload rfl (w_geti W 7 12 (by decide) shp_80 rfl rfl (x_br (fun q1 => absurd (cy_eq q1) hb) (fun q1 => have q1 := cn_eq q1; x_vret rfl ?_))))
  exact hP
end W1
