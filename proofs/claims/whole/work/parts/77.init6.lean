/-! ===== the making of the world: the class ===== -/
theorem nkc {k : Nat} {K : List Nat} (h : K.contains k = false) : k ∉ K := fun z => by
  rw [List.contains_iff_mem.mpr z] at h
  cases h
theorem nkb {n : Nat} {K : List Nat} (h : K.all (fun k => Nat.blt k n) = true) : ∀ i, n ≤ i → i ∉ K := fun i hi z => by
  have g := List.all_eq_true.mp h i z
  simp at g
  omega
theorem nkr {a n : Nat} {K : List Nat} (h : (List.range n).all (fun j => !(K.contains (a + j))) = true) : ∀ j, j < n → a + j ∉ K := fun j hj z => by
  have g := List.all_eq_true.mp h j (List.mem_range.mpr hj)
  rw [List.contains_iff_mem.mpr z] at g
  cases g
theorem nkq {a b n : Nat} {K : List Nat} (hb : b = a + n) (h : (List.range n).all (fun j => !(K.contains (a + j))) = true) : ∀ i, i < b → a ≤ i → i ∉ K := fun i h1 h2 => by
  have := nkr h (i - a) (by omega)
  rw [show a + (i - a) = i by omega] at this
  exact this
theorem fn3 {F : Nat → Nat} {x0 x1 x2 : Nat} (h0 : F 0 = x0) (h1 : F 1 = x1) (h2 : F 2 = x2) : va_up (va_up (va_up (fun _ => none) 0 (some x0)) 1 (some x1)) 2 (some x2) = fun j => if j < 3 then some (F j) else none := funext fun j => by
  unfold va_up
  by_cases e2 : j = 2
  · subst e2
    rw [if_pos rfl, if_pos (by omega), h2]
  rw [if_neg e2]
  by_cases e1 : j = 1
  · subst e1
    rw [if_pos rfl, if_pos (by omega), h1]
  rw [if_neg e1]
  by_cases e0 : j = 0
  · subst e0
    rw [if_pos rfl, if_pos (by omega), h0]
  rw [if_neg e0, if_neg (by omega)]
theorem fn4 {F : Nat → Nat} {x0 x1 x2 x3 : Nat} (h0 : F 0 = x0) (h1 : F 1 = x1) (h2 : F 2 = x2) (h3 : F 3 = x3) : va_up (va_up (va_up (va_up (fun _ => none) 0 (some x0)) 1 (some x1)) 2 (some x2)) 3 (some x3) = fun j => if j < 4 then some (F j) else none := by
  rw [fn3 h0 h1 h2]
  funext j
  unfold va_up
  by_cases e2 : j = 3
  · subst e2
    rw [if_pos rfl, if_pos (by omega), h3]
  rw [if_neg e2]
  show (if j < 3 then some (F j) else none) = if j < 4 then some (F j) else none
  by_cases e : j < 3
  · rw [if_pos e, if_pos (by omega)]
  · rw [if_neg e, if_neg (by omega)]
theorem PW.at2 {l : List (Nat × Nat)} {av : List (Nat × ac_C)} {w : Wst} {h : ac_H} {x : Nat} {c : ac_C} {a : Nat × ac_C} (W : PW l (a :: (x, c) :: av) w h) : h x = some c := W.2.2.2.1 (x, c) (List.mem_cons_of_mem _ List.mem_cons_self)
theorem PW.at3 {l : List (Nat × Nat)} {av : List (Nat × ac_C)} {w : Wst} {h : ac_H} {x : Nat} {c : ac_C} {a b : Nat × ac_C} (W : PW l (a :: b :: (x, c) :: av) w h) : h x = some c := W.2.2.2.1 (x, c) (List.mem_cons_of_mem _ (List.mem_cons_of_mem _ List.mem_cons_self))
theorem PW.rot {l : List (Nat × Nat)} {av : List (Nat × ac_C)} {w : Wst} {h : ac_H} {a b c : Nat × ac_C} (W : PW l (a :: b :: c :: av) w h) : PW l (b :: c :: a :: av) w h := by
  obtain ⟨n1, n2, hl, ha, hc⟩ := W
  have n2' := List.nodup_append.mp n2
  have pm : (b :: c :: a :: av).map (·.1) |>.Perm ((a :: b :: c :: av).map (·.1)) := by
    refine List.Perm.map _ ?_
    exact ((List.Perm.cons b (List.Perm.swap a c av)).trans (List.Perm.swap a b (c :: av)))
  refine ⟨n1, List.nodup_append.mpr ⟨n2'.1, pm.nodup_iff.mpr n2'.2.1, fun x h1 y h2 => n2'.2.2 x h1 y (pm.mem_iff.mp h2)⟩, hl, fun e he => ha e ?_, hc⟩
  simp only [List.mem_cons] at he ⊢
  rcases he with h2 | h2 | h2 | h2
  · exact Or.inr (Or.inl h2)
  · exact Or.inr (Or.inr (Or.inl h2))
  · exact Or.inl h2
  · exact Or.inr (Or.inr (Or.inr h2))
section W1
variable {ga : Nat → Nat} {L : Nat} {xs : Nat → Int32} {d : Nat} {h : ac_H} {P : ac_P}
set_option maxRecDepth 100000 in
theorem i_class {a : Nat} (W : PW [] [(a, .inr (6, dflt 6))] w00 h) (kk : ∀ l h', PW l [] w00 h' → (List.range 75).all (fun k => (l.map (·.1)).contains k == ((k == 0) || (Nat.ble 10 k))) = true → (∀ i, 75 ≤ i → i ∉ l.map (·.1)) → adl l 0 = a → P (.inl none) h') : WP ga L xs (d + 2) 70 [.ref a] h P := by
  refine WP.enter kX6_init (Nat.le_of_ble_eq_true rfl) (fun J hJ => ?_)
  refine hJ 0 _ _ rfl _ _ _ _ (x_aload rfl (n_mex (Nat.le_of_ble_eq_true rfl) (x_aload rfl (n_new W ⟨Nat.le_of_ble_eq_true rfl, Nat.le_of_ble_eq_true rfl⟩ (fun n1 h1 W1 => x_dupr (n_ini rfl (Nat.le_of_ble_eq_true rfl) ⟨Nat.le_of_ble_eq_true rfl, Nat.le_of_ble_eq_true rfl⟩ (i_club (i := 10) (by decide) W1 (nkr rfl) (fun a2 b2 c2 d2 h2 W2 => xk_v (n_pf W2 ⟨rfl, rfl⟩ rfl (Nat.le_of_ble_eq_true rfl) (fun h3 W3 => x_aload rfl (n_new W3 ⟨Nat.le_of_ble_eq_true rfl, Nat.le_of_ble_eq_true rfl⟩ (fun n4 h4 W4 => x_dupr (n_ini rfl (Nat.le_of_ble_eq_true rfl) ⟨Nat.le_of_ble_eq_true rfl, Nat.le_of_ble_eq_true rfl⟩ (i_club (i := 15) (by decide) W4 (nkr rfl) (fun a5 b5 c5 d5 h5 W5 => xk_v (n_pf W5 ⟨rfl, rfl⟩ rfl (Nat.le_of_ble_eq_true rfl) (fun h6 W6 => x_aload rfl (n_new W6 ⟨Nat.le_of_ble_eq_true rfl, Nat.le_of_ble_eq_true rfl⟩ (fun n7 h7 W7 => x_dupr (n_ini rfl (Nat.le_of_ble_eq_true rfl) ⟨Nat.le_of_ble_eq_true rfl, Nat.le_of_ble_eq_true rfl⟩ (i_club (i := 20) (by decide) W7 (nkr rfl) (fun a8 b8 c8 d8 h8 W8 => xk_v (n_pf W8 ⟨rfl, rfl⟩ rfl (Nat.le_of_ble_eq_true rfl) (fun h9 W9 => x_aload rfl (n_new W9 ⟨Nat.le_of_ble_eq_true rfl, Nat.le_of_ble_eq_true rfl⟩ (fun n10 h10 W10 => x_dupr (x_aload rfl (n_gf W10.at2 rfl rfl (n_ini rfl (Nat.le_of_ble_eq_true rfl) ⟨Nat.le_of_ble_eq_true rfl, Nat.le_of_ble_eq_true rfl⟩ (i_reader W10 (nkc rfl) (nkc rfl) (fun _ _ => rfl) rfl (fun a11 h11 W11 => xk_v (n_pf W11 ⟨rfl, rfl⟩ rfl (Nat.le_of_ble_eq_true rfl) (fun h12 W12 => x_aload rfl (n_new W12 ⟨Nat.le_of_ble_eq_true rfl, Nat.le_of_ble_eq_true rfl⟩ (fun n13 h13 W13 => x_dupr (x_aload rfl (n_gf W13.at2 rfl rfl (n_ini rfl (Nat.le_of_ble_eq_true rfl) ⟨Nat.le_of_ble_eq_true rfl, Nat.le_of_ble_eq_true rfl⟩ (i_course W13 (nkc rfl) (nkc rfl) (fun _ _ => rfl) rfl (fun a14 h14 W14 => xk_v (n_pf W14 ⟨rfl, rfl⟩ rfl (Nat.le_of_ble_eq_true rfl) (fun h15 W15 => x_aload rfl (n_new W15 ⟨Nat.le_of_ble_eq_true rfl, Nat.le_of_ble_eq_true rfl⟩ (fun n16 h16 W16 => x_dupr (n_ini rfl (Nat.le_of_ble_eq_true rfl) ⟨Nat.le_of_ble_eq_true rfl, Nat.le_of_ble_eq_true rfl⟩ (i_turns W16 (nkq (n := 16) rfl rfl) (fun a17 b17 r17 h17 W17 => xk_v (n_pf W17 ⟨rfl, rfl⟩ rfl (Nat.le_of_ble_eq_true rfl) (fun h18 W18 => x_aload rfl (n_new W18 ⟨Nat.le_of_ble_eq_true rfl, Nat.le_of_ble_eq_true rfl⟩ (fun n19 h19 W19 => x_dupr (x_aload rfl (n_gf W19.at2 rfl rfl (n_ini rfl (Nat.le_of_ble_eq_true rfl) ⟨Nat.le_of_ble_eq_true rfl, Nat.le_of_ble_eq_true rfl⟩ (i_two W19 (nkc rfl) (nkc rfl) (fun _ _ => rfl) rfl (fun a20 h20 W20 => xk_v (n_pf W20 ⟨rfl, rfl⟩ rfl (Nat.le_of_ble_eq_true rfl) (fun h21 W21 => x_aload rfl (x_sipush (n_arR W21 (Or.inl rfl) (by decide) rfl (by decide) ⟨Nat.le_of_ble_eq_true rfl, Nat.le_of_ble_eq_true rfl⟩ (fun q62 h22 w22 => have W22 := w22.sw; n_pf W22 ⟨rfl, rfl⟩ rfl (Nat.le_of_ble_eq_true rfl) (fun h23 W23 => x_aload rfl (x_sipush (n_arR W23 (Or.inr rfl) (by decide) rfl (by decide) ⟨Nat.le_of_ble_eq_true rfl, Nat.le_of_ble_eq_true rfl⟩ (fun q71 h24 w24 => have W24 := w24.sw; n_pf W24 ⟨rfl, rfl⟩ rfl (Nat.le_of_ble_eq_true rfl) (fun h25 W25 => x_aload rfl (x_sipush (n_arB W25 (by decide) rfl (by decide) ⟨Nat.le_of_ble_eq_true rfl, Nat.le_of_ble_eq_true rfl⟩ (fun q26 h26 W26 => have V26 := W26.done (72) (nkc rfl) rfl rfl; n_pf V26 ⟨rfl, rfl⟩ rfl (Nat.le_of_ble_eq_true rfl) (fun h27 W27 => x_aload rfl (x_sipush (n_arI W27 (by decide) rfl (by decide) ⟨Nat.le_of_ble_eq_true rfl, Nat.le_of_ble_eq_true rfl⟩ (fun q28 h28 W28 => have V28 := W28.done (73) (nkc rfl) rfl rfl; n_pf V28 ⟨rfl, rfl⟩ rfl (Nat.le_of_ble_eq_true rfl) (fun h29 W29 => x_aload rfl (x_sipush (n_arL W29 (by decide) rfl (by decide) ⟨Nat.le_of_ble_eq_true rfl, Nat.le_of_ble_eq_true rfl⟩ (fun q30 h30 W30 => have V30 := W30.done (74) (nkc rfl) rfl rfl; n_pf V30 ⟨rfl, rfl⟩ rfl (Nat.le_of_ble_eq_true rfl) (fun h31 W31 => x_sipush (x_istore rfl (have V8 := W31.rot.rot; x_goto (hJ 1 _ _ rfl _ _ _ _ (x_iload rfl (x_sipush (x_br2 (fun z => absurd (show kI 4 ≤ kI 0 from z) (by decide)) (fun _ => x_aload rfl (n_gf V8.at2 rfl rfl (x_iload rfl (n_new V8 ⟨Nat.le_of_ble_eq_true rfl, Nat.le_of_ble_eq_true rfl⟩ (fun n32 h32 W32 => x_dupr (n_ini rfl (Nat.le_of_ble_eq_true rfl) ⟨Nat.le_of_ble_eq_true rfl, Nat.le_of_ble_eq_true rfl⟩ (i_tray (i := 63) (by decide) W32 (nkc rfl) (nkc rfl) (fun a33 h33 W33 => xk_v (n_ast W33 (Or.inl ⟨rfl, _, W33.2.2.1 (63, _) List.mem_cons_self⟩) (vp_inN (j := 0) (n := 4) (by decide) (by decide)).1 rfl (fun h34 W34 => x_iinc rfl rfl (x_goto (hJ 1 _ _ rfl _ _ _ _ (x_iload rfl (x_sipush (x_br2 (fun z => absurd (show kI 4 ≤ kI 0 + kI 1 from z) (by decide)) (fun _ => x_aload rfl (n_gf W34.at2 rfl rfl (x_iload rfl (n_new W34 ⟨Nat.le_of_ble_eq_true rfl, Nat.le_of_ble_eq_true rfl⟩ (fun n35 h35 W35 => x_dupr (n_ini rfl (Nat.le_of_ble_eq_true rfl) ⟨Nat.le_of_ble_eq_true rfl, Nat.le_of_ble_eq_true rfl⟩ (i_tray (i := 65) (by decide) W35 (nkc rfl) (nkc rfl) (fun a36 h36 W36 => xk_v (n_ast W36 (Or.inl ⟨rfl, _, W36.2.2.1 (65, _) List.mem_cons_self⟩) (vp_inN (j := 1) (n := 4) (by decide) (by decide)).1 rfl (fun h37 W37 => x_iinc rfl rfl (x_goto (hJ 1 _ _ rfl _ _ _ _ (x_iload rfl (x_sipush (x_br2 (fun z => absurd (show kI 4 ≤ kI 0 + kI 1 + kI 1 from z) (by decide)) (fun _ => x_aload rfl (n_gf W37.at2 rfl rfl (x_iload rfl (n_new W37 ⟨Nat.le_of_ble_eq_true rfl, Nat.le_of_ble_eq_true rfl⟩ (fun n38 h38 W38 => x_dupr (n_ini rfl (Nat.le_of_ble_eq_true rfl) ⟨Nat.le_of_ble_eq_true rfl, Nat.le_of_ble_eq_true rfl⟩ (i_tray (i := 67) (by decide) W38 (nkc rfl) (nkc rfl) (fun a39 h39 W39 => xk_v (n_ast W39 (Or.inl ⟨rfl, _, W39.2.2.1 (67, _) List.mem_cons_self⟩) (vp_inN (j := 2) (n := 4) (by decide) (by decide)).1 rfl (fun h40 W40 => x_iinc rfl rfl (x_goto (hJ 1 _ _ rfl _ _ _ _ (x_iload rfl (x_sipush (x_br2 (fun z => absurd (show kI 4 ≤ kI 0 + kI 1 + kI 1 + kI 1 from z) (by decide)) (fun _ => x_aload rfl (n_gf W40.at2 rfl rfl (x_iload rfl (n_new W40 ⟨Nat.le_of_ble_eq_true rfl, Nat.le_of_ble_eq_true rfl⟩ (fun n41 h41 W41 => x_dupr (n_ini rfl (Nat.le_of_ble_eq_true rfl) ⟨Nat.le_of_ble_eq_true rfl, Nat.le_of_ble_eq_true rfl⟩ (i_tray (i := 69) (by decide) W41 (nkc rfl) (nkc rfl) (fun a42 h42 W42 => xk_v (n_ast W42 (Or.inl ⟨rfl, _, W42.2.2.1 (69, _) List.mem_cons_self⟩) (vp_inN (j := 3) (n := 4) (by decide) (by decide)).1 rfl (fun h43 W43 => x_iinc rfl rfl (x_goto (hJ 1 _ _ rfl _ _ _ _ (x_iload rfl (x_sipush (x_br2 (fun _ => hJ 2 _ _ rfl _ _ _ _ (x_sipush (x_istore rfl (have V9 := W43.rot.rot; x_goto (hJ 3 _ _ rfl _ _ _ _ (x_iload rfl (x_sipush (x_br2 (fun z => absurd (show kI 3 ≤ kI 0 from z) (by decide)) (fun _ => x_aload rfl (n_gf V9.at3 rfl rfl (x_iload rfl (n_new V9 ⟨Nat.le_of_ble_eq_true rfl, Nat.le_of_ble_eq_true rfl⟩ (fun n44 h44 W44 => x_dupr (n_ini rfl (Nat.le_of_ble_eq_true rfl) ⟨Nat.le_of_ble_eq_true rfl, Nat.le_of_ble_eq_true rfl⟩ (i_club (i := 25) (by decide) W44 (nkr rfl) (fun a45 b45 c45 d45 h45 W45 => xk_v (n_ast W45 (Or.inr ⟨rfl, _, W45.2.2.1 (25, _) List.mem_cons_self⟩) (vp_inN (j := 0) (n := 3) (by decide) (by decide)).1 rfl (fun h46 W46 => x_iinc rfl rfl (x_goto (hJ 3 _ _ rfl _ _ _ _ (x_iload rfl (x_sipush (x_br2 (fun z => absurd (show kI 3 ≤ kI 0 + kI 1 from z) (by decide)) (fun _ => x_aload rfl (n_gf W46.at3 rfl rfl (x_iload rfl (n_new W46 ⟨Nat.le_of_ble_eq_true rfl, Nat.le_of_ble_eq_true rfl⟩ (fun n47 h47 W47 => x_dupr (n_ini rfl (Nat.le_of_ble_eq_true rfl) ⟨Nat.le_of_ble_eq_true rfl, Nat.le_of_ble_eq_true rfl⟩ (i_club (i := 30) (by decide) W47 (nkr rfl) (fun a48 b48 c48 d48 h48 W48 => xk_v (n_ast W48 (Or.inr ⟨rfl, _, W48.2.2.1 (30, _) List.mem_cons_self⟩) (vp_inN (j := 1) (n := 3) (by decide) (by decide)).1 rfl (fun h49 W49 => x_iinc rfl rfl (x_goto (hJ 3 _ _ rfl _ _ _ _ (x_iload rfl (x_sipush (x_br2 (fun z => absurd (show kI 3 ≤ kI 0 + kI 1 + kI 1 from z) (by decide)) (fun _ => x_aload rfl (n_gf W49.at3 rfl rfl (x_iload rfl (n_new W49 ⟨Nat.le_of_ble_eq_true rfl, Nat.le_of_ble_eq_true rfl⟩ (fun n50 h50 W50 => x_dupr (n_ini rfl (Nat.le_of_ble_eq_true rfl) ⟨Nat.le_of_ble_eq_true rfl, Nat.le_of_ble_eq_true rfl⟩ (i_club (i := 35) (by decide) W50 (nkr rfl) (fun a51 b51 c51 d51 h51 W51 => xk_v (n_ast W51 (Or.inr ⟨rfl, _, W51.2.2.1 (35, _) List.mem_cons_self⟩) (vp_inN (j := 2) (n := 3) (by decide) (by decide)).1 rfl (fun h52 W52 => x_iinc rfl rfl (x_goto (hJ 3 _ _ rfl _ _ _ _ (x_iload rfl (x_sipush (x_br2 (fun _ => hJ 4 _ _ rfl _ _ _ _ (x_vret rfl (?_))) (fun z => absurd (show kI 3 ≤ kI 0 + kI 1 + kI 1 + kI 1 by decide) z)))))))))))))))))))))))))))))))))))))))))))))))))))))) (fun z => absurd (show kI 4 ≤ kI 0 + kI 1 + kI 1 + kI 1 + kI 1 by decide) z)))))))))))))))))))))))))))))))))))))))))))))))))))))))))))))))))))))))))))))))))))))))))))))))))))))))))))))))))))))))))))))))))))))))))))))))))
  have X1 := W52.done 71 (nkc rfl) (by
    refine congrArg (fun f => (Sum.inl (6, 3, Sum.inr (Sum.inr (Sum.inr (Sum.inr f)))) : ac_C)) ?_
    exact fn3 rfl rfl rfl) rfl
  have X2 := X1.done 62 (nkc rfl) (by
    refine congrArg (fun f => (Sum.inl (5, 4, Sum.inr (Sum.inr (Sum.inr (Sum.inr f)))) : ac_C)) ?_
    exact fn4 rfl rfl rfl rfl) rfl
  have X3 := X2.done 0 (nkc rfl) rfl rfl
  exact kk _ _ X3 rfl (nkb rfl) rfl
end W1
