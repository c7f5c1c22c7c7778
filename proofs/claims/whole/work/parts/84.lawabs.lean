/-! ===== the law, abstractly: it answers true ===== -/
theorem ts_all (x : Int32) (offs : Array Int) (hs : offs.size = 52) : ∃ b, tsel x 143 0 51 offs = some b ∧ b ∈ 143 :: offs.toList := by
  unfold tsel
  by_cases h : x.toInt < 0 ∨ 51 < x.toInt
  · exact ⟨143, if_pos h, List.mem_cons_self⟩
  · have hi : (x.toInt - 0).toNat < offs.toList.length := by
      rw [Array.length_toList]
      omega
    have e := List.getElem?_eq_getElem hi
    have m := List.mem_of_getElem? e
    rw [Array.getElem?_toList] at e
    exact ⟨_, by rw [if_neg h]; exact e, List.mem_cons_of_mem _ m⟩
section W1
variable {J : Nat → ac_X} {ga : Nat → Nat} {L : Nat} {xs : Nat → Int32} {d : Nat} {ad : Nat → Nat}
theorem law_loop (hJ : LJ ga L xs (d + 16) J) (hL : L ≤ 3072) : ∀ n, n ≤ L / 6 → ∀ (h : ac_H) (w : Wst) (S : StT) (bg : Nat × Nat) (z5 z6 z7 : Option Value), WW ad w h → RCl w S → RMo w S → SOK S → bg.1 ≤ 200 + 10 * n → bg.2 ≤ 10000 + 60 * n → J 1 (lwl ga ad n z5 z6 z7) [] h bg := up_ind (fun n hn ih h w S bg z5 z6 z7 W hC hM hO b1 b2 => by
  have hcmp : (Int32.ofNat L - kI 6 < kI ((6 * n : Nat) : Int)) ↔ ¬ 6 * n + 6 ≤ L := by
    rw [ofN_kI, kI_sub, Int32.lt_iff_toInt_lt, kN_toInt (by omega), kI_toInt (by omega) (by omega)]
    omega
  have e6 : kI ((6 * n : Nat) : Int) + kI 6 = kI ((6 * (n + 1) : Nat) : Int) := kN_add (6 * n) 6
  have hb : bOK bg := ⟨by omega, by omega⟩
  have hend : J 144 (lwl ga ad n z5 z6 z7) [] h bg := hJ 144 _ _ rfl _ _ _ _ (x_sipush (x_iret (by first | exact nrwB _ | rfl | decide) rfl))
  have hgo : 6 * n + 6 ≤ L → ∀ b : Int, b ∈ ([143, 2, 3, 6, 7, 10, 13, 16, 21, 24, 27, 32, 33, 36, 41, 42, 45, 48, 53, 54, 59, 60, 61, 64, 67, 68, 71, 74, 77, 80, 83, 86, 89, 92, 95, 98, 101, 104, 107, 110, 113, 116, 117, 120, 121, 124, 127, 130, 132, 135, 138, 140, 142] : List Int) → J b.toNat (lwl ga ad n z5 z6 z7) [] h bg := fun hn6 => by
    have hN : LN ga ad n J bg := fun h' w' S' bg' y5 y6 y7 W' hC' hM' hO' hb' => hJ 143 _ _ rfl _ _ _ _ (x_iinc rfl rfl (x_goto (J_c (ih (by omega) h' w' S' bg' y5 y6 y7 W' hC' hM' hO' (by have := hb'.1; omega) (by have := hb'.2; omega)) (by unfold lwl; simp only [sI, e6]))))
    exact List.forall_mem_cons.mpr ⟨(hN h w S bg z5 z6 z7 W hC hM hO lw_b0), List.forall_mem_cons.mpr ⟨(law_2 hJ hn6 hL W hC hM hO hb hN), List.forall_mem_cons.mpr ⟨(law_3 hJ hn6 hL W hC hM hO hb hN), List.forall_mem_cons.mpr ⟨(law_6 hJ hn6 hL W hC hM hO hb hN), List.forall_mem_cons.mpr ⟨(law_7 hJ hn6 hL W hC hM hO hb hN), List.forall_mem_cons.mpr ⟨(law_10 hJ hn6 hL W hC hM hO hb hN), List.forall_mem_cons.mpr ⟨(law_13 hJ hn6 hL W hC hM hO hb hN), List.forall_mem_cons.mpr ⟨(law_16 hJ hn6 hL W hC hM hO hb hN), List.forall_mem_cons.mpr ⟨(law_21 hJ hn6 hL W hC hM hO hb hN), List.forall_mem_cons.mpr ⟨(law_24 hJ hn6 hL W hC hM hO hb hN), List.forall_mem_cons.mpr ⟨(law_27 hJ hn6 hL W hC hM hO hb hN), List.forall_mem_cons.mpr ⟨(law_32 hJ hn6 hL W hC hM hO hb hN), List.forall_mem_cons.mpr ⟨(law_33 hJ hn6 hL W hC hM hO hb hN), List.forall_mem_cons.mpr ⟨(law_36 hJ hn6 hL W hC hM hO hb hN), List.forall_mem_cons.mpr ⟨(law_41 hJ hn6 hL W hC hM hO hb hN), List.forall_mem_cons.mpr ⟨(law_42 hJ hn6 hL W hC hM hO hb hN), List.forall_mem_cons.mpr ⟨(law_45 hJ hn6 hL W hC hM hO hb hN), List.forall_mem_cons.mpr ⟨(law_48 hJ hn6 hL W hC hM hO hb hN), List.forall_mem_cons.mpr ⟨(law_53 hJ hn6 hL W hC hM hO hb hN), List.forall_mem_cons.mpr ⟨(law_54 hJ hn6 hL W hC hM hO hb hN), List.forall_mem_cons.mpr ⟨(law_59 hJ hn6 hL W hC hM hO hb hN), List.forall_mem_cons.mpr ⟨(law_60 hJ hn6 hL W hC hM hO hb hN), List.forall_mem_cons.mpr ⟨(law_61 hJ hn6 hL W hC hM hO hb hN), List.forall_mem_cons.mpr ⟨(law_64 hJ hn6 hL W hC hM hO hb hN), List.forall_mem_cons.mpr ⟨(law_67 hJ hn6 hL W hC hM hO hb hN), List.forall_mem_cons.mpr ⟨(law_68 hJ hn6 hL W hC hM hO hb hN), List.forall_mem_cons.mpr ⟨(law_71 hJ hn6 hL W hC hM hO hb hN), List.forall_mem_cons.mpr ⟨(law_74 hJ hn6 hL W hC hM hO hb hN), List.forall_mem_cons.mpr ⟨(law_77 hJ hn6 hL W hC hM hO hb hN), List.forall_mem_cons.mpr ⟨(law_80 hJ hn6 hL W hC hM hO hb hN), List.forall_mem_cons.mpr ⟨(law_83 hJ hn6 hL W hC hM hO hb hN), List.forall_mem_cons.mpr ⟨(law_86 hJ hn6 hL W hC hM hO hb hN), List.forall_mem_cons.mpr ⟨(law_89 hJ hn6 hL W hC hM hO hb hN), List.forall_mem_cons.mpr ⟨(law_92 hJ hn6 hL W hC hM hO hb hN), List.forall_mem_cons.mpr ⟨(law_95 hJ hn6 hL W hC hM hO hb hN), List.forall_mem_cons.mpr ⟨(law_98 hJ hn6 hL W hC hM hO hb hN), List.forall_mem_cons.mpr ⟨(law_101 hJ hn6 hL W hC hM hO hb hN), List.forall_mem_cons.mpr ⟨(law_104 hJ hn6 hL W hC hM hO hb hN), List.forall_mem_cons.mpr ⟨(law_107 hJ hn6 hL W hC hM hO hb hN), List.forall_mem_cons.mpr ⟨(law_110 hJ hn6 hL W hC hM hO hb hN), List.forall_mem_cons.mpr ⟨(law_113 hJ hn6 hL W hC hM hO hb hN), List.forall_mem_cons.mpr ⟨(law_116 hJ hn6 hL W hC hM hO hb hN), List.forall_mem_cons.mpr ⟨(law_117 hJ hn6 hL W hC hM hO hb hN), List.forall_mem_cons.mpr ⟨(law_120 hJ hn6 hL W hC hM hO hb hN), List.forall_mem_cons.mpr ⟨(law_121 hJ hn6 hL W hC hM hO hb hN), List.forall_mem_cons.mpr ⟨(law_124 hJ hn6 hL W hC hM hO hb hN), List.forall_mem_cons.mpr ⟨(law_127 hJ hn6 hL W hC hM hO hb hN), List.forall_mem_cons.mpr ⟨(law_130 hJ hn6 hL W hC hM hO hb hN), List.forall_mem_cons.mpr ⟨(law_132 hJ hn6 hL W hC hM hO hb hN), List.forall_mem_cons.mpr ⟨(law_135 hJ hn6 hL W hC hM hO hb hN), List.forall_mem_cons.mpr ⟨(law_138 hJ hn6 hL W hC hM hO hb hN), List.forall_mem_cons.mpr ⟨(law_140 hJ hn6 hL W hC hM hO hb hN), List.forall_mem_cons.mpr ⟨(law_142 hJ hn6 hL W hC hM hO hb hN), fun _ h => absurd h List.not_mem_nil⟩⟩⟩⟩⟩⟩⟩⟩⟩⟩⟩⟩⟩⟩⟩⟩⟩⟩⟩⟩⟩⟩⟩⟩⟩⟩⟩⟩⟩⟩⟩⟩⟩⟩⟩⟩⟩⟩⟩⟩⟩⟩⟩⟩⟩⟩⟩⟩⟩⟩⟩⟩⟩
  refine hJ 1 _ _ rfl _ _ _ _ (x_iload rfl (x_aload rfl (x_cal (x_sipush (x_isub (x_br2 (fun _ => hend) (fun q => ?_))))))) 
  have hn6 : 6 * n + 6 ≤ L := Decidable.not_not.mp (fun z => q (hcmp.mpr z))
  refine x_aload rfl (x_iload rfl (x_fal (6 * n) rfl (by omega) hL (x_sipush (x_iand ?_))))
  obtain ⟨b, hb9, hm⟩ := ts_all (xs (6 * n) &&& kI 63) #[2, 3, 6, 7, 10, 13, 16, 21, 24, 27, 32, 33, 36, 41, 42, 45, 48, 53, 54, 59, 60, 61, 64, 67, 68, 71, 74, 77, 80, 83, 86, 89, 92, 95, 98, 101, 104, 107, 110, 113, 116, 117, 120, 121, 124, 127, 130, 132, 135, 138, 140, 142] rfl
  exact x_ts hb9 (hgo hn6 b hm))
theorem law_abs (hJ : LJ ga L xs (d + 16) J) (hL : L ≤ 3072) : J 0 [some (.ref (ga 0)), none, none, none, none, none, none, none] [] (fun _ => none) (0, 0) := by
  refine hJ 0 _ _ rfl _ _ _ _ (n_new (PW.nil (w := w00)) ⟨Nat.le_of_ble_eq_true rfl, Nat.le_of_ble_eq_true rfl⟩ (fun a1 h1 W1 => x_dupr (n_ini rfl (Nat.le_of_ble_eq_true rfl) ⟨Nat.le_of_ble_eq_true rfl, Nat.le_of_ble_eq_true rfl⟩ (i_class W1 (fun l h2 W2 K1 K2 K3 => xk_v (x_astore rfl (n_new W2 ⟨Nat.le_of_ble_eq_true rfl, Nat.le_of_ble_eq_true rfl⟩ (fun a2 h3 W3 => x_dupr (n_ini rfl (Nat.le_of_ble_eq_true rfl) ⟨Nat.le_of_ble_eq_true rfl, Nat.le_of_ble_eq_true rfl⟩ (i_model W3 (fun i g1 g2 => K2 i (by omega)) (fun q81 q95 q94 q93 q92 q91 q90 q89 q88 q87 q86 q85 q84 q83 q82 h4 W4 => xk_v (x_astore rfl (x_sipush (n_arL W4 (by decide) rfl (by decide) ⟨Nat.le_of_ble_eq_true rfl, Nat.le_of_ble_eq_true rfl⟩ (fun q96 h5 W5 => x_astore rfl (x_sipush (x_istore rfl (x_goto (?_)))))))))))))))))))
  have X6 := W5.done 96 (nk rfl (nk rfl (nk rfl (nk rfl (nk rfl (nk rfl (nk rfl (nk rfl (nk rfl (nk rfl (nk rfl (nk rfl (nk rfl (nk rfl (nk rfl (nk rfl (K2 96 (by omega)))))))))))))))))) rfl rfl
  have hm0 : ∀ i, i < 75 → (shp i).1 < 2 → i ∈ l.map (·.1) := fun i h1 h2 => by
    have g := eq_of_beq (List.all_eq_true.mp K1 i (List.mem_range.mpr h1))
    have h10 : ∀ i, i < 10 → (shp i).1 < 2 → i = 0 := by decide
    have h0 : (i == 0 || Nat.ble 10 i) = true := by
      by_cases e : i < 10
      · rw [h10 i e h2]
        rfl
      · rw [Bool.or_eq_true]
        exact Or.inr (Nat.ble_eq_true_of_le (by omega))
    exact List.contains_iff_mem.mp (g.trans h0)
  have hkeys : ∀ i, i < 97 → (shp i).1 < 2 → i ∈ 96 :: 80 :: 81 :: 95 :: 94 :: 93 :: 92 :: 91 :: 90 :: 89 :: 88 :: 87 :: 86 :: 85 :: 84 :: 83 :: 82 :: l.map (·.1) := fun i h1 h2 => by
    by_cases e : i < 75
    · have := hm0 i e h2
      simp [this]
    · have h75 : ∀ j, j < 5 → ¬ (shp (75 + j)).1 < 2 := by decide
      have : 80 ≤ i := by
        by_cases e8 : 80 ≤ i
        · exact e8
        · have := h75 (i - 75) (by omega)
          rw [show 75 + (i - 75) = i by omega] at this
          exact absurd h2 this
      have h9 : i = 80 ∨ i = 81 ∨ i = 82 ∨ i = 83 ∨ i = 84 ∨ i = 85 ∨ i = 86 ∨ i = 87 ∨ i = 88 ∨ i = 89 ∨ i = 90 ∨ i = 91 ∨ i = 92 ∨ i = 93 ∨ i = 94 ∨ i = 95 ∨ i = 96 := by omega
      rcases h9 with rfl | rfl | rfl | rfl | rfl | rfl | rfl | rfl | rfl | rfl | rfl | rfl | rfl | rfl | rfl | rfl | rfl <;> simp
  obtain ⟨ad, WD, had⟩ := X6.world hkeys
  have e0 : ad 0 = a1 := (had 0 (hkeys 0 (by omega) (by decide))).trans K3
  have e80 : ad 80 = a2 := had 80 (hkeys 80 (by omega) (by decide))
  have e96 : ad 96 = q96 := had 96 (hkeys 96 (by omega) (by decide))
  refine J_c (law_loop hJ hL 0 (Nat.zero_le _) h5 w00 S0 _ none none none WD RCl_0 RMo_0 S0_ok (Nat.le_of_ble_eq_true rfl) (Nat.le_of_ble_eq_true rfl)) ?_
  unfold lwl
  rw [e0, e80, e96]
  rfl
end W1
