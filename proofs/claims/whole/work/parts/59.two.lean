/-! ===== two clubs ===== -/
section STP
variable {call : Nat → List Value → ac_H → ac_P → Prop} {cs : Nat → Nat × Nat} {ga : Nat → Nat} {L : Nat} {xs : Nat → Int32} {sl : Nat → List Int32} {mb : Nat × Nat} {hands : List (Nat × Int)} {rt : Option FieldType} {Q : ac_P} {J : Nat → ac_X}
variable {is : ac_I} {ls : ac_L} {s : List Value} {h : ac_H} {bg : Nat × Nat} {z : Nat} {ad : Nat → Nat} {w : Wst}
theorem w_putr2 (W : WW ad w h) {i k : Nat} (c j t : Nat) (hi : i < 97) (hs : shp i = (0, c, 0)) (hk : k = 32 * c + j) (hj : (Nat.blt j (nfl.getD c 0) && Nat.blt j 32 && isRf c j) = true) (ho : okF k (.ref (ad t))) (hr : ∀ b, isRf c b = true → rfx (sr w i j t) i b = if b = j then t else rfx w i b) (kk : ∀ h', WW ad (sr w i j t) h' → xB call cs ga L xs sl mb hands rt Q J is ls s h' bg) : xB call cs ga L xs sl mb hands rt Q J ((.putfield k, z) :: is) ls (.ref (ad t) :: .ref (ad i) :: s) h bg := by
  simp only [Bool.and_eq_true, Nat.blt_eq] at hj
  have e : k % 32 = j := by omega
  have hv : pF k h (ad i) (.ref (ad t)) = _ := pF_c (W.obj hi hs) (by omega) (by rw [e, List.length_map, List.length_range]; exact hj.1.1)
  simp only [xB, hv]
  refine ⟨ho, kk _ (W.up ?_ fun a ha => cellOf_eq (fun b => rfl) (fun b => ?_) rfl rfl)⟩
  · rw [cellOf_obj hs, e, map_set]
    refine congrArg Sum.inr (congrArg (Prod.mk c) (congrArg (fun f => List.map f (List.range (nfl.getD c 0))) (funext fun b => ?_)))
    by_cases er : isRf c b = true
    · rw [if_pos er, hr b er]
      by_cases eb : b = j
      · subst eb
        rw [if_pos rfl, if_pos rfl]
      · rw [if_neg eb, if_neg eb, if_pos er]
    · rw [if_neg er]
      by_cases eb : b = j
      · subst eb
        exact absurd hj.2 er
      · rw [if_neg eb, if_neg er]
        rfl
  · rw [wr_sr, if_neg (fun q => ha q.1)]
end STP
/-- the digits of a number by 3 -/
def dg : Nat → Nat → Nat
  | n, 0 => n % 3
  | n, m + 1 => dg (n / 3) m
theorem dg_lt : ∀ m n, dg n m < 3
  | 0, n => Nat.mod_lt _ (by decide)
  | m + 1, n => dg_lt m (n / 3)
theorem dg_zero : ∀ m, dg 0 m = 0
  | 0 => rfl
  | m + 1 => dg_zero m
theorem dg_succ : ∀ m n, (∀ j, j < m → dg n j = 2) → (∀ j, j < m → dg (n + 1) j = 0) ∧ (¬ dg n m = 2 → dg (n + 1) m = dg n m + 1 ∧ ∀ j, m < j → dg (n + 1) j = dg n j)
  | 0, n, _ => ⟨fun j hj => by omega, fun h => by
      have h : ¬ n % 3 = 2 := h
      refine ⟨show (n + 1) % 3 = n % 3 + 1 by omega, fun j hj => ?_⟩
      obtain ⟨k, rfl⟩ : ∃ k, j = k + 1 := ⟨j - 1, by omega⟩
      show dg ((n + 1) / 3) k = dg (n / 3) k
      rw [show (n + 1) / 3 = n / 3 by omega]⟩
  | m + 1, n, h => by
    have h0 : n % 3 = 2 := h 0 (by omega)
    have e : (n + 1) / 3 = n / 3 + 1 := by omega
    obtain ⟨a, b⟩ := dg_succ m (n / 3) (fun j hj => h (j + 1) (by omega))
    refine ⟨fun j hj => ?_, fun hm => ?_⟩
    · cases j with
      | zero =>
        show (n + 1) % 3 = 0
        omega
      | succ j =>
        show dg ((n + 1) / 3) j = 0
        rw [e]
        exact a j (by omega)
    · obtain ⟨b1, b2⟩ := b hm
      refine ⟨?_, fun j hj => ?_⟩
      · show dg ((n + 1) / 3) m = dg (n / 3) m + 1
        rw [e]
        exact b1
      · obtain ⟨k, rfl⟩ : ∃ k, j = k + 1 := ⟨j - 1, by omega⟩
        show dg ((n + 1) / 3) k = dg (n / 3) k
        rw [e]
        exact b2 k (by omega)
theorem cnt_chg {p q : Nat → Bool} {m : Nat} : ∀ {n : Nat}, m < n → (∀ j, j < n → j ≠ m → p j = q j) → cnt q n + (if p m = true then 1 else 0) = cnt p n + (if q m = true then 1 else 0)
  | 0, h, _ => by omega
  | n + 1, h, he => by
    by_cases e : m = n
    · subst e
      have h1 : cnt p m = cnt q m := cnt_congr (fun j hj => he j (by omega) (by omega))
      simp only [cnt, h1]
      omega
    · have ih := cnt_chg (p := p) (q := q) (m := m) (n := n) (by omega) (fun j hj hn => he j (by omega) hn)
      simp only [cnt, he n (by omega) (by omega)]
      omega
def crw (f : Nat → Nat) (n d : Nat) : Nat := cnt (fun j => decide (f j = d)) n
theorem crw_le (f : Nat → Nat) (n d : Nat) : crw f n d ≤ n := cnt_le _ _
def payT (V : VT) (q d : Int32) (f : Nat → Nat) (m e : Nat) : Int32 := if e = 0 then kI 0 else if e = 1 then (if kI ((crw f (nm V) 1 + (if f m = 1 then 0 else 1) : Nat) : Int) = V 1 then V 2 else kI 0) - vC V m else (if kI ((crw f (nm V) 2 + (if f m = 2 then 0 else 1) : Nat) : Int) = q then d else kI 0) - vC V m
def rstM (V : VT) (q d : Int32) (f : Nat → Nat) (m : Nat) : Bool := decide (¬ (payT V q d f m (f m) < payT V q d f m 0 ∨ payT V q d f m (f m) < payT V q d f m 1 ∨ payT V q d f m (f m) < payT V q d f m 2))
def rstB (V : VT) (q d : Int32) (n : Nat) : Bool := decide (∀ m, m < nm V → rstM V q d (dg n) m = true)
def twoT (V : VT) (x y : Int32) : Nat := if inV x 1 12 = true ∧ inV y 0 999 = true then (if 8 < nm V then 2 else 0) else 1
def twoV (V : VT) (x y z : Int32) : Int32 := kthR (rstB V x y) (3 ^ nm V) z
theorem imax_gt {a x y : Int32} : a < imax x y ↔ a < x ∨ a < y := by
  unfold imax
  simp only [Int32.lt_iff_toInt_lt, Int32.le_iff_toInt_le]
  split <;> omega
theorem rstM_iff {V : VT} {q d : Int32} {f : Nat → Nat} {m : Nat} : imax (kI 0) (imax (payT V q d f m 1) (payT V q d f m 2)) ≤ payT V q d f m (f m) ↔ rstM V q d f m = true := by
  unfold rstM
  rw [← Int32.not_lt, imax_gt, imax_gt, decide_eq_true_eq]
  exact Iff.rfl
theorem pow3 {V : VT} (h : nm V ≤ 8) : 3 ^ nm V ≤ 6561 := by
  have h1 : 3 ^ nm V ≤ 3 ^ 8 := Nat.pow_le_pow_right (by decide) h
  have h2 : 3 ^ 8 = 6561 := by decide
  omega
/-- the odometer shows the digits f -/
def OD (w : Wst) (i n : Nat) (q d : Int32) (f : Nat → Nat) : Prop := wr w 60 1 = i ∧ wn w 60 2 = q ∧ wn w 60 3 = d ∧ (∀ j, j < n → wa w 61 j = kI (f j : Int)) ∧ wn w 60 4 = kI (crw f n 1 : Int) ∧ wn w 60 5 = kI (crw f n 2 : Int)
def l6061 : List Nat := [60, 61]
theorem l6061S : ∀ a ∈ l6061, a ∈ SC := by decide
theorem l6061G : ∀ a ∈ l6061, 40 ≤ a := by decide
section W1
variable {ga : Nat → Nat} {L : Nat} {xs : Nat → Int32} {d : Nat} {h : ac_H} {P : ac_P} {ad : Nat → Nat} {w : Wst} {i : Nat} {V : VT}
theorem c_payIn {x y z : Int32} (hP : P (.inl (some (.int (if x = y then z else kI 0)))) h) : WP ga L xs (d + 1) 68 [.int x, .int y, .int z] h P := by
  refine WP.enter kX5_payIn (Nat.le_of_ble_eq_true rfl) (fun J hJ => ?_)
  refine hJ 0 _ _ rfl _ _ _ _ (x_iload rfl (x_iload rfl (x_br2 (fun q1 => have q1 := cy_ne q1; hJ 1 _ _ rfl _ _ _ _ (x_sipush (x_goto (hJ 2 _ _ rfl _ _ _ _ (x_iret (nrwI _) ?_))))) (fun q1 => have q1 := cn_ne q1; x_iload rfl (x_goto (hJ 2 _ _ rfl _ _ _ _ (x_iret (nrwI _) ?_)))))))
  · rw [if_neg q1] at hP
    exact hP
  · rw [if_pos q1] at hP
    exact hP
theorem c_isAtRest {q e : Int32} {f : Nat → Nat} (W : WW ad w h) (hC : isC i) (hR : CR w i V) (hV : VOK V) (hn8 : nm V ≤ 8) (ho : OD w i (nm V) q e f) (hf : ∀ j, f j < 3) (hP : P (.inl (some (.int (bI (decide (∀ m, m < nm V → rstM V q e f m = true)))))) h) : WP ga L xs (d + 2) 67 [.ref (ad 60)] h P := by
  have hn := hV.n.2
  have en : wn w i 4 = kI (nm V : Int) := hR.n hV
  have h1le := crw_le f (nm V) 1
  have h2le := crw_le f (nm V) 2
  refine WP.enter kX5_isAtRest (Nat.le_of_ble_eq_true rfl) (fun J hJ => ?_)
  have loop : ∀ m, m ≤ nm V → (∀ j, j < m → rstM V q e f j = true) → ∀ z2 z3 z4 z5, J 1 [some (.ref (ad 60)), some (.int (kI (m : Int))), z2, z3, z4, z5] [] h (0, 0) := up_ind (fun m hm ih hno z2 z3 z4 z5 => ?_)
  · refine hJ 0 _ _ rfl _ _ _ _ (x_sipush (x_istore rfl (x_goto (?_))))
    exact loop 0 (Nat.zero_le _) (fun j hj => by omega) _ _ _ _
  have hch : m < nm V → wa w 61 m = kI (f m : Int) := fun h9 => ho.2.2.2.1 m h9
  have hfm := hf m
  have hcost : m < nm V → wa w (i + 3) m = vC V m := fun h9 => (hR.2.1 m h9).2.2
  have i1 : ∀ a b : Nat, a < 3 → b < 3 → (kI (a : Int) = kI (b : Int) ↔ a = b) := fun a b h9 h8 => kN_inj (by omega) (by omega)
  have b8 : m < nm V → ∀ z, z = payT V q e f m (f m) → J 8 [some (.ref (ad 60)), some (.int (kI (m : Int))), some (.int (payT V q e f m 1)), some (.int (payT V q e f m 2)), some (.int (imax (kI 0) (imax (payT V q e f m 1) (payT V q e f m 2)))), z5] [.int z] h (0, 0) := fun hm9 z hz => ?_
  · have b5 : m < nm V → ∀ v, v = kI ((if f m = 2 then 0 else 1 : Nat) : Int) → J 5 [some (.ref (ad 60)), some (.int (kI (m : Int))), some (.int (payT V q e f m 1)), z3, z4, z5] [.int v, .int (wn w 60 5)] h (0, 0) := fun hm9 v hv => ?_
    · have b3 : m < nm V → ∀ v, v = kI ((if f m = 1 then 0 else 1 : Nat) : Int) → J 3 [some (.ref (ad 60)), some (.int (kI (m : Int))), z2, z3, z4, z5] [.int v, .int (wn w 60 4)] h (0, 0) := fun hm9 v hv => ?_
      · refine hJ 1 _ _ rfl _ _ _ _ (x_iload rfl (x_aload rfl (w_getr W 5 1 (t := i) (by decide) shp_60 rfl rfl ho.1 (w_geti W 0 4 hC.lt hC.sh rfl rfl (x_br2 (fun q1 => have q1 := ge_y en (by omega) q1; hJ 10 _ _ rfl _ _ _ _ (x_sipush (x_iret (by first | exact nrwB _ | rfl | decide) ?_))) (fun q1 => have q1 := ge_n en (by omega) q1; x_aload rfl (w_geti W 5 4 (by decide) shp_60 rfl rfl (x_aload rfl (w_getr W 5 0 (t := 61) (by decide) shp_60 rfl rfl rfl (x_iload rfl (w_iald W m (by decide) shp_61 rfl (by omega) (by decide) (x_sipush (x_br2 (fun q2 => have q2 := cy_ne q2; hJ 2 _ _ rfl _ _ _ _ (x_sipush (x_goto (?_)))) (fun q2 => have q2 := cn_ne q2; x_sipush (x_goto (?_))))))))))))))))
        · rw [decide_eq_true (fun j hj => hno j (by omega))] at hP
          exact hP
        · have q3 : ¬ kI (f m : Int) = kI ((1 : Nat) : Int) := hch q1 ▸ q2
          rw [i1 _ _ (hf m) (by omega)] at q3
          exact b3 q1 _ (by rw [if_neg q3]; rfl)
        · have q3 : kI (f m : Int) = kI ((1 : Nat) : Int) := hch q1 ▸ q2
          rw [i1 _ _ (hf m) (by omega)] at q3
          exact b3 q1 _ (by rw [if_pos q3]; rfl)
      have e1 : (if wn w 60 4 + v = wn w i 1 then wn w i 2 else kI 0) - wa w (i + 3) m = payT V q e f m 1 := by
        unfold payT
        rw [if_neg (show ¬ 1 = 0 by decide), if_pos (show 1 = 1 from rfl), ho.2.2.2.2.1, hv, kN_add, hR.1.2.1, hR.1.2.2.1, hcost hm9]
      refine hJ 3 _ _ rfl _ _ _ _ (x_iadd (x_aload rfl (w_getr W 5 1 (t := i) (by decide) shp_60 rfl rfl ho.1 (w_geti W 0 1 hC.lt hC.sh rfl rfl (x_aload rfl (w_getr W 5 1 (t := i) (by decide) shp_60 rfl rfl ho.1 (w_geti W 0 2 hC.lt hC.sh rfl rfl (x_cs rfl (Nat.le_of_ble_eq_true rfl) (c_payIn (xk_go (x_aload rfl (w_getr W 5 1 (t := i) (by decide) shp_60 rfl rfl ho.1 (w_getr W 0 12 (t := i + 3) hC.lt hC.sh rfl rfl (hC.rf3 _) (x_iload rfl (w_iald W m hC.lt3 hC.sh3 rfl (by omega) (by decide) (x_isub (x_istore rfl (x_aload rfl (w_geti W 5 5 (by decide) shp_60 rfl rfl (x_aload rfl (w_getr W 5 0 (t := 61) (by decide) shp_60 rfl rfl rfl (x_iload rfl (w_iald W m (by decide) shp_61 rfl (by omega) (by decide) (x_sipush (x_br2 (fun q1 => have q1 := cy_ne q1; hJ 4 _ _ rfl _ _ _ _ (x_sipush (x_goto (?_)))) (fun q1 => have q1 := cn_ne q1; x_sipush (x_goto (?_))))))))))))))))))))))))))))
      · have q3 : ¬ kI (f m : Int) = kI ((2 : Nat) : Int) := hch hm9 ▸ q1
        rw [i1 _ _ (hf m) (by omega)] at q3
        rw [e1]
        exact b5 hm9 _ (by rw [if_neg q3]; rfl)
      · have q3 : kI (f m : Int) = kI ((2 : Nat) : Int) := hch hm9 ▸ q1
        rw [i1 _ _ (hf m) (by omega)] at q3
        rw [e1]
        exact b5 hm9 _ (by rw [if_pos q3]; rfl)
    have e2 : (if wn w 60 5 + v = wn w 60 2 then wn w 60 3 else kI 0) - wa w (i + 3) m = payT V q e f m 2 := by
      unfold payT
      rw [if_neg (show ¬ 2 = 0 by decide), if_neg (show ¬ 2 = 1 by decide), ho.2.2.2.2.2, hv, kN_add, ho.2.1, ho.2.2.1, hcost hm9]
    refine hJ 5 _ _ rfl _ _ _ _ (x_iadd (x_aload rfl (w_geti W 5 2 (by decide) shp_60 rfl rfl (x_aload rfl (w_geti W 5 3 (by decide) shp_60 rfl rfl (x_cs rfl (Nat.le_of_ble_eq_true rfl) (c_payIn (xk_go (x_aload rfl (w_getr W 5 1 (t := i) (by decide) shp_60 rfl rfl ho.1 (w_getr W 0 12 (t := i + 3) hC.lt hC.sh rfl rfl (hC.rf3 _) (x_iload rfl (w_iald W m hC.lt3 hC.sh3 rfl (by omega) (by decide) (x_isub (x_istore rfl (x_sipush (x_iload rfl (x_iload rfl (x_cs rfl (Nat.le_of_ble_eq_true rfl) (c_max (xk_go (x_cs rfl (Nat.le_of_ble_eq_true rfl) (c_max (xk_go (x_istore rfl (x_aload rfl (w_getr W 5 0 (t := 61) (by decide) shp_60 rfl rfl rfl (x_iload rfl (w_iald W m (by decide) shp_61 rfl (by omega) (by decide) (x_br (fun q1 => have q1 := cy_ne q1; hJ 6 _ _ rfl _ _ _ _ (x_aload rfl (w_getr W 5 0 (t := 61) (by decide) shp_60 rfl rfl rfl (x_iload rfl (w_iald W m (by decide) shp_61 rfl (by omega) (by decide) (x_sipush (x_br2 (fun q2 => have q2 := cy_ne q2; hJ 7 _ _ rfl _ _ _ _ (x_iload rfl (x_goto (?_)))) (fun q2 => have q2 := cn_ne q2; x_iload rfl (x_goto (?_)))))))))) (fun q1 => have q1 := cn_ne q1; x_sipush (x_goto (?_)))))))))))))))))))))))))))))))))
    · have q3 : ¬ kI (f m : Int) = kI ((0 : Nat) : Int) := hch hm9 ▸ q1
      have q4 : ¬ kI (f m : Int) = kI ((1 : Nat) : Int) := hch hm9 ▸ q2
      rw [i1 _ _ (hf m) (by omega)] at q3 q4
      rw [e2]
      exact b8 hm9 _ (by rw [show f m = 2 by omega])
    · have q4 : kI (f m : Int) = kI ((1 : Nat) : Int) := hch hm9 ▸ q2
      rw [i1 _ _ (hf m) (by omega)] at q4
      rw [e2]
      exact b8 hm9 _ (by rw [q4])
    · have q3 : kI (f m : Int) = kI ((0 : Nat) : Int) := hch hm9 ▸ q1
      rw [i1 _ _ (hf m) (by omega)] at q3
      rw [e2]
      exact b8 hm9 _ (by rw [q3]; rfl)
  refine hJ 8 _ _ rfl _ _ _ _ (x_istore rfl (x_iload rfl (x_iload rfl (x_br2 (fun q1 => have q1 := cy_le q1; hJ 9 _ _ rfl _ _ _ _ (x_iinc rfl rfl (x_goto (?_)))) (fun q1 => have q1 := cn_le q1; x_sipush (x_iret (by first | exact nrwB _ | rfl | decide) ?_))))))
  · rw [hz] at q1
    have q1 := rstM_iff.mp q1
    refine J_c (ih hm9 (fun j hj => ?_) (some (.int (payT V q e f m 1))) (some (.int (payT V q e f m 2))) (some (.int (imax (kI 0) (imax (payT V q e f m 1) (payT V q e f m 2))))) (some (.int z))) (by simp only [sI, kN_succ])
    by_cases ej : j = m
    · rw [ej]; exact q1
    · exact hno j (by omega)
  · rw [hz] at q1
    have q1 : ¬ rstM V q e f m = true := fun z9 => Int32.not_lt.mpr (rstM_iff.mpr z9) q1
    rw [decide_eq_false (fun z9 => q1 (z9 m hm9))] at hP
    exact hP
theorem c_begin {x y : Int32} {n : Nat} (W : WW ad w h) (hC : isC i) (hn : n ≤ 8) (kk : ∀ h' w', WW ad w' h' → kp l6061 w w' → OD w' i n x y (dg 0) → P (.inl none) h') : WP ga L xs (d + 1) 66 [.ref (ad 60), .ref (ad i), .int x, .int y] h P := by
  have hz : ∀ n d, ¬ 0 = d → crw (dg 0) n d = 0 := fun n d hd => by
    unfold crw
    have e : cnt (fun j => decide (dg 0 j = d)) n = cnt (fun _ => false) n := cnt_congr (fun j _ => by rw [dg_zero]; exact decide_eq_false hd)
    have e2 : ∀ n, cnt (fun _ => false) n = 0 := fun n => by
      induction n with
      | zero => rfl
      | succ n ih => simp [cnt, ih]
    rw [e, e2]
  refine WP.enter kX5_begin (Nat.le_of_ble_eq_true rfl) (fun J hJ => ?_)
  have loop : ∀ m, m ≤ 8 → ∀ h' w', WW ad w' h' → kp l6061 w w' → wr w' 60 1 = i → wn w' 60 2 = x → wn w' 60 3 = y → wn w' 60 4 = kI 0 → wn w' 60 5 = kI 0 → (∀ j, j < m → wa w' 61 j = kI 0) → J 1 [some (.ref (ad 60)), some (.ref (ad i)), some (.int x), some (.int y), some (.int (kI (m : Int)))] [] h' (0, 0) := up_ind (fun m hm ih h0 w0 W0 hk a1 a2 a3 a4 a5 hE => ?_)
  · refine hJ 0 _ _ rfl _ _ _ _ (x_aload rfl (x_aload rfl (w_putr2 W 5 1 i (by decide) shp_60 rfl rfl ⟨rfl, rfl⟩ (fun b hb => ?_) (fun h1 W1 => x_aload rfl (x_iload rfl (w_puti W1 5 2 (by decide) shp_60 rfl rfl (okI rfl) (fun h2 W2 => x_aload rfl (x_iload rfl (w_puti W2 5 3 (by decide) shp_60 rfl rfl (okI rfl) (fun h3 W3 => x_aload rfl (x_sipush (w_puti W3 5 4 (by decide) shp_60 rfl rfl (okI rfl) (fun h4 W4 => x_aload rfl (x_sipush (w_puti W4 5 5 (by decide) shp_60 rfl rfl (okI rfl) (fun h5 W5 => x_sipush (x_istore rfl (x_goto (?_)))))))))))))))))))
    · have hb2 : b = 0 ∨ b = 1 := by simpa [isRf] using hb
      rcases hb2 with rfl | rfl
      · rfl
      · show wr (sr w 60 1 i) 60 1 = if 1 = 1 then i else rfx w 60 1
        rw [wr_sr, if_pos ⟨rfl, rfl⟩, if_pos rfl]
    · exact loop 0 (Nat.zero_le _) _ _ W5 (((((kp_sr (by decide)).trans (kp_sn (by decide))).trans (kp_sn (by decide))).trans (kp_sn (by decide))).trans (kp_sn (by decide))) (by simp [wr_sn, wr_sr]) (by simp [wn_sn, wn_sr]) (by simp [wn_sn, wn_sr]) (by simp [wn_sn, wn_sr]) (by simp [wn_sn, wn_sr]) (fun j hj => by omega)
  refine hJ 1 _ _ rfl _ _ _ _ (x_iload rfl (x_sipush (x_br2 (fun q1 => have q1 := ge_y (n := 8) rfl (by omega) q1; hJ 2 _ _ rfl _ _ _ _ (x_vret rfl ?_)) (fun q1 => have q1 := ge_n (n := 8) rfl (by omega) q1; x_aload rfl (w_getr W0 5 0 (t := 61) (by decide) shp_60 rfl rfl rfl (x_iload rfl (x_sipush (w_iast W0 m (by decide) shp_61 rfl (by omega) (by decide) (fun h1 W1 => x_iinc rfl rfl (x_goto (?_)))))))))))
  · refine kk h0 w0 W0 hk ⟨a1, a2, a3, fun j hj => ?_, ?_, ?_⟩
    · rw [hE j (by omega), dg_zero]
      rfl
    · rw [a4, hz _ _ (by omega)]
      rfl
    · rw [a5, hz _ _ (by omega)]
      rfl
  · refine J_c (ih q1 h1 _ W1 (hk.trans (kp_sa (by decide))) a1 a2 a3 a4 a5 (fun j hj => ?_)) (by simp only [sI, kN_succ])
    rw [wa_self]
    by_cases e : j = m
    · rw [e, upd_self]
    · rw [upd_ne e]
      exact hE j (by omega)
theorem crw_set {f : Nat → Nat} {N m d v : Nat} (hm : m < N) : crw (fun j => if j = m then v else f j) N d + (if f m = d then 1 else 0) = crw f N d + (if v = d then 1 else 0) := by
  have h := cnt_chg (p := fun j => decide (f j = d)) (q := fun j => decide ((if j = m then v else f j) = d)) (m := m) (n := N) hm (fun j hj hn => by simp [hn])
  simp only [decide_eq_true_eq, if_true] at h
  exact h
theorem crw_congr {f g : Nat → Nat} {N d : Nat} (h : ∀ j, j < N → f j = g j) : crw f N d = crw g N d := cnt_congr (fun j hj => by rw [h j hj])
theorem OD.congr {w : Wst} {i N : Nat} {q e : Int32} {f g : Nat → Nat} (h : ∀ j, j < N → f j = g j) (o : OD w i N q e f) : OD w i N q e g := by
  obtain ⟨a1, a2, a3, a4, a5, a6⟩ := o
  refine ⟨a1, a2, a3, fun j hj => ?_, ?_, ?_⟩
  · rw [← h j hj]
    exact a4 j hj
  · rw [← crw_congr h]
    exact a5
  · rw [← crw_congr h]
    exact a6
theorem c_turnOn {q e : Int32} {n : Nat} (W : WW ad w h) (hC : isC i) (hR : CR w i V) (hV : VOK V) (hn8 : nm V ≤ 8) (ho : OD w i (nm V) q e (dg n)) (kk : ∀ h' w', WW ad w' h' → kp l6061 w w' → OD w' i (nm V) q e (dg (n + 1)) → P (.inl none) h') : WP ga L xs (d + 1) 69 [.ref (ad 60)] h P := by
  refine WP.enter kX5_turnOn (Nat.le_of_ble_eq_true rfl) (fun J hJ => ?_)
  have loop : ∀ m, m ≤ nm V → ∀ h' w', WW ad w' h' → kp l6061 w w' → OD w' i (nm V) q e (fun j => if j < m then 0 else dg n j) → (∀ j, j < m → dg n j = 2) → J 1 [some (.ref (ad 60)), some (.int (kI (m : Int)))] [] h' (0, 0) := up_ind (fun m hm ih h0 w0 W0 hk ho hd2 => ?_)
  · refine hJ 0 _ _ rfl _ _ _ _ (x_sipush (x_istore rfl (x_goto (?_))))
    exact loop 0 (Nat.zero_le _) _ _ W kp_refl (ho.congr (fun j _ => by show dg n j = if j < 0 then 0 else dg n j; rw [if_neg (by omega)])) (fun j hj => by omega)
  have hR0 : CR w0 i V := hR.far hk hC l6061G
  have en : wn w0 i 4 = kI (nm V : Int) := hR0.n hV
  obtain ⟨s1, s2⟩ := dg_succ m n hd2
  have hdl := dg_lt m n
  have hch : m < nm V → wa w0 61 m = kI (dg n m : Int) := fun h9 => by
    rw [ho.2.2.2.1 m h9]
    show kI (((if m < m then 0 else dg n m) : Nat) : Int) = _
    rw [if_neg (by omega)]
  have c1 := crw_le (fun j => if j < m then 0 else dg n j) (nm V) 1
  have c2 := crw_le (fun j => if j < m then 0 else dg n j) (nm V) 2
  have cs : ∀ v d, m < nm V → crw (fun j => if j = m then v else if j < m then 0 else dg n j) (nm V) d + (if dg n m = d then 1 else 0) = crw (fun j => if j < m then 0 else dg n j) (nm V) d + (if v = d then 1 else 0) := fun v d h9 => by
    have h8 := crw_set (f := fun j => if j < m then 0 else dg n j) (N := nm V) (m := m) (d := d) (v := v) h9
    simp only [Nat.lt_irrefl, if_false] at h8
    exact h8
  have new : ∀ (w' : Wst) (v a b : Nat), m < nm V → wr w' 60 1 = i → wn w' 60 2 = q → wn w' 60 3 = e → wa w' 61 = upd (wa w0 61) m (kI (v : Int)) → wn w' 60 4 = kI (a : Int) → wn w' 60 5 = kI (b : Int) → a = crw (fun j => if j = m then v else if j < m then 0 else dg n j) (nm V) 1 → b = crw (fun j => if j = m then v else if j < m then 0 else dg n j) (nm V) 2 → OD w' i (nm V) q e (fun j => if j = m then v else if j < m then 0 else dg n j) := fun w' v a b h9 g1 g2 g3 g4 g5 g6 g7 g8 => by
    refine ⟨g1, g2, g3, fun j hj => ?_, by rw [g5, g7], by rw [g6, g8]⟩
    rw [g4]
    by_cases ej : j = m
    · subst ej
      rw [upd_self]
      show _ = kI (((if j = j then v else if j < j then 0 else dg n j) : Nat) : Int)
      rw [if_pos rfl]
    · rw [upd_ne ej]
      show _ = kI (((if j = m then v else if j < m then 0 else dg n j) : Nat) : Int)
      rw [if_neg ej]
      exact ho.2.2.2.1 j hj
  have done : ∀ v, dg n m + 1 = v → ¬ dg n m = 2 → ∀ j, j < nm V → (if j = m then v else if j < m then 0 else dg n j) = dg (n + 1) j := fun v hv h2 j hj => by
    obtain ⟨g1, g2⟩ := s2 h2
    by_cases ej : j = m
    · subst ej
      rw [if_pos rfl, g1, hv]
    · rw [if_neg ej]
      by_cases hl : j < m
      · rw [if_pos hl, s1 j hl]
      · rw [if_neg hl, g2 j (by omega)]
  have i1 : ∀ a b : Nat, a < 3 → b < 3 → (kI (a : Int) = kI (b : Int) ↔ a = b) := fun a b h9 h8 => kN_inj (by omega) (by omega)
  refine hJ 1 _ _ rfl _ _ _ _ (x_iload rfl (x_aload rfl (w_getr W0 5 1 (t := i) (by decide) shp_60 rfl rfl ho.1 (w_geti W0 0 4 hC.lt hC.sh rfl rfl (x_br2 (fun q1 => have q1 := ge_y en (by omega) q1; hJ 4 _ _ rfl _ _ _ _ (x_vret rfl ?_)) (fun q1 => have q1 := ge_n en (by omega) q1; x_aload rfl (w_getr W0 5 0 (t := 61) (by decide) shp_60 rfl rfl rfl (x_iload rfl (w_iald W0 m (by decide) shp_61 rfl (by omega) (by decide) (x_br (fun q2 => have q2 := cy_ne q2; hJ 2 _ _ rfl _ _ _ _ (x_aload rfl (w_getr W0 5 0 (t := 61) (by decide) shp_60 rfl rfl rfl (x_iload rfl (w_iald W0 m (by decide) shp_61 rfl (by omega) (by decide) (x_sipush (x_br2 (fun q3 => have q3 := cy_ne q3; hJ 3 _ _ rfl _ _ _ _ (x_aload rfl (w_getr W0 5 0 (t := 61) (by decide) shp_60 rfl rfl rfl (x_iload rfl (x_sipush (w_iast W0 m (by decide) shp_61 rfl (by omega) (by decide) (fun h1 W1 => x_aload rfl (x_dupr (w_geti W1 5 5 (by decide) shp_60 rfl rfl (x_sipush (x_isub (w_puti W1 5 5 (by decide) shp_60 rfl rfl (okI rfl) (fun h2 W2 => x_iinc rfl rfl (x_goto (?_))))))))))))))) (fun q3 => have q3 := cn_ne q3; x_aload rfl (w_getr W0 5 0 (t := 61) (by decide) shp_60 rfl rfl rfl (x_iload rfl (x_sipush (w_iast W0 _ (by decide) shp_61 rfl (by omega) (by decide) (fun h3 W3 => x_aload rfl (x_dupr (w_geti W3 5 4 (by decide) shp_60 rfl rfl (x_sipush (x_isub (w_puti W3 5 4 (by decide) shp_60 rfl rfl (okI rfl) (fun h4 W4 => x_aload rfl (x_dupr (w_geti W4 5 5 (by decide) shp_60 rfl rfl (x_sipush (x_iadd (w_puti W4 5 5 (by decide) shp_60 rfl rfl (okI rfl) (fun h5 W5 => x_vret rfl ?_))))))))))))))))))))))))) (fun q2 => have q2 := cn_ne q2; x_aload rfl (w_getr W0 5 0 (t := 61) (by decide) shp_60 rfl rfl rfl (x_iload rfl (x_sipush (w_iast W0 m (by decide) shp_61 rfl (by omega) (by decide) (fun h6 W6 => x_aload rfl (x_dupr (w_geti W6 5 4 (by decide) shp_60 rfl rfl (x_sipush (x_iadd (w_puti W6 5 4 (by decide) shp_60 rfl rfl (okI rfl) (fun h7 W7 => x_vret rfl ?_))))))))))))))))))))))
  · refine kk h0 w0 W0 hk (ho.congr (fun j hj => ?_))
    show (if j < m then 0 else dg n j) = dg (n + 1) j
    rw [if_pos (by omega), s1 j (by omega)]
  · have q4 : ¬ kI (dg n m : Int) = kI ((0 : Nat) : Int) := hch q1 ▸ q2
    have q5 : ¬ kI (dg n m : Int) = kI ((1 : Nat) : Int) := hch q1 ▸ q3
    rw [i1 _ _ hdl (by omega)] at q4 q5
    have h2m : dg n m = 2 := by omega
    have g1 := cs 0 1 q1
    have g2 := cs 0 2 q1
    rw [if_neg (by omega), if_neg (by omega)] at g1
    rw [if_pos h2m, if_neg (by omega)] at g2
    refine J_c (ih q1 h2 _ W2 (hk.trans ((kp_sa (by decide)).trans (kp_sn (by decide)))) ((new _ 0 (crw (fun j => if j < m then 0 else dg n j) (nm V) 1) (crw (fun j => if j < m then 0 else dg n j) (nm V) 2 - 1) q1 (by exact ho.1) (by simp [wn_sn, wn_sa]; exact ho.2.1) (by simp [wn_sn, wn_sa]; exact ho.2.2.1) (by rfl) (by simp [wn_sn, wn_sa]; exact ho.2.2.2.2.1) (by simp only [wn_sn, wn_sa, and_self, if_true]; rw [ho.2.2.2.2.2, kN_pred (by omega)]) (by omega) (by omega)).congr (fun j hj => ?_)) (fun j hj => ?_)) (by simp only [sI, kN_succ])
    · show (if j = m then 0 else if j < m then 0 else dg n j) = if j < m + 1 then 0 else dg n j
      by_cases ej : j = m
      · rw [if_pos ej, if_pos (by omega)]
      · rw [if_neg ej]
        by_cases hl : j < m
        · rw [if_pos hl, if_pos (by omega)]
        · rw [if_neg hl, if_neg (by omega)]
    · by_cases ej : j = m
      · rw [ej]; exact h2m
      · exact hd2 j (by omega)
  · have q5 : kI (dg n m : Int) = kI ((1 : Nat) : Int) := hch q1 ▸ q3
    rw [i1 _ _ hdl (by omega)] at q5
    have g1 := cs 2 1 q1
    have g2 := cs 2 2 q1
    rw [if_pos q5, if_neg (by omega)] at g1
    rw [if_neg (by omega), if_pos rfl] at g2
    exact kk h5 _ W5 (hk.trans (((kp_sa (by decide)).trans (kp_sn (by decide))).trans (kp_sn (by decide)))) ((new _ 2 (crw (fun j => if j < m then 0 else dg n j) (nm V) 1 - 1) (crw (fun j => if j < m then 0 else dg n j) (nm V) 2 + 1) q1 (by exact ho.1) (by simp [wn_sn, wn_sa]; exact ho.2.1) (by simp [wn_sn, wn_sa]; exact ho.2.2.1) (by rfl) (by simp [wn_sn, wn_sa]; rw [ho.2.2.2.2.1, kN_pred (by omega)]) (by simp [wn_sn, wn_sa]; rw [ho.2.2.2.2.2, kN_succ]; rfl) (by omega) (by omega)).congr (done 2 (by omega) (by omega)))
  · have q5 : kI (dg n m : Int) = kI ((0 : Nat) : Int) := hch q1 ▸ q2
    rw [i1 _ _ hdl (by omega)] at q5
    have g1 := cs 1 1 q1
    have g2 := cs 1 2 q1
    rw [if_neg (by omega), if_pos rfl] at g1
    rw [if_neg (by omega), if_neg (by omega)] at g2
    exact kk h7 _ W7 (hk.trans ((kp_sa (by decide)).trans (kp_sn (by decide)))) ((new _ 1 (crw (fun j => if j < m then 0 else dg n j) (nm V) 1 + 1) (crw (fun j => if j < m then 0 else dg n j) (nm V) 2) q1 (by exact ho.1) (by simp [wn_sn, wn_sa]; exact ho.2.1) (by simp [wn_sn, wn_sa]; exact ho.2.2.1) (by rfl) (by simp [wn_sn, wn_sa]; rw [ho.2.2.2.2.1, kN_succ]; rfl) (by simp [wn_sn, wn_sa]; exact ho.2.2.2.2.2) (by omega) (by omega)).congr (done 1 (by omega) (by omega)))
end W1
