/-! ===== the reader: tokens ===== -/
section STW
variable {call : Nat → List Value → ac_H → ac_P → Prop} {cs : Nat → Nat × Nat} {ga : Nat → Nat} {L : Nat} {xs : Nat → Int32} {mb : Nat × Nat} {hands : List (Nat × Int)} {rt : Option FieldType} {Q : ac_P} {J : Nat → ac_X}
variable {is : ac_I} {ls : ac_L} {s : List Value} {h : ac_H} {bg : Nat × Nat} {z : Nat}
theorem x_ldc {k : Nat} (kk : xB call cs ga L xs sl mb hands rt Q J is ls (.ref (ga (3 + k)) :: s) h bg) : xB call cs ga L xs sl mb hands rt Q J ((.ldc k, z) :: is) ls s h bg := by
  simp only [xB]
  exact kk
theorem x_slen {x : Nat} (hx : x < 17) (hs : s.length ≤ 4) (kk : xB call cs ga L xs sl mb hands rt Q J is ls (.int (Int32.ofNat (sl x).length) :: s) h bg) : xB call cs ga L xs sl mb hands rt Q J ((.invokedynamic 0, z) :: is) ls (.ref (ga (3 + x)) :: s) h bg := by
  simp only [xB]
  exact ⟨x, hx, rfl, hs, kk⟩
theorem x_schr {x j : Nat} {y : Int32} (hx : x < 17) (hy : y = kI (j : Int)) (hj : j < (sl x).length) (hs : s.length ≤ 4) (kk : xB call cs ga L xs sl mb hands rt Q J is ls (.int ((sl x).getD j 0) :: s) h bg) : xB call cs ga L xs sl mb hands rt Q J ((.invokedynamic 1, z) :: is) ls (.int y :: .ref (ga (3 + x)) :: s) h bg := by
  subst hy
  have hl := (sl_ok x hx).2.1
  obtain ⟨h1, h2⟩ := vp_inN hj (by omega)
  simp only [xB]
  refine ⟨x, hx, rfl, h1, hs, ?_⟩
  rw [h2]
  exact kk
end STW
theorem ofN_kI (n : Nat) : Int32.ofNat n = kI (n : Int) := by
  unfold kI
  rw [Int32.ofInt_eq_ofNat]
theorem sx_eq : ∀ a : Nat, a < 256 → ∀ k : Nat, k < 128 → (sx a = kI (k : Int) ↔ a = k) := by
  intro a ha k hk
  unfold sx
  by_cases h : a < 128
  · rw [if_pos h, kN_inj (by omega) (by omega)]
  · rw [if_neg h, kI_inj (by omega) (by omega) (by omega) (by omega)]
    omega
theorem sx_toInt {a : Nat} (ha : a < 256) : (sx a).toInt = if a < 128 then (a : Int) else (a : Int) - 256 := by
  unfold sx
  split
  · rw [kN_toInt (by omega)]
  · rw [kI_toInt (by omega) (by omega)]
theorem sl_chr : ∀ x, x < 17 → ∀ i, i < (sl x).length → (sl x).getD i 0 = kI ((((sl x).getD i 0).toInt.toNat : Nat) : Int) ∧ ((sl x).getD i 0).toInt.toNat < 128 := by decide +kernel
/-- the reader shows a token -/
def RdC (w : Wst) (τ : Nat → Nat) (n : Nat) (t : TK) : Prop := wn w 42 4 = kI (n : Int) ∧ wn w 42 5 = kI (t.2.1 : Int) ∧ wn w 42 6 = kI (t.2.2 : Int) ∧ wn w 42 7 = kI (t.1 : Int) ∧ ∀ j, j < n → wa w 43 j = sx (τ j)
/-- what is kept: all cells but the reader's and i's; of the reader all fields but those told -/
def kD (i : Nat) (l : List Nat) (w w' : Wst) : Prop := (∀ a, a ≠ 42 → ¬ (i ≤ a ∧ a < i + 5) → same w w' a) ∧ wr w' 42 = wr w 42 ∧ ∀ j, j ∉ l → wn w' 42 j = wn w 42 j
def kR (l : List Nat) (w w' : Wst) : Prop := (∀ a, a ≠ 42 → same w w' a) ∧ wr w' 42 = wr w 42 ∧ ∀ j, j ∉ l → wn w' 42 j = wn w 42 j
theorem kR.d {i : Nat} {l : List Nat} {w w' : Wst} (h : kR l w w') : kD i l w w' := ⟨fun a h1 _ => h.1 a h1, h.2⟩
theorem kR_refl {l : List Nat} {w : Wst} : kR l w w := ⟨fun _ _ => same_refl, rfl, fun _ _ => rfl⟩
theorem kR.trans {l : List Nat} {w w' w'' : Wst} (h : kR l w w') (g : kR l w' w'') : kR l w w'' := ⟨fun a ha => (h.1 a ha).trans (g.1 a ha), g.2.1.trans h.2.1, fun j hj => (g.2.2 j hj).trans (h.2.2 j hj)⟩
theorem kR.mono {l m : List Nat} {w w' : Wst} (h : kR l w w') (hl : ∀ a ∈ l, a ∈ m) : kR m w w' := ⟨h.1, h.2.1, fun j hj => h.2.2 j (fun z => hj (hl j z))⟩
theorem kR_sn {l : List Nat} {w : Wst} {j : Nat} {x : Int32} (hj : j ∈ l) : kR l w (sn w 42 j x) := ⟨fun a ha => same_sn ha, rfl, fun b hb => by
  rw [wn_sn]
  exact if_neg (fun (z : 42 = 42 ∧ b = j) => hb (z.2 ▸ hj))⟩
def l567 : List Nat := [5, 6, 7]
def lflt : List Nat := [2, 3, 5, 6, 7]
theorem l567f : ∀ a ∈ l567, a ∈ lflt := by decide
section W1
variable {τ : Nat → Nat} {n : Nat}
variable {ga : Nat → Nat} {L : Nat} {xs : Nat → Int32} {d : Nat} {h : ac_H} {P : ac_P} {ad : Nat → Nat} {w : Wst} {i : Nat} {V : VT}
theorem c_isLetter {c : Nat} {x : Int32} (hx : x = sx c) (hc : c < 256) (hP : P (.inl (some (.int (bI (isLb c))))) h) : WP ga L xs (d + 1) 54 [.int x] h P := by
  subst hx
  have e := sx_toInt hc
  have z1 : (kI 97).toInt = 97 := rfl
  have z2 : (kI 122).toInt = 122 := rfl
  unfold isLb at hP
  refine WP.enter kX2_isLetter (Nat.le_of_ble_eq_true rfl) (fun J hJ => ?_)
  refine hJ 0 _ _ rfl _ _ _ _ (x_iload rfl (x_sipush (x_br2 (fun q1 => have q1 := cy_lt q1; hJ 1 _ _ rfl _ _ _ _ (x_sipush (x_goto (hJ 2 _ _ rfl _ _ _ _ (x_iret (by first | exact nrwB _ | rfl | decide) ?_))))) (fun q1 => have q1 := cn_lt q1; x_iload rfl (x_sipush (x_br2 (fun q2 => have q2 := cy_gt q2; hJ 1 _ _ rfl _ _ _ _ (x_sipush (x_goto (hJ 2 _ _ rfl _ _ _ _ (x_iret (by first | exact nrwB _ | rfl | decide) ?_))))) (fun q2 => have q2 := cn_gt q2; x_sipush (x_goto (hJ 2 _ _ rfl _ _ _ _ (x_iret (by first | exact nrwB _ | rfl | decide) ?_))))))))))
  · rw [Int32.lt_iff_toInt_lt, e, z1] at q1
    rw [decide_eq_false (by split at q1 <;> omega)] at hP
    exact hP
  · rw [Int32.lt_iff_toInt_lt, e, z2] at q2
    rw [decide_eq_false (by split at q2 <;> omega)] at hP
    exact hP
  · rw [Int32.le_iff_toInt_le, e, z1] at q1
    rw [Int32.le_iff_toInt_le, e, z2] at q2
    rw [decide_eq_true (by split at q1 <;> split at q2 <;> omega)] at hP
    exact hP
theorem c_isDigit {c : Nat} {x : Int32} (hx : x = sx c) (hc : c < 256) (hP : P (.inl (some (.int (bI (isDb c))))) h) : WP ga L xs (d + 1) 55 [.int x] h P := by
  subst hx
  have e := sx_toInt hc
  have z1 : (kI 48).toInt = 48 := rfl
  have z2 : (kI 57).toInt = 57 := rfl
  unfold isDb at hP
  refine WP.enter kX2_isDigit (Nat.le_of_ble_eq_true rfl) (fun J hJ => ?_)
  refine hJ 0 _ _ rfl _ _ _ _ (x_iload rfl (x_sipush (x_br2 (fun q1 => have q1 := cy_lt q1; hJ 1 _ _ rfl _ _ _ _ (x_sipush (x_goto (hJ 2 _ _ rfl _ _ _ _ (x_iret (by first | exact nrwB _ | rfl | decide) ?_))))) (fun q1 => have q1 := cn_lt q1; x_iload rfl (x_sipush (x_br2 (fun q2 => have q2 := cy_gt q2; hJ 1 _ _ rfl _ _ _ _ (x_sipush (x_goto (hJ 2 _ _ rfl _ _ _ _ (x_iret (by first | exact nrwB _ | rfl | decide) ?_))))) (fun q2 => have q2 := cn_gt q2; x_sipush (x_goto (hJ 2 _ _ rfl _ _ _ _ (x_iret (by first | exact nrwB _ | rfl | decide) ?_))))))))))
  · rw [Int32.lt_iff_toInt_lt, e, z1] at q1
    rw [decide_eq_false (by split at q1 <;> omega)] at hP
    exact hP
  · rw [Int32.lt_iff_toInt_lt, e, z2] at q2
    rw [decide_eq_false (by split at q2 <;> omega)] at hP
    exact hP
  · rw [Int32.le_iff_toInt_le, e, z1] at q1
    rw [Int32.le_iff_toInt_le, e, z2] at q2
    rw [decide_eq_true (by split at q1 <;> split at q2 <;> omega)] at hP
    exact hP
theorem atY {a n : Nat} {x y : Int32} (h : a ≤ 100000 ∧ n ≤ 100000) (hx : x = kI (a : Int)) (hy : y = kI (n : Int)) (b : y ≤ x) : n ≤ a := by
  rw [hx, hy, kN_le (by omega) (by omega)] at b
  exact b
theorem atN {a n : Nat} {x y : Int32} (h : a ≤ 100000 ∧ n ≤ 100000) (hx : x = kI (a : Int)) (hy : y = kI (n : Int)) (b : ¬ y ≤ x) : a < n := by
  rw [hx, hy, kN_le (by omega) (by omega)] at b
  omega
theorem atL {a n : Nat} {x y : Int32} (h : a ≤ 100000 ∧ n ≤ 100000) (hx : x = kI (a : Int)) (hy : y = kI (n : Int)) (b : x < y) : a < n := by
  rw [hx, hy, kN_lt (by omega) (by omega)] at b
  exact b
theorem atM {a n : Nat} {x y : Int32} (h : a ≤ 100000 ∧ n ≤ 100000) (hx : x = kI (a : Int)) (hy : y = kI (n : Int)) (b : ¬ x < y) : n ≤ a := by
  rw [hx, hy, kN_lt (by omega) (by omega)] at b
  omega
def RdA (w : Wst) (τ : Nat → Nat) (n p : Nat) : Prop := wn w 42 4 = kI (n : Int) ∧ wn w 42 5 = kI (p : Int) ∧ ∀ j, j < n → wa w 43 j = sx (τ j)
theorem RdC.a {w : Wst} {τ : Nat → Nat} {n : Nat} {t : TK} (h : RdC w τ n t) : RdA w τ n t.2.1 := ⟨h.1, h.2.1, h.2.2.2.2⟩
theorem RdA.of {w w' : Wst} {τ : Nat → Nat} {n p : Nat} {t' : TK} (h : RdA w τ n p) (k : kR l567 w w') (e5 : wn w' 42 5 = kI (t'.2.1 : Int)) (e6 : wn w' 42 6 = kI (t'.2.2 : Int)) (e7 : wn w' 42 7 = kI (t'.1 : Int)) : RdC w' τ n t' := ⟨(k.2.2 4 (by decide)).trans h.1, e5, e6, e7, fun j hj => by rw [(k.1 43 (by omega)).2.2.1]; exact h.2.2 j hj⟩
theorem c_advA {p : Nat} (W : WW ad w h) (hd : RdA w τ n p) (hp : p ≤ n) (hn7 : n ≤ 700) (hτ : ∀ k, τ k < 256) (kk : ∀ h' w', WW ad w' h' → kR l567 w w' → RdC w' τ n (tk τ n p) → P (.inl none) h') : WP ga L xs (d + 2) 53 [.ref (ad 42)] h P := by
  refine WP.enter kX2_advance (Nat.le_of_ble_eq_true rfl) (fun J hJ => ?_)
  have b7 : ∀ q r, tkF τ n q = (q, r, if 3 < r - q then 0 else 2) → tkS τ n p = q → q ≤ r → r ≤ n → ∀ h0 w0, WW ad w0 h0 → kR l567 w w0 → wn w0 42 5 = kI (r : Int) → wn w0 42 7 = kI (q : Int) → J 7 [some (.ref (ad 42))] [] h0 (0, 0) := fun q r hF hS hqr hrn h0 w0 W0 hk h5 h7 => ?_
  · have loop6 : ∀ q, q ≤ n → tkS τ n p = q → ¬ isLb (τ q) = true → isDb (τ q) = true → q < n → ∀ r, r ≤ n → q ≤ r → tkD τ n q = tkD τ n r → ∀ h0 w0, WW ad w0 h0 → kR l567 w w0 → wn w0 42 5 = kI (r : Int) → wn w0 42 7 = kI (q : Int) → J 6 [some (.ref (ad 42))] [] h0 (0, 0) := fun q hqn hS hnl hdq hq9 => up_ind (fun r hr ih hqr hT h0 w0 W0 hk h5 h7 => ?_)
    · have loop4 : ∀ q, q < n → tkS τ n p = q → isLb (τ q) = true → ∀ r, r ≤ n → q ≤ r → tkL τ n q = tkL τ n r → ∀ h0 w0, WW ad w0 h0 → kR l567 w w0 → wn w0 42 5 = kI (r : Int) → wn w0 42 6 = kI 1 → wn w0 42 7 = kI (q : Int) → J 4 [some (.ref (ad 42))] [] h0 (0, 0) := fun q hqn hS hl => up_ind (fun r hr ih hqr hT h0 w0 W0 hk h5 h6 h7 => ?_)
      · have b2 : ∀ q, q ≤ n → tkS τ n p = q → ∀ h0 w0, WW ad w0 h0 → kR l567 w w0 → wn w0 42 5 = kI (q : Int) → J 2 [some (.ref (ad 42))] [] h0 (0, 0) := fun q hq hS h0 w0 W0 hk h5 => ?_
        · have loop0 : ∀ q, q ≤ n → p ≤ q → tkS τ n p = tkS τ n q → ∀ h0 w0, WW ad w0 h0 → kR l567 w w0 → wn w0 42 5 = kI (q : Int) → J 0 [some (.ref (ad 42))] [] h0 (0, 0) := up_ind (fun q hq ih hpq hS h0 w0 W0 hk h5 => ?_)
          · exact loop0 p hp (Nat.le_refl _) rfl _ _ W kR_refl hd.2.1
          have h4 : wn w0 42 4 = kI (n : Int) := (hk.2.2 4 (by decide)).trans hd.1
          have hbt0 : ∀ j, j < n → wa w0 43 j = sx (τ j) := fun j hj => by rw [(hk.1 43 (by omega)).2.2.1]; exact hd.2.2 j hj
          have hc32 : q < n → (wa w0 43 q = kI 32 ↔ τ q = 32) := fun h => by rw [hbt0 q h]; exact sx_eq _ (hτ q) 32 (by omega)
          have hc10 : q < n → (wa w0 43 q = kI 10 ↔ τ q = 10) := fun h => by rw [hbt0 q h]; exact sx_eq _ (hτ q) 10 (by omega)
          refine hJ 0 _ _ rfl _ _ _ _ (x_aload rfl (w_geti W0 2 5 (by decide) shp_42 rfl rfl (x_aload rfl (w_geti W0 2 4 (by decide) shp_42 rfl rfl (x_br2 (fun q1 => have q1 := atY (by omega) h5 h4 q1; ?_) (fun q1 => have q1 := atN (by omega) h5 h4 q1; x_aload rfl (w_getr W0 2 0 (t := 43) (by decide) shp_42 rfl rfl rfl (x_aload rfl (w_geti W0 2 5 (by decide) shp_42 rfl rfl (w_bald W0 q (by decide) shp_43 (by decide) h5 (by omega) (by decide) (x_sipush (x_br2 (fun q2 => have q2 := cy_eq q2; hJ 1 _ _ rfl _ _ _ _ (x_aload rfl (x_dupr (w_geti W0 2 5 (by decide) shp_42 rfl rfl (x_sipush (x_iadd (w_puti W0 2 5 (by decide) shp_42 rfl rfl (okI rfl) (fun h1 W1 => x_goto (?_))))))))) (fun q2 => have q2 := cn_eq q2; x_aload rfl (w_getr W0 2 0 (t := 43) (by decide) shp_42 rfl rfl rfl (x_aload rfl (w_geti W0 2 5 (by decide) shp_42 rfl rfl (w_bald W0 q (by decide) shp_43 (by decide) h5 (by omega) (by decide) (x_sipush (x_br2 (fun q3 => have q3 := cy_ne q3; ?_) (fun q3 => have q3 := cn_ne q3; x_goto (hJ 1 _ _ rfl _ _ _ _ (x_aload rfl (x_dupr (w_geti W0 2 5 (by decide) shp_42 rfl rfl (x_sipush (x_iadd (w_puti W0 2 5 (by decide) shp_42 rfl rfl (okI rfl) (fun h2 W2 => x_goto (?_)))))))))))))))))))))))))))))
          · exact b2 q hq (by rw [hS]; exact fw_n (Or.inl q1)) h0 w0 W0 hk h5
          · have hb : isBb (τ q) = true := decide_eq_true (Or.inl ((hc32 q1).mp q2))
            exact ih q1 (by omega) (by rw [hS]; exact fw_y (P := fun j => isBb (τ j)) q1 hb) h1 _ W1 (hk.trans (kR_sn (by decide))) (by rw [wn_sn, if_pos ⟨rfl, rfl⟩, h5, kN_succ])
          · have hb : isBb (τ q) = false := decide_eq_false (fun z => z.elim (fun z => q2 ((hc32 q1).mpr z)) (fun z => q3 ((hc10 q1).mpr z)))
            exact b2 q hq (by rw [hS]; exact fw_n (P := fun j => isBb (τ j)) (Or.inr hb)) h0 w0 W0 hk h5
          · have hb : isBb (τ q) = true := decide_eq_true (Or.inr ((hc10 q1).mp q3))
            exact ih q1 (by omega) (by rw [hS]; exact fw_y (P := fun j => isBb (τ j)) q1 hb) h2 _ W2 (hk.trans (kR_sn (by decide))) (by rw [wn_sn, if_pos ⟨rfl, rfl⟩, h5, kN_succ])
        have h4 : wn w0 42 4 = kI (n : Int) := (hk.2.2 4 (by decide)).trans hd.1
        have hbt0 : ∀ j, j < n → wa w0 43 j = sx (τ j) := fun j hj => by rw [(hk.1 43 (by omega)).2.2.1]; exact hd.2.2 j hj
        have hbt : q < n → wa w0 43 q = sx (τ q) := fun h9 => hbt0 q h9
        have hfin : tk τ n p = tkF τ n q := by unfold tk; rw [hS]
        have hc59 : q < n → (wa w0 43 q = kI 59 ↔ τ q = 59) := fun h => by rw [hbt0 q h]; exact sx_eq _ (hτ q) 59 (by omega)
        refine hJ 2 _ _ rfl _ _ _ _ (x_aload rfl (x_aload rfl (w_geti W0 2 5 (by decide) shp_42 rfl rfl (w_puti W0 2 7 (by decide) shp_42 rfl rfl (okI rfl) (fun h1 W1 => x_aload rfl (w_geti W1 2 5 (by decide) shp_42 rfl rfl (x_aload rfl (w_geti W1 2 4 (by decide) shp_42 rfl rfl (x_br2 (fun q1 => have q1 := atL (by omega) h5 h4 q1; hJ 3 _ _ rfl _ _ _ _ (x_aload rfl (w_getr W1 2 0 (t := 43) (by decide) shp_42 rfl rfl rfl (x_aload rfl (w_geti W1 2 5 (by decide) shp_42 rfl rfl (w_bald W1 q (by decide) shp_43 (by decide) h5 (by omega) (by decide) (x_cs rfl (Nat.le_of_ble_eq_true rfl) (c_isLetter (hbt q1) (hτ q) (xk_go (x_br (fun q2 => have q2 := bI_eq0.mp q2; hJ 5 _ _ rfl _ _ _ _ (x_aload rfl (w_getr W1 2 0 (t := 43) (by decide) shp_42 rfl rfl rfl (x_aload rfl (w_geti W1 2 5 (by decide) shp_42 rfl rfl (w_bald W1 q (by decide) shp_43 (by decide) h5 (by omega) (by decide) (x_cs rfl (Nat.le_of_ble_eq_true rfl) (c_isDigit (hbt q1) (hτ q) (xk_go (x_br (fun q3 => have q3 := bI_eq0.mp q3; hJ 10 _ _ rfl _ _ _ _ (x_aload rfl (x_aload rfl (w_getr W1 2 0 (t := 43) (by decide) shp_42 rfl rfl rfl (x_aload rfl (w_geti W1 2 5 (by decide) shp_42 rfl rfl (w_bald W1 q (by decide) shp_43 (by decide) h5 (by omega) (by decide) (x_sipush (x_br2 (fun q4 => have q4 := cy_ne q4; hJ 11 _ _ rfl _ _ _ _ (x_sipush (x_goto (hJ 12 _ _ rfl _ _ _ _ (w_puti W1 2 6 (by decide) shp_42 rfl rfl (okI rfl) (fun h2 W2 => x_aload rfl (x_dupr (w_geti W2 2 5 (by decide) shp_42 rfl rfl (x_sipush (x_iadd (w_puti W2 2 5 (by decide) shp_42 rfl rfl (okI rfl) (fun h3 W3 => x_goto (hJ 13 _ _ rfl _ _ _ _ (x_vret rfl ?_)))))))))))))) (fun q4 => have q4 := cn_ne q4; x_sipush (x_goto (hJ 12 _ _ rfl _ _ _ _ (w_puti W1 2 6 (by decide) shp_42 rfl rfl (okI rfl) (fun h4 W4 => x_aload rfl (x_dupr (w_geti W4 2 5 (by decide) shp_42 rfl rfl (x_sipush (x_iadd (w_puti W4 2 5 (by decide) shp_42 rfl rfl (okI rfl) (fun h5' W5 => x_goto (hJ 13 _ _ rfl _ _ _ _ (x_vret rfl ?_)))))))))))))))))))))) (fun q3 => have q3 := bI_ne0.mp q3; x_goto (?_)))))))))))) (fun q2 => have q2 := bI_ne0.mp q2; x_aload rfl (x_sipush (w_puti W1 2 6 (by decide) shp_42 rfl rfl (okI rfl) (fun h6 W6 => x_goto (?_))))))))))))))) (fun q1 => have q1 := atM (by omega) h5 h4 q1; x_aload rfl (x_sipush (w_puti W1 2 6 (by decide) shp_42 rfl rfl (okI rfl) (fun h7 W7 => x_goto (hJ 13 _ _ rfl _ _ _ _ (x_vret rfl ?_)))))))))))))))
        · have hF : tkF τ n q = (q, q + 1, 0) := by
            unfold tkF
            rw [if_neg (by omega), if_neg (by rw [q2]; decide), if_neg (by rw [q3]; decide), if_neg (fun z => q4 ((hc59 q1).mpr z))]
          rw [hfin, hF] at kk
          exact kk h3 _ W3 (hk.trans (((kR_sn (by decide)).trans (kR_sn (by decide))).trans (kR_sn (by decide)))) (hd.of (hk.trans (((kR_sn (by decide)).trans (kR_sn (by decide))).trans (kR_sn (by decide)))) (by rw [wn_sn, if_pos ⟨rfl, rfl⟩]; show wn w0 42 5 + kI 1 = _; rw [h5, kN_succ]) (by simp [wn_sn]) (by simp [wn_sn, h5]))
        · have hF : tkF τ n q = (q, q + 1, 3) := by
            unfold tkF
            rw [if_neg (by omega), if_neg (by rw [q2]; decide), if_neg (by rw [q3]; decide), if_pos ((hc59 q1).mp q4)]
          rw [hfin, hF] at kk
          exact kk h5' _ W5 (hk.trans (((kR_sn (by decide)).trans (kR_sn (by decide))).trans (kR_sn (by decide)))) (hd.of (hk.trans (((kR_sn (by decide)).trans (kR_sn (by decide))).trans (kR_sn (by decide)))) (by rw [wn_sn, if_pos ⟨rfl, rfl⟩]; show wn w0 42 5 + kI 1 = _; rw [h5, kN_succ]) (by simp [wn_sn]) (by simp [wn_sn, h5]))
        · exact loop6 q hq hS (by rw [q2]; decide) q3 q1 q hq (Nat.le_refl _) rfl h1 _ W1 (hk.trans (kR_sn (by decide))) (by simp [wn_sn, h5]) (by simp [wn_sn, h5])
        · exact loop4 q q1 hS q2 q hq (Nat.le_refl _) rfl h6 _ W6 (hk.trans ((kR_sn (by decide)).trans (kR_sn (by decide)))) (by simp [wn_sn, h5]) (by simp [wn_sn]) (by simp [wn_sn, h5])
        · have hF : tkF τ n q = (q, q, 4) := by
            unfold tkF
            rw [if_pos q1]
          rw [hfin, hF] at kk
          exact kk h7 _ W7 (hk.trans ((kR_sn (by decide)).trans (kR_sn (by decide)))) (hd.of (hk.trans ((kR_sn (by decide)).trans (kR_sn (by decide)))) (by simp [wn_sn, h5]) (by simp [wn_sn]) (by simp [wn_sn, h5]))
      have h4 : wn w0 42 4 = kI (n : Int) := (hk.2.2 4 (by decide)).trans hd.1
      have hbt0 : ∀ j, j < n → wa w0 43 j = sx (τ j) := fun j hj => by rw [(hk.1 43 (by omega)).2.2.1]; exact hd.2.2 j hj
      have hbt : r < n → wa w0 43 r = sx (τ r) := fun h9 => hbt0 r h9
      have hfin : tk τ n p = tkF τ n q := by unfold tk; rw [hS]
      have hF : tkF τ n q = (q, tkL τ n q, 1) := by
        unfold tkF
        rw [if_neg (by omega), if_pos hl]
      rw [hfin, hF] at kk
      refine hJ 4 _ _ rfl _ _ _ _ (x_aload rfl (w_geti W0 2 5 (by decide) shp_42 rfl rfl (x_aload rfl (w_geti W0 2 4 (by decide) shp_42 rfl rfl (x_br2 (fun q1 => have q1 := atY (by omega) h5 h4 q1; hJ 13 _ _ rfl _ _ _ _ (x_vret rfl ?_)) (fun q1 => have q1 := atN (by omega) h5 h4 q1; x_aload rfl (w_getr W0 2 0 (t := 43) (by decide) shp_42 rfl rfl rfl (x_aload rfl (w_geti W0 2 5 (by decide) shp_42 rfl rfl (w_bald W0 r (by decide) shp_43 (by decide) h5 (by omega) (by decide) (x_cs rfl (Nat.le_of_ble_eq_true rfl) (c_isLetter (hbt q1) (hτ r) (xk_go (x_br (fun q2 => have q2 := bI_eq0.mp q2; hJ 13 _ _ rfl _ _ _ _ (x_vret rfl ?_)) (fun q2 => have q2 := bI_ne0.mp q2; x_aload rfl (x_dupr (w_geti W0 2 5 (by decide) shp_42 rfl rfl (x_sipush (x_iadd (w_puti W0 2 5 (by decide) shp_42 rfl rfl (okI rfl) (fun h1 W1 => x_goto (?_))))))))))))))))))))))
      · have e : tkL τ n q = r := by rw [hT]; exact fw_n (Or.inl q1)
        rw [e] at kk
        exact kk h0 w0 W0 hk (hd.of hk h5 h6 h7)
      · have e : tkL τ n q = r := by rw [hT]; exact fw_n (P := fun j => isLb (τ j)) (Or.inr q2)
        rw [e] at kk
        exact kk h0 w0 W0 hk (hd.of hk h5 h6 h7)
      · exact ih q1 (by omega) (by rw [hT]; exact fw_y (P := fun j => isLb (τ j)) q1 q2) h1 _ W1 (hk.trans (kR_sn (by decide))) (by rw [wn_sn, if_pos ⟨rfl, rfl⟩, h5, kN_succ]) (by rw [wn_sn, if_neg (fun z => by cases z.2)]; exact h6) (by rw [wn_sn, if_neg (fun z => by cases z.2)]; exact h7)
    have h4 : wn w0 42 4 = kI (n : Int) := (hk.2.2 4 (by decide)).trans hd.1
    have hbt0 : ∀ j, j < n → wa w0 43 j = sx (τ j) := fun j hj => by rw [(hk.1 43 (by omega)).2.2.1]; exact hd.2.2 j hj
    have hbt : r < n → wa w0 43 r = sx (τ r) := fun h9 => hbt0 r h9
    have hF : tkF τ n q = (q, tkD τ n q, if 3 < tkD τ n q - q then 0 else 2) := by
      unfold tkF
      rw [if_neg (by omega), if_neg hnl, if_pos hdq]
    refine hJ 6 _ _ rfl _ _ _ _ (x_aload rfl (w_geti W0 2 5 (by decide) shp_42 rfl rfl (x_aload rfl (w_geti W0 2 4 (by decide) shp_42 rfl rfl (x_br2 (fun q1 => have q1 := atY (by omega) h5 h4 q1; ?_) (fun q1 => have q1 := atN (by omega) h5 h4 q1; x_aload rfl (w_getr W0 2 0 (t := 43) (by decide) shp_42 rfl rfl rfl (x_aload rfl (w_geti W0 2 5 (by decide) shp_42 rfl rfl (w_bald W0 r (by decide) shp_43 (by decide) h5 (by omega) (by decide) (x_cs rfl (Nat.le_of_ble_eq_true rfl) (c_isDigit (hbt q1) (hτ r) (xk_go (x_br (fun q2 => have q2 := bI_eq0.mp q2; ?_) (fun q2 => have q2 := bI_ne0.mp q2; x_aload rfl (x_dupr (w_geti W0 2 5 (by decide) shp_42 rfl rfl (x_sipush (x_iadd (w_puti W0 2 5 (by decide) shp_42 rfl rfl (okI rfl) (fun h1 W1 => x_goto (?_))))))))))))))))))))))
    · have e : tkD τ n q = r := by rw [hT]; exact fw_n (Or.inl q1)
      rw [e] at hF
      exact b7 q r hF hS hqr hr h0 w0 W0 hk h5 h7
    · have e : tkD τ n q = r := by rw [hT]; exact fw_n (P := fun j => isDb (τ j)) (Or.inr q2)
      rw [e] at hF
      exact b7 q r hF hS hqr hr h0 w0 W0 hk h5 h7
    · exact ih q1 (by omega) (by rw [hT]; exact fw_y (P := fun j => isDb (τ j)) q1 q2) h1 _ W1 (hk.trans (kR_sn (by decide))) (by rw [wn_sn, if_pos ⟨rfl, rfl⟩, h5, kN_succ]) (by rw [wn_sn, if_neg (fun z => by cases z.2)]; exact h7)
  have e37 : wn w0 42 5 - wn w0 42 7 = kI ((r - q : Nat) : Int) := by
    rw [h5, h7, kI_sub]
    exact congrArg kI (by omega)
  have hfin : tk τ n p = tkF τ n q := by unfold tk; rw [hS]
  rw [hfin, hF] at kk
  refine hJ 7 _ _ rfl _ _ _ _ (x_aload rfl (x_aload rfl (w_geti W0 2 5 (by decide) shp_42 rfl rfl (x_aload rfl (w_geti W0 2 7 (by decide) shp_42 rfl rfl (x_isub (x_sipush (x_br2 (fun q1 => have q1 := cy_le q1; hJ 8 _ _ rfl _ _ _ _ (x_sipush (x_goto (hJ 9 _ _ rfl _ _ _ _ (w_puti W0 2 6 (by decide) shp_42 rfl rfl (okI rfl) (fun h1 W1 => x_goto (hJ 13 _ _ rfl _ _ _ _ (x_vret rfl ?_)))))))) (fun q1 => have q1 := cn_le q1; x_sipush (x_goto (hJ 9 _ _ rfl _ _ _ _ (w_puti W0 2 6 (by decide) shp_42 rfl rfl (okI rfl) (fun h2 W2 => x_goto (hJ 13 _ _ rfl _ _ _ _ (x_vret rfl ?_)))))))))))))))
  · rw [e37] at q1
    have q1 := (kN_le (b := 3) (by omega) (by omega)).mp q1
    rw [if_neg (by omega)] at kk
    exact kk h1 _ W1 (hk.trans (kR_sn (by decide))) (hd.of (hk.trans (kR_sn (by decide))) (by simp [wn_sn, h5]) (by simp [wn_sn]) (by simp [wn_sn, h7]))
  · rw [e37] at q1
    have q1 := (kN_lt (a := 3) (by omega) (by omega)).mp q1
    rw [if_pos q1] at kk
    exact kk h2 _ W2 (hk.trans (kR_sn (by decide))) (hd.of (hk.trans (kR_sn (by decide))) (by simp [wn_sn, h5]) (by simp [wn_sn]) (by simp [wn_sn, h7]))
theorem c_advance {t : TK} (W : WW ad w h) (hd : RdC w τ n t) (hp : t.2.1 ≤ n) (hn7 : n ≤ 700) (hτ : ∀ k, τ k < 256) (kk : ∀ h' w', WW ad w' h' → kR l567 w w' → RdC w' τ n (tk τ n t.2.1) → P (.inl none) h') : WP ga L xs (d + 2) 53 [.ref (ad 42)] h P := c_advA W hd.a hp hn7 hτ kk
end W1
