/-! ===== trays ===== -/
def isT (t : Nat) : Prop := t = 63 ∨ t = 65 ∨ t = 67 ∨ t = 69
theorem isT.lt {i : Nat} (h : isT i) : i < 97 := by unfold isT at h; omega
theorem isT.sh {i : Nat} (h : isT i) : shp (i) = (0, 3, 0) := by rcases h with rfl | rfl | rfl | rfl <;> rfl
theorem isT.lt1 {i : Nat} (h : isT i) : i + 1 < 97 := by unfold isT at h; omega
theorem isT.sh1 {i : Nat} (h : isT i) : shp (i + 1) = (1, 1, 60) := by rcases h with rfl | rfl | rfl | rfl <;> rfl
theorem isT.rf {i : Nat} (h : isT i) (w : Wst) : rfx w i 3 = i + 1 := by rcases h with rfl | rfl | rfl | rfl <;> rfl
/-- the trays: sorts (-1 missing), how many, the numbers one tray behind the other -/
abbrev TT : Type := (Nat → Int32) × (Nat → Int32) × (Nat → Int64)
def trM (T : TT) (t : Nat) : Nat := (T.2.1 t).toInt.toNat
def TcR (w : Wst) (T : TT) : Prop := ∀ t, t < 4 → wn w (63 + 2 * t) 0 = bI (decide (¬ T.1 t = kI (-1))) ∧ (¬ T.1 t = kI (-1) → wn w (63 + 2 * t) 1 = T.1 t) ∧ wn w (63 + 2 * t) 2 = T.2.1 t ∧ ∀ k, k < 60 → wl w (63 + 2 * t + 1) k = T.2.2 (60 * t + k)
def TmR (w : Wst) (T : TT) : Prop := (∀ t, t < 4 → wa w 93 t = T.1 t ∧ wa w 94 t = T.2.1 t) ∧ ∀ k, k < 240 → wl w 95 k = T.2.2 k
def TOK (T : TT) : Prop := ∀ t, t < 4 → (T.1 t = kI (-1) ∨ btw (T.1 t) 0 3) ∧ btw (T.2.1 t) 0 60
theorem TOK.m {T : TT} (h : TOK T) {t : Nat} (ht : t < 4) : T.2.1 t = kI (trM T t : Int) ∧ trM T t ≤ 60 := by
  have h := (h t ht).2
  unfold btw at h
  unfold trM
  exact ⟨by rw [Int.toNat_of_nonneg h.1, kI_of], by omega⟩
theorem isT_of {x : Int32} (h : inV x 0 3 = true) : isT (63 + 2 * tN x) := by
  have := (in_m (b := 3) h).2
  unfold isT
  omega
theorem tr_4 {x : Int32} (h : inV x 0 3 = true) : tN x < 4 := by
  have := (in_m (b := 3) h).2
  omega
def laidT (T : TT) (x : Int32) : Nat := if inV x 0 3 = true then (if T.1 (tN x) = kI (-1) then 2 else 0) else 1
theorem TmR.kp {w w' : Wst} {T : TT} {l : List Nat} (h : TmR w T) (k : kp l w w') (hl : 93 ∉ l ∧ 94 ∉ l ∧ 95 ∉ l) : TmR w' T := by
  refine ⟨fun t ht => ?_, fun j hj => ?_⟩
  · rw [(k 93 hl.1).2.2.1, (k 94 hl.2.1).2.2.1]
    exact h.1 t ht
  · rw [(k 95 hl.2.2).2.2.2]
    exact h.2 j hj
theorem TcR.kp {w w' : Wst} {T : TT} {l : List Nat} (h : TcR w T) (k : kpp l w w') (hl : ∀ a ∈ l, a < 63 ∨ 70 < a) : TcR w' T := by
  intro t ht
  have n1 : 63 + 2 * t ∉ l := fun z => by have := hl _ z; omega
  have n2 : 63 + 2 * t + 1 ∉ l := fun z => by have := hl _ z; omega
  rw [(k _ n1).1, (k _ n2).2.2.2]
  exact h t ht
theorem tr_ix {x : Int32} (h : inV x 0 3 = true) (k : Nat) : kI 60 * x + kI (k : Int) = kI ((60 * tN x + k : Nat) : Int) := by
  have h1 := (in_m (b := 3) h).1
  have h2 : kI 60 * kI (tN x : Int) + kI (k : Int) = kI ((60 * tN x + k : Nat) : Int) := by
    rw [kI_mul, kI_add]
    exact congrArg kI (by omega)
  rw [← h1] at h2
  exact h2
section STR
variable {call : Nat → List Value → ac_H → ac_P → Prop} {cs : Nat → Nat × Nat} {ga : Nat → Nat} {L : Nat} {xs : Nat → Int32} {sl : Nat → List Int32} {mb : Nat × Nat} {hands : List (Nat × Int)} {rt : Option FieldType} {Q : ac_P} {J : Nat → ac_X}
variable {is : ac_I} {ls : ac_L} {s : List Value} {h : ac_H} {bg : Nat × Nat} {ad : Nat → Nat}
theorem x_eqr {x y : Nat} (e : x = y) (kk : xB call cs ga L xs sl mb hands rt Q J is ls (.ref (ad y) :: s) h bg) : xB call cs ga L xs sl mb hands rt Q J is ls (.ref (ad x) :: s) h bg := e ▸ kk
end STR
section W1
variable {T : TT}
variable {ga : Nat → Nat} {L : Nat} {xs : Nat → Int32} {d : Nat} {h : ac_H} {P : ac_P} {ad : Nat → Nat} {w : Wst} {i : Nat} {V : VT}
theorem rax62 (j : Nat) : rax 62 j = 63 + 2 * j := by
  unfold rax
  rw [if_neg (by decide), if_pos rfl]
theorem c_reqTray {x : Int32} (k1 : inV x 0 3 = false → P (.inr 1) h) (k0 : inV x 0 3 = true → P (.inl none) h) : WP ga L xs (d + 1) 132 [.int x] h P := by
  have z0 : (0 : Int32).toInt = 0 := rfl
  have z4 : (kI 4).toInt = 4 := rfl
  refine WP.enter kX6_requireTray (Nat.le_of_ble_eq_true rfl) (fun J hJ => ?_)
  refine hJ 0 _ _ rfl _ _ _ _ (x_iload rfl (x_br (fun q1 => have q1 := cy_lt q1; hJ 1 _ _ rfl _ _ _ _ (x_thr ⟨by decide, by decide⟩ (Nat.le_of_ble_eq_true rfl) (by decide) ?_)) (fun q1 => have q1 := cn_lt q1; x_iload rfl (x_sipush (x_br2 (fun q2 => have q2 := cy_lt q2; hJ 2 _ _ rfl _ _ _ _ (x_vret rfl ?_)) (fun q2 => have q2 := cn_lt q2; x_goto (hJ 1 _ _ rfl _ _ _ _ (x_thr ⟨by decide, by decide⟩ (Nat.le_of_ble_eq_true rfl) (by decide) ?_))))))))
  · rw [Int32.lt_iff_toInt_lt, z0] at q1
    exact k1 (decide_eq_false (by omega))
  · rw [Int32.le_iff_toInt_le, z0] at q1
    rw [Int32.lt_iff_toInt_lt, z4] at q2
    exact k0 (decide_eq_true (by omega))
  · rw [Int32.le_iff_toInt_le, z4] at q2
    exact k1 (decide_eq_false (by omega))
theorem c_laidTray {x : Int32} (W : WW ad w h) (hT : TcR w T) (k1 : inV x 0 3 = false → P (.inr 1) h) (k2 : inV x 0 3 = true → T.1 (tN x) = kI (-1) → P (.inr 2) h) (k0 : inV x 0 3 = true → ¬ T.1 (tN x) = kI (-1) → P (.inl (some (.ref (ad (63 + 2 * tN x))))) h) : WP ga L xs (d + 2) 133 [.ref (ad 0), .int x] h P := by
  refine WP.enter kX6_laidTray (Nat.le_of_ble_eq_true rfl) (fun J hJ => ?_)
  refine hJ 0 _ _ rfl _ _ _ _ (x_iload rfl (x_csb rfl (Nat.le_of_ble_eq_true rfl) ⟨by decide, by decide⟩ (c_reqTray (fun t1 => ?_) (fun t1 => xk_v (x_aload rfl (w_getr W 6 7 (t := 62) (by decide) shp_0 rfl rfl rfl (x_iload rfl (w_aald W (tN x) (by decide) shp_62 (by decide) (in_m (b := 3) t1).1 (tr_4 t1) (by decide) (x_eqr (rax62 (tN x)) (x_astore rfl (x_aload rfl (w_geti W 3 0 (isT_of t1).lt (isT_of t1).sh rfl rfl (x_br (fun q1 => have q1 := bI_ne0.mp (show ¬ bI (decide (¬ T.1 (tN x) = kI (-1))) = 0 from (hT (tN x) (tr_4 t1)).1 ▸ q1); hJ 1 _ _ rfl _ _ _ _ (x_aload rfl (x_aret (Or.inl ⟨_, rfl⟩) ?_))) (fun q1 => have q1 := bI_eq0.mp ((show bI (decide (¬ T.1 (tN x) = kI (-1))) = 0 from (hT (tN x) (tr_4 t1)).1 ▸ Decidable.not_not.mp q1)); x_thr ⟨by decide, by decide⟩ (Nat.le_of_ble_eq_true rfl) (by decide) ?_))))))))))))))
  · exact k1 t1
  · exact k0 t1 (of_decide_eq_true q1)
  · exact k2 t1 (Decidable.not_not.mp (of_decide_eq_false q1))
theorem c7_isTray {x : Int32} (hP : P (.inl (some (.int (bI (inV x 0 3))))) h) : WP ga L xs (d + 2) 241 [.int x] h P := by
  have wx : inV x 0 3 = decide ((Int64.ofNat 0).toInt ≤ x.toInt64.toInt ∧ x.toInt64.toInt ≤ (Int64.ofNat 3).toInt) := (inV_l (a := 0) (b := 3) (by omega) (by omega)).symm
  rw [wx] at hP
  refine WP.enter kX7_isTray (Nat.le_of_ble_eq_true rfl) (fun J hJ => ?_)
  exact hJ 0 _ _ rfl _ _ _ _ (x_iload rfl (x_i2l (x_ldc2 (x_ldc2 (x_cs rfl (Nat.le_of_ble_eq_true rfl) (c7_within (xk_go (x_iret (by first | exact nrwB _ | rfl | decide) hP))))))))
theorem c7_trayFault {x : Int32} (W : WW ad w h) (hT : TmR w T) (hP : P (.inl (some (.int (kI (laidT T x : Int))))) h) : WP ga L xs (d + 3) 188 [.ref (ad 80), .int x] h P := by
  unfold laidT at hP
  refine WP.enter kX7_trayFault (Nat.le_of_ble_eq_true rfl) (fun J hJ => ?_)
  refine hJ 0 _ _ rfl _ _ _ _ (x_iload rfl (x_cs rfl (Nat.le_of_ble_eq_true rfl) (c7_isTray (xk_go (x_br (fun q1 => have q1 := bI_ne0.mp q1; hJ 1 _ _ rfl _ _ _ _ (x_aload rfl (w_getr W 7 25 (t := 93) (by decide) shp_80 rfl rfl rfl (x_iload rfl (w_iald W (tN x) (by decide) shp_93 (in_m (b := 3) q1).1 (tr_4 q1) (by decide) (x_sipush (x_br2 (fun q2 => have q2 := cy_ne q2; hJ 2 _ _ rfl _ _ _ _ (x_sipush (x_goto (hJ 3 _ _ rfl _ _ _ _ (x_iret (nrwI _) ?_))))) (fun q2 => have q2 := cn_ne q2; x_sipush (x_goto (hJ 3 _ _ rfl _ _ _ _ (x_iret (nrwI _) ?_))))))))))) (fun q1 => have q1 := bI_nn q1; x_sipush (x_goto (hJ 3 _ _ rfl _ _ _ _ (x_iret (nrwI _) ?_)))))))))
  · rw [(hT.1 _ (tr_4 q1)).1] at q2
    rw [if_pos q1, if_neg q2] at hP
    exact hP
  · rw [(hT.1 _ (tr_4 q1)).1] at q2
    rw [if_pos q1, if_pos q2] at hP
    exact hP
  · rw [if_neg (by rw [q1]; decide)] at hP
    exact hP
end W1
