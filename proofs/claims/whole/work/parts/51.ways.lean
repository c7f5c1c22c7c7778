/-! ===== ways ===== -/
theorem dn_ind {p : Nat → Prop} (step : ∀ m, (0 < m → p (m - 1)) → p m) (m : Nat) : p m := by
  induction m with
  | zero => exact step 0 (fun h => by omega)
  | succ m ih => exact step (m + 1) (fun _ => ih)
theorem updL_self (f : Nat → Int64) (k : Nat) (x : Int64) : vp_updL f k x k = x := if_pos rfl
theorem updL_ne {f : Nat → Int64} {k j : Nat} {x : Int64} (h : j ≠ k) : vp_updL f k x j = f j := if_neg h
theorem wl_self (w : Wst) (i : Nat) (f : Nat → Int64) : wl (sv w i f) i = f := if_pos rfl
theorem sv_sv (w : Wst) (i : Nat) (f g : Nat → Int64) : sv (sv w i f) i g = sv w i g := by
  unfold sv
  refine Prod.ext rfl (Prod.ext rfl (Prod.ext rfl (funext fun a => ?_)))
  show (if a = i then g else if a = i then f else _) = if a = i then g else _
  by_cases h : a = i
  · rw [if_pos h, if_pos h]
  · rw [if_neg h, if_neg h, if_neg h]
def wyS (f : Nat → Nat) (c e : Nat) (k : Nat) : Nat := f k * e + (if 0 < k then f (k - 1) * c else 0)
def wyN (cs es : Nat → Nat) : Nat → Nat → Nat
  | 0 => fun k => if k = 0 then 1 else 0
  | m + 1 => wyS (wyN cs es m) (cs m) (es m)
theorem wy_zero {cs es : Nat → Nat} : ∀ m k, m < k → wyN cs es m k = 0
  | 0, k, h => if_neg (by omega)
  | m + 1, k, h => by
    show wyN cs es m k * es m + (if 0 < k then wyN cs es m (k - 1) * cs m else 0) = 0
    rw [wy_zero m k (by omega), wy_zero m (k - 1) (by omega)]
    simp
theorem wy_le {cs es : Nat → Nat} {b : Nat} (h : ∀ m, cs m + es m = b) : ∀ m k, wyN cs es m k ≤ b ^ m
  | 0, k => by
    show (if k = 0 then 1 else 0) ≤ 1
    split <;> omega
  | m + 1, k => by
    show wyN cs es m k * es m + (if 0 < k then wyN cs es m (k - 1) * cs m else 0) ≤ b ^ m * b
    have h1 := Nat.mul_le_mul_right (es m) (wy_le h m k)
    have h2 := Nat.mul_le_mul_right (cs m) (wy_le h m (k - 1))
    have h3 : b ^ m * b = b ^ m * cs m + b ^ m * es m := by rw [← Nat.mul_add, h m]
    split <;> omega
theorem bin_0 (n : Nat) : bin n 0 = 1 := by cases n <;> rfl
theorem bin_gt : ∀ n k, n < k → bin n k = 0
  | 0, 0, h => by omega
  | 0, k + 1, _ => rfl
  | n + 1, 0, h => by omega
  | n + 1, k + 1, h => by
    show bin n k + bin n (k + 1) = 0
    rw [bin_gt n k (by omega), bin_gt n (k + 1) (by omega)]
theorem wy_bin (a e : Nat) : ∀ m k, k ≤ m → wyN (fun _ => a) (fun _ => e) m k = bin m k * a ^ k * e ^ (m - k)
  | 0, k, h => by
    rw [show k = 0 by omega]
    rfl
  | m + 1, 0, h => by
    show wyN (fun _ => a) (fun _ => e) m 0 * e + 0 = _
    rw [wy_bin a e m 0 (by omega), bin_0, bin_0, Nat.sub_zero, Nat.sub_zero, Nat.pow_succ]
    grind
  | m + 1, k + 1, h => by
    show wyN (fun _ => a) (fun _ => e) m (k + 1) * e + wyN (fun _ => a) (fun _ => e) m k * a = _
    rw [wy_bin a e m k (by omega)]
    have eb : bin (m + 1) (k + 1) = bin m k + bin m (k + 1) := rfl
    rw [eb, show m + 1 - (k + 1) = m - k by omega]
    by_cases hk : k = m
    · subst hk
      rw [wy_zero k (k + 1) (by omega), bin_gt k (k + 1) (by omega), Nat.sub_self, Nat.pow_succ]
      grind
    · obtain ⟨j, hj⟩ : ∃ j, m - k = j + 1 := ⟨m - k - 1, by omega⟩
      rw [wy_bin a e m (k + 1) (by omega), hj, show m - (k + 1) = j by omega, Nat.pow_succ, Nat.pow_succ]
      grind
def waysV (n : Nat) (k : Int32) (a b : Nat) : Int64 := if inV k 0 n = true then kL ((wyN (fun _ => a) (fun _ => b - a) n (tN k) : Nat) : Int) else kL 0
theorem k_m1y {m : Nat} (hm : m ≤ 1000) (b : kI ((m : Int) - 1) < 0) : m = 0 := by
  rw [Int32.lt_iff_toInt_lt, kI_toInt (by omega) (by omega), show (0 : Int32).toInt = 0 from rfl] at b
  omega
theorem k_m1n {m : Nat} (hm : m ≤ 1000) (b : ¬ kI ((m : Int) - 1) < 0) : 1 ≤ m := by
  rw [Int32.lt_iff_toInt_lt, kI_toInt (by omega) (by omega), show (0 : Int32).toInt = 0 from rfl] at b
  omega
theorem k_m1ly {m : Nat} (hm : m ≤ 1000) (b : kI ((m : Int) - 1) ≤ 0) : m ≤ 1 := by
  rw [Int32.le_iff_toInt_le, kI_toInt (by omega) (by omega), show (0 : Int32).toInt = 0 from rfl] at b
  omega
theorem k_m1ln {m : Nat} (hm : m ≤ 1000) (b : ¬ kI ((m : Int) - 1) ≤ 0) : 2 ≤ m := by
  rw [Int32.le_iff_toInt_le, kI_toInt (by omega) (by omega), show (0 : Int32).toInt = 0 from rfl] at b
  omega
theorem ixm1 {m : Nat} (h : 1 ≤ m) : kI ((m : Int) - 1) = kI ((m - 1 : Nat) : Int) := congrArg kI (by omega)
theorem ixm2 {m : Nat} (h : 2 ≤ m) : kI ((m : Int) - 1) - kI 1 = kI ((m - 2 : Nat) : Int) := by
  rw [kI_sub]
  exact congrArg kI (by omega)
theorem ixmd {m : Nat} (h : 1 ≤ m) : kI ((m : Int) - 1) + kI (-1) = kI (((m - 1 : Nat) : Int) - 1) := by
  rw [kI_add]
  exact congrArg kI (by omega)
section W1
variable {ga : Nat → Nat} {L : Nat} {xs : Nat → Int32} {d : Nat} {h : ac_H} {P : ac_P} {ad : Nat → Nat} {w : Wst} {V : VT}
theorem c7_waysGo {f : Nat → Nat} {c e : Nat} {x y : Int64} (W : WW ad w h) (hx : x = kL (c : Int)) (hy : y - x = kL (e : Int)) (hf : ∀ k, k < 14 → wl w 91 k = kL ((f k : Nat) : Int)) (kk : ∀ h' w', WW ad w' h' → kp [91] w w' → (∀ k, k < 14 → wl w' 91 k = kL ((wyS f c e k : Nat) : Int)) → P (.inl none) h') : WP ga L xs (d + 1) 217 [.ref (ad 80), .long x, .long y] h P := by
  refine WP.enter kX7_waysGo (Nat.le_of_ble_eq_true rfl) (fun J hJ => ?_)
  have loop : ∀ m, m ≤ 14 → ∀ h' w', WW ad w' h' → kp [91] w w' → (∀ k, k < 14 → wl w' 91 k = kL (((if m ≤ k then wyS f c e k else f k) : Nat) : Int)) → J 1 [some (.ref (ad 80)), some (.long x), none, some (.long y), none, some (.int (kI ((m : Int) - 1)))] [] h' (0, 0) := dn_ind (fun m ih hm h0 w0 W0 hk hf0 => ?_)
  · refine hJ 0 _ _ rfl _ _ _ _ (x_aload rfl (w_getr W 7 23 (t := 91) (by decide) shp_80 rfl rfl rfl (w_len W (by decide) shp_91 (by decide) (x_sipush (x_isub (x_istore rfl (x_goto (?_))))))))
    refine J_c (loop 14 (Nat.le_refl _) _ _ W kp_refl (fun k hk => ?_)) ?_
    · rw [if_neg (by omega)]
      exact hf k hk
    · rfl
  have key : ∀ (v : Int64), 1 ≤ m → v = kL ((wyS f c e (m - 1) : Nat) : Int) → ∀ k, k < 14 → wl (sv w0 91 (vp_updL (wl w0 91) (m - 1) v)) 91 k = kL (((if m - 1 ≤ k then wyS f c e k else f k) : Nat) : Int) := fun v h1 hv k hk => by
    rw [wl_self]
    by_cases ek : k = m - 1
    · subst ek
      rw [updL_self, if_pos (Nat.le_refl _), hv]
    · rw [updL_ne ek, hf0 k hk]
      by_cases hc : m ≤ k
      · rw [if_pos hc, if_pos (by omega)]
      · rw [if_neg hc, if_neg (by omega)]
  refine hJ 1 _ _ rfl _ _ _ _ (x_iload rfl (x_br (fun q1 => have q1 := k_m1y (by omega) q1; hJ 4 _ _ rfl _ _ _ _ (x_vret rfl ?_)) (fun q1 => have q1 := k_m1n (by omega) q1; x_aload rfl (w_getr W0 7 23 (t := 91) (by decide) shp_80 rfl rfl rfl (x_iload rfl (x_aload rfl (w_getr W0 7 23 (t := 91) (by decide) shp_80 rfl rfl rfl (x_iload rfl (w_lald W0 (m - 1) (by decide) shp_91 (ixm1 q1) (by omega) (by decide) (x_lload rfl (x_lload rfl (x_lsub (x_lmul (x_iload rfl (x_br (fun q2 => have q2 := k_m1ly (by omega) q2; hJ 2 _ _ rfl _ _ _ _ (x_ldc2 (x_goto (hJ 3 _ _ rfl _ _ _ _ (x_ladd (w_last W0 (m - 1) (by decide) shp_91 (ixm1 q1) (by omega) (by decide) (fun h1 W1 => x_iinc rfl rfl (x_goto (?_))))))))) (fun q2 => have q2 := k_m1ln (by omega) q2; x_aload rfl (w_getr W0 7 23 (t := 91) (by decide) shp_80 rfl rfl rfl (x_iload rfl (x_sipush (x_isub (w_lald W0 (m - 2) (by decide) shp_91 (ixm2 q2) (by omega) (by decide) (x_lload rfl (x_lmul (x_goto (hJ 3 _ _ rfl _ _ _ _ (x_ladd (w_last W0 (m - 1) (by decide) shp_91 (ixm1 q1) (by omega) (by decide) (fun h2 W2 => x_iinc rfl rfl (x_goto (?_))))))))))))))))))))))))))))))
  · subst q1
    exact kk h0 _ W0 hk (fun k hk => by rw [hf0 k hk, if_pos (Nat.zero_le _)])
  · have e1 : m = 1 := by omega
    subst e1
    refine J_c (ih (by omega) (by omega) h1 _ W1 (hk.trans (kp_sv (by simp))) (key _ q1 ?_)) ?_
    · rw [hf0 (1 - 1) (by omega), if_neg (by omega), hy, kL_mulN, kL_ofNat, kL_addN]
      unfold wyS
      rw [if_neg (by omega)]
    · simp only [sI]
      rw [ixmd q1]
  · refine J_c (ih (by omega) (by omega) h2 _ W2 (hk.trans (kp_sv (by simp))) (key _ q1 ?_)) ?_
    · rw [hf0 (m - 1) (by omega), if_neg (by omega), hf0 (m - 2) (by omega), if_neg (by omega), hy, hx, kL_mulN, kL_mulN, kL_addN]
      unfold wyS
      rw [if_pos (show 0 < m - 1 by omega), show m - 1 - 1 = m - 2 by omega]
    · simp only [sI]
      rw [ixmd q1]
theorem c7_waysBegin (W : WW ad w h) (kk : ∀ h' w', WW ad w' h' → kp [91] w w' → (∀ k, k < 14 → wl w' 91 k = kL (((if k = 0 then 1 else 0) : Nat) : Int)) → P (.inl none) h') : WP ga L xs (d + 1) 216 [.ref (ad 80)] h P := by
  refine WP.enter kX7_waysBegin (Nat.le_of_ble_eq_true rfl) (fun J hJ => ?_)
  have loop : ∀ m, m ≤ 14 → ∀ h' w', WW ad w' h' → kp [91] w w' → (∀ k, k < m → wl w' 91 k = kL (((if k = 0 then 1 else 0) : Nat) : Int)) → J 1 [some (.ref (ad 80)), some (.int (kI (m : Int)))] [] h' (0, 0) := up_ind (fun m hm ih h0 w0 W0 hk hf0 => ?_)
  · refine hJ 0 _ _ rfl _ _ _ _ (x_sipush (x_istore rfl (x_goto (?_))))
    exact loop 0 (Nat.zero_le _) _ _ W kp_refl (fun k hk => by omega)
  have key : ∀ (v : Int64), v = kL (((if m = 0 then 1 else 0) : Nat) : Int) → ∀ k, k < m + 1 → wl (sv w0 91 (vp_updL (wl w0 91) m v)) 91 k = kL (((if k = 0 then 1 else 0) : Nat) : Int) := fun v hv k hk => by
    rw [wl_self]
    by_cases ek : k = m
    · subst ek
      rw [updL_self, hv]
    · rw [updL_ne ek, hf0 k (by omega)]
  refine hJ 1 _ _ rfl _ _ _ _ (x_iload rfl (x_aload rfl (w_getr W0 7 23 (t := 91) (by decide) shp_80 rfl rfl rfl (w_len W0 (by decide) shp_91 (by decide) (x_br2 (fun q1 => have q1 := ge_y (n := 14) rfl (by omega) q1; hJ 4 _ _ rfl _ _ _ _ (x_vret rfl ?_)) (fun q1 => have q1 := ge_n (n := 14) rfl (by omega) q1; x_aload rfl (w_getr W0 7 23 (t := 91) (by decide) shp_80 rfl rfl rfl (x_iload rfl (x_iload rfl (x_br (fun q2 => have q2 := ne0_n rfl (by omega) q2; hJ 2 _ _ rfl _ _ _ _ (x_ldc2 (x_goto (hJ 3 _ _ rfl _ _ _ _ (w_last W0 _ (by decide) shp_91 rfl (by omega) (by decide) (fun h1 W1 => x_iinc rfl rfl (x_goto (?_)))))))) (fun q2 => have q2 := eq0_n rfl (by omega) (Decidable.not_not.mp q2); x_ldc2 (x_goto (hJ 3 _ _ rfl _ _ _ _ (w_last W0 _ (by decide) shp_91 rfl (by omega) (by decide) (fun h2 W2 => x_iinc rfl rfl (x_goto (?_)))))))))))))))))
  · exact kk h0 _ W0 hk (fun k hk => hf0 k (by omega))
  · refine J_c (ih q1 h1 _ W1 (hk.trans (kp_sv (by simp))) (key _ (by rw [if_neg (by omega)]; rfl))) ?_
    simp only [sI, kN_succ]
  · refine J_c (ih q1 h2 _ W2 (hk.trans (kp_sv (by simp))) (key _ (by rw [if_pos (by omega)]; rfl))) ?_
    simp only [sI, kN_succ]
theorem c7_waysOf {x ya yb y : Int32} {n a b : Nat} (W : WW ad w h) (hx : x = kI (n : Int)) (hn : n ≤ 12) (ha : ya = kI (a : Int)) (hb : yb = kI (b : Int)) (hab : a ≤ b) (hb20 : b ≤ 20) (kk : ∀ h' w', WW ad w' h' → kp [91] w w' → P (.inl (some (.long (waysV n y a b)))) h') : WP ga L xs (d + 2) 218 [.ref (ad 80), .int x, .int ya, .int yb, .int y] h P := by
  subst hx ha hb
  have e64a : (kI (a : Int)).toInt64 = kL (a : Int) := kN_64 (by omega)
  have e64b : (kI (b : Int)).toInt64 - (kI (a : Int)).toInt64 = kL ((b - a : Nat) : Int) := by
    rw [kN_64 (by omega), kN_64 (by omega), kL_sub]
    exact congrArg kL (by omega)
  have wy : inV y 0 n = decide ((Int64.ofNat 0).toInt ≤ y.toInt64.toInt ∧ y.toInt64.toInt ≤ (kI (n : Int)).toInt64.toInt) := by
    rw [inV_l' (a := 0) (by omega), kN_toInt (by omega)]
    rfl
  refine WP.enter kX7_waysOf (Nat.le_of_ble_eq_true rfl) (fun J hJ => ?_)
  have loop : ∀ m, m ≤ n → ∀ h' w', WW ad w' h' → kp [91] w w' → (∀ k, k < 14 → wl w' 91 k = kL ((wyN (fun _ => a) (fun _ => b - a) m k : Nat) : Int)) → J 1 [some (.ref (ad 80)), some (.int (kI (n : Int))), some (.int (kI (a : Int))), some (.int (kI (b : Int))), some (.int y), some (.int (kI (m : Int)))] [] h' (0, 0) := up_ind (fun m hm ih h0 w0 W0 hk hf0 => ?_)
  · refine hJ 0 _ _ rfl _ _ _ _ (x_aload rfl (x_cv rfl (Nat.le_of_ble_eq_true rfl) (isO_W W (by decide) shp_80) (c7_waysBegin W (fun h1 w1 W1 e1 c1 => xk_v (x_sipush (x_istore rfl (x_goto (?_))))))))
    exact loop 0 (Nat.zero_le _) _ _ W1 e1 c1
  have y1 : decide ((Int64.ofNat 0).toInt ≤ y.toInt64.toInt ∧ y.toInt64.toInt ≤ (kI (n : Int)).toInt64.toInt) = true → y = kI (tN y : Int) ∧ tN y ≤ n := fun q => in_m (wy.trans q)
  unfold waysV at kk
  refine hJ 1 _ _ rfl _ _ _ _ (x_iload rfl (x_iload rfl (x_br2 (fun q1 => have q1 := ge_y rfl (by omega) q1; hJ 2 _ _ rfl _ _ _ _ (x_iload rfl (x_i2l (x_ldc2 (x_iload rfl (x_i2l (x_cs rfl (Nat.le_of_ble_eq_true rfl) (c7_within (xk_go (x_br (fun q2 => have q2 := bI_eq0.mp q2; hJ 3 _ _ rfl _ _ _ _ (x_ldc2 (x_goto (hJ 4 _ _ rfl _ _ _ _ (x_lret rfl ?_))))) (fun q2 => have q2 := bI_ne0.mp q2; x_aload rfl (w_getr W0 7 23 (t := 91) (by decide) shp_80 rfl rfl rfl (x_iload rfl (w_lald W0 (tN y) (by decide) shp_91 (y1 q2).1 (by have := (y1 q2).2; omega) (by decide) (x_goto (hJ 4 _ _ rfl _ _ _ _ (x_lret rfl ?_))))))))))))))))) (fun q1 => have q1 := ge_n rfl (by omega) q1; x_aload rfl (x_iload rfl (x_i2l (x_iload rfl (x_i2l (x_cv rfl (Nat.le_of_ble_eq_true rfl) (isO_W W0 (by decide) shp_80) (c7_waysGo (f := wyN (fun _ => a) (fun _ => b - a) m) W0 e64a e64b hf0 (fun h1 w1 W1 e1 c1 => xk_v (x_iinc rfl rfl (x_goto (?_))))))))))))))
  · rw [if_neg (by rw [wy, q2]; decide)] at kk
    exact kk h0 _ W0 hk
  · have e : m = n := by omega
    subst e
    rw [if_pos (wy.trans q2)] at kk
    rw [hf0 (tN y) (by have := (y1 q2).2; omega)]
    exact kk h0 _ W0 hk
  · refine J_c (ih q1 h1 _ W1 (hk.trans e1) c1) ?_
    simp only [sI, kN_succ]
end W1
