/-! ===== feeding the tape ===== -/
def byS (v : Int32) (s : Nat) : Nat := (v >>> (kI (s : Int) &&& 31)).toBitVec.toNat % 256
def byN (v : Int32) (j : Nat) : Nat := byS v (24 - 8 * j)
def wd (a b c e f : Int32) (k : Nat) : Int32 := if k < 4 then a else if k < 8 then b else if k < 12 then c else if k < 16 then e else f
def fedV (p : TpT) (a b c e f : Int32) : TpT := (fun k => if p.2 ≤ k ∧ k < p.2 + 20 then byN (wd a b c e f (k - p.2)) ((k - p.2) % 4) else p.1 k, p.2 + 20)
def feedR (p : TpT) : Int32 := if p.2 + 20 ≤ 700 then kI ((p.2 + 20 : Nat) : Int) else kI (-1)
def feedV (p : TpT) (a b c e f : Int32) : TpT := if p.2 + 20 ≤ 700 then fedV p a b c e f else p
theorem byN_lt (v : Int32) (j : Nat) : byN v j < 256 := Nat.mod_lt _ (by decide)
theorem sx_bits : ∀ a : Nat, a < 256 → ∀ j, j < 32 → hb (sx a) j = if j < 8 then a.testBit j else a.testBit 7 := by decide +kernel
theorem sx_is (u : Int32) : u.toInt8.toInt32 = sx (u.toBitVec.toNat % 256) := by
  apply hb_ext
  intro j hj
  rw [sx_bits _ (Nat.mod_lt _ (by decide)) j hj]
  show ((u.toBitVec.signExtend 8).signExtend 32).getLsbD j = _
  simp only [se_is]
  have e : ∀ i, i < 8 → u.toBitVec.getLsbD i = (u.toBitVec.toNat % 256).testBit i := fun i hi => by
    rw [show 256 = 2 ^ 8 from rfl, Nat.testBit_mod_two_pow]
    simp [hi, BitVec.getLsbD]
  by_cases h : j < 8
  · rw [if_pos h, ← e j h]
    simp [hj, h, show j < 32 by omega]
  · rw [if_neg h, ← e 7 (by omega)]
    simp [hj, h]
theorem sx_sx (a : Nat) (ha : a < 256) : (sx a).toInt8.toInt32 = sx a := by
  have : ∀ a : Nat, a < 256 → (sx a).toInt8.toInt32 = sx a := by decide +kernel
  exact this a ha
theorem nar_byte (u : Int32) : vp_nar FieldType.byte u = u.toInt8.toInt32 := rfl
theorem bSH (v : Int32) (s : Nat) : vp_nar FieldType.byte ((v >>> (kI (s : Int) &&& 31)).toInt8.toInt32) = sx (byS v s) := by
  rw [nar_byte, sx_is (v >>> (kI (s : Int) &&& 31))]
  exact sx_sx _ (Nat.mod_lt _ (by decide))
theorem hb_kN {a j : Nat} (ha : a < 2147483648) : hb (kI (a : Int)) j = a.testBit j := by
  unfold hb kI
  rw [Int32.toBitVec_ofInt, BitVec.ofInt_natCast, BitVec.getLsbD_ofNat]
  by_cases h : j < 32
  · simp [h]
  · have : a.testBit j = false := Nat.testBit_lt_two_pow (Nat.lt_of_lt_of_le (show a < 2 ^ 31 from ha) (Nat.pow_le_pow_right (by decide) (by omega)))
    rw [this]
    simp
theorem umod32 : ∀ s : Nat, s < 32 → (((kI (s : Int)).toUInt32 &&& Int32.toUInt32 31).toBitVec % 32).toNat = s := by decide +kernel
theorem hb_ushr {v : Int32} {s : Nat} (hs : s < 32) (j : Nat) : hb ((v.toUInt32 >>> ((kI (s : Int)).toUInt32 &&& Int32.toUInt32 31)).toInt32) j = hb v (s + j) := by
  show ((v.toUInt32 >>> ((kI (s : Int)).toUInt32 &&& Int32.toUInt32 31)).toBitVec).getLsbD j = v.toBitVec.getLsbD (s + j)
  rw [UInt32.toBitVec_shiftRight]
  show (v.toBitVec >>> (((kI (s : Int)).toUInt32 &&& Int32.toUInt32 31).toBitVec % 32)).getLsbD j = _
  rw [BitVec.ushiftRight_eq', umod32 s hs, BitVec.getLsbD_ushiftRight]
theorem bSM (v : Int32) {s : Nat} (hs : s ≤ 24) : (v.toUInt32 >>> ((kI (s : Int)).toUInt32 &&& Int32.toUInt32 31)).toInt32 &&& kI 255 = kI (byS v s : Int) := by
  have hlt : byS v s < 256 := Nat.mod_lt _ (by decide)
  apply hb_ext
  intro j hj
  rw [hb_and, hb_ushr (by omega), hb_kN (by omega), show kI 255 = kI ((255 : Nat) : Int) from rfl, hb_kN (by omega)]
  unfold byS
  rw [show 256 = 2 ^ 8 from rfl, Nat.testBit_mod_two_pow, show 255 = 2 ^ 8 - 1 from rfl, Nat.testBit_two_pow_sub_one]
  by_cases h : j < 8
  · have e := hb_shr (x := v) (m := s) (by omega) j
    unfold hb at e
    rw [BitVec.getLsbD, show decide (j < 32) = true from decide_eq_true hj, Bool.true_and, if_pos (by omega)] at e
    rw [e]
    simp [h, hb]
  · simp [h]
theorem ixs : ∀ k : Nat, k < 20 → kI 24 - kI 8 * (kI (k : Int) &&& kI 3) = kI ((24 - 8 * (k % 4) : Nat) : Int) := by decide +kernel
section W1
variable {S : StT}
variable {ga : Nat → Nat} {L : Nat} {xs : Nat → Int32} {d : Nat} {h : ac_H} {P : ac_P} {ad : Nat → Nat} {w : Wst} {i : Nat} {V : VT}
theorem c_layB {v : Int32} {n : Nat} (W : WW ad w h) (hn : wn w 42 1 = kI (n : Int)) (hn9 : n + 4 ≤ 700) (kk : ∀ h' w', WW ad w' h' → (∀ a, a ≠ 42 → a ≠ 43 → same w w' a) → (∀ j, j ≠ 1 → wn w' 42 j = wn w 42 j) → wn w' 42 1 = kI ((n + 4 : Nat) : Int) → (∀ k, wa w' 43 k = if n ≤ k ∧ k < n + 4 then sx (byN v (k - n)) else wa w 43 k) → P (.inl none) h') : WP ga L xs (d + 1) 42 [.ref (ad 42), .int v] h P := by
  refine WP.enter kX2_lay (Nat.le_of_ble_eq_true rfl) (fun J hJ => ?_)
  have loop : ∀ m, m ≤ 4 → ∀ h' w', WW ad w' h' → (∀ a, a ≠ 42 → a ≠ 43 → same w w' a) → (∀ j, j ≠ 1 → wn w' 42 j = wn w 42 j) → wn w' 42 1 = kI ((n + m : Nat) : Int) → (∀ k, wa w' 43 k = if n ≤ k ∧ k < n + m then sx (byN v (k - n)) else wa w 43 k) → J 1 [some (.ref (ad 42)), some (.int v), some (.int (kI (24 - 8 * (m : Int))))] [] h' (0, 0) := up_ind (fun m hm ih h0 w0 W0 hs hj h42 hE => ?_)
  · refine hJ 0 _ _ rfl _ _ _ _ (x_sipush (x_istore rfl (x_goto (?_))))
    exact loop 0 (Nat.zero_le _) _ _ W (fun a _ _ => same_refl) (fun j _ => rfl) hn (fun k => by rw [if_neg (by omega)])
  have hqy : kI (24 - 8 * (m : Int)) < 0 → m = 4 := fun q => by
    rw [Int32.lt_iff_toInt_lt, kI_toInt (by omega) (by omega), show (0 : Int32).toInt = 0 from rfl] at q
    omega
  have hqn : ¬ kI (24 - 8 * (m : Int)) < 0 → m < 4 := fun q => by
    rw [Int32.lt_iff_toInt_lt, kI_toInt (by omega) (by omega), show (0 : Int32).toInt = 0 from rfl] at q
    omega
  refine hJ 1 _ _ rfl _ _ _ _ (x_iload rfl (x_br (fun q1 => have q1 := hqy q1; hJ 3 _ _ rfl _ _ _ _ (x_vret rfl ?_)) (fun q1 => have q1 := hqn q1; x_aload rfl (w_geti W0 2 1 (by decide) shp_42 rfl rfl (x_sipush (x_br2 (fun q2 => have q2 := cy_ge q2; hJ 2 _ _ rfl _ _ _ _ (x_iinc rfl rfl (x_goto (?_)))) (fun q2 => have q2 := cn_ge q2; x_aload rfl (w_getr W0 2 0 (t := 43) (by decide) shp_42 rfl rfl rfl (x_aload rfl (w_geti W0 2 1 (by decide) shp_42 rfl rfl (x_iload rfl (x_iload rfl (x_ishr (x_i2b (w_bast W0 (n + m) (by decide) shp_43 (by decide) h42 (by omega) (by decide) (fun h1 W1 => x_aload rfl (x_dupr (w_geti W1 2 1 (by decide) shp_42 rfl rfl (x_sipush (x_iadd (w_puti W1 2 1 (by decide) shp_42 rfl rfl (okI rfl) (fun h2 W2 => x_goto (hJ 2 _ _ rfl _ _ _ _ (x_iinc rfl rfl (x_goto (?_))))))))))))))))))))))))))
  · subst q1
    exact kk h0 w0 W0 hs hj h42 hE
  · rw [h42] at q2
    exact absurd ((kN_le (a := 700) (by omega) (by omega)).mp q2) (by omega)
  · have es : kI (24 - 8 * (m : Int)) = kI ((24 - 8 * m : Nat) : Int) := congrArg kI (by omega)
    rw [es] at W2
    rw [if_neg (show ¬ 3 = 2 by decide), bSH] at W2
    refine J_c (ih q1 h2 _ W2 (fun a g1 g2 => ((hs a g1 g2).trans (same_sa g2)).trans (same_sn g1)) (fun j hj9 => ?_) ?_ (fun k => ?_)) ?_
    · rw [wn_sn, if_neg (fun z => hj9 z.2)]
      exact hj j hj9
    · rw [wn_sn, if_pos ⟨rfl, rfl⟩]
      show wn w0 42 1 + kI 1 = _
      rw [h42, kN_succ]
      rfl
    · rw [wa_sn, wa_self]
      by_cases e : k = n + m
      · rw [e, upd_self, if_pos (by omega), show n + m - n = m by omega]
        rfl
      · rw [upd_ne e, hE k]
        by_cases hc : n ≤ k ∧ k < n + m
        · rw [if_pos hc, if_pos (by omega)]
        · rw [if_neg hc, if_neg (by omega)]
    · simp only [sI]
      rw [kI_add, show 24 - 8 * (m : Int) + -8 = 24 - 8 * ((m + 1 : Nat) : Int) by omega]
theorem x_feed {a b c e f : Int32} (W : WW ad w h) (hS : RCl w S) (hO : SOK S) (kk : KCm ad P w [] 0 (some (.int (feedR S.2.2.2.1))) S (S.1, S.2.1, S.2.2.1, feedV S.2.2.2.1 a b c e f, S.2.2.2.2)) : WP ga L xs (d + 2) 71 [.ref (ad 0), .int a, .int b, .int c, .int e, .int f] h P := by
  obtain ⟨⟨i, ⟨hi, hz0, hz1⟩, hR⟩, hT, hI, hP, hF⟩ := id hS
  have hP2 : ∀ k, k < S.2.2.2.1.2 → wa w 43 k = sx (S.2.2.2.1.1 k) := hP.2
  have hp7 := hO.2.2.2.1
  have e20 : wn w 42 1 + kI 20 = kI ((S.2.2.2.1.2 + 20 : Nat) : Int) := by rw [hP.1]; exact kN_add _ 20
  have hqy : wn w 42 1 + kI 20 ≤ kI 700 → S.2.2.2.1.2 + 20 ≤ 700 := fun q => by
    rw [e20] at q
    exact (kN_le (b := 700) (by omega) (by omega)).mp q
  have hqn : ¬ wn w 42 1 + kI 20 ≤ kI 700 → ¬ S.2.2.2.1.2 + 20 ≤ 700 := fun q z => q (by
    rw [e20]
    exact (kN_le (b := 700) (by omega) (by omega)).mpr z)
  unfold feedR feedV at kk
  refine WP.enter kX6_feed (Nat.le_of_ble_eq_true rfl) (fun J hJ => ?_)
  refine hJ 0 _ _ rfl _ _ _ _ (x_aload rfl (w_getr W 6 3 (t := 42) (by decide) shp_0 rfl rfl rfl (w_geti W 2 1 (by decide) shp_42 rfl rfl (x_sipush (x_iadd (x_sipush (x_br2 (fun q1 => have q1 := hqy q1; hJ 1 _ _ rfl _ _ _ _ (x_aload rfl (w_getr W 6 3 (t := 42) (by decide) shp_0 rfl rfl rfl (x_iload rfl (x_cv rfl (Nat.le_of_ble_eq_true rfl) (isO_W W (by decide) shp_42) (c_layB (n := S.2.2.2.1.2) W hP.1 (by omega) (fun h1 w1 W1 s1 j1 n1 e1 => xk_v (x_aload rfl (w_getr W1 6 3 (t := 42) (by decide) shp_0 rfl rfl rfl (x_iload rfl (x_cv rfl (Nat.le_of_ble_eq_true rfl) (isO_W W1 (by decide) shp_42) (c_layB W1 n1 (by omega) (fun h2 w2 W2 s2 j2 n2 e2 => xk_v (x_aload rfl (w_getr W2 6 3 (t := 42) (by decide) shp_0 rfl rfl rfl (x_iload rfl (x_cv rfl (Nat.le_of_ble_eq_true rfl) (isO_W W2 (by decide) shp_42) (c_layB W2 n2 (by omega) (fun h3 w3 W3 s3 j3 n3 e3 => xk_v (x_aload rfl (w_getr W3 6 3 (t := 42) (by decide) shp_0 rfl rfl rfl (x_iload rfl (x_cv rfl (Nat.le_of_ble_eq_true rfl) (isO_W W3 (by decide) shp_42) (c_layB W3 n3 (by omega) (fun h4 w4 W4 s4 j4 n4 e4 => xk_v (x_aload rfl (w_getr W4 6 3 (t := 42) (by decide) shp_0 rfl rfl rfl (x_iload rfl (x_cv rfl (Nat.le_of_ble_eq_true rfl) (isO_W W4 (by decide) shp_42) (c_layB W4 n4 (by omega) (fun h5 w5 W5 s5 j5 n5 e5 => xk_v (x_aload rfl (w_getr W5 6 3 (t := 42) (by decide) shp_0 rfl rfl rfl (w_geti W5 2 1 (by decide) shp_42 rfl rfl (x_iret (nrwI _) ?_))))))))))))))))))))))))))))))))))) (fun q1 => have q1 := hqn q1; x_sipush (x_iret (nrwI _) ?_)))))))))
  · have hs : ∀ a, a ≠ 42 → a ≠ 43 → same w w5 a := fun a g1 g2 => ((((s1 a g1 g2).trans (s2 a g1 g2)).trans (s3 a g1 g2)).trans (s4 a g1 g2)).trans (s5 a g1 g2)
    have hj : ∀ j, j ≠ 1 → wn w5 42 j = wn w 42 j := fun j g => (j5 j g).trans ((j4 j g).trans ((j3 j g).trans ((j2 j g).trans (j1 j g))))
    rw [if_pos q1, if_pos q1] at kk
    rw [n5]
    refine kk.yes rfl W5 (fun a ha => hs a (by omega) (by omega)) ⟨⟨i, ⟨hi, ?_, ?_⟩, hR.sm (fun j hj => hs _ (by omega) (by omega))⟩, fun t ht => ?_, fun j hj => ?_, ⟨n5, fun k hk => ?_⟩, ?_, ?_⟩
    · rw [(hs 0 (by omega) (by omega)).2.1]; exact hz0
    · rw [(hs 0 (by omega) (by omega)).2.1]; exact hz1
    · rw [(hs (63 + 2 * t) (by omega) (by omega)).1, (hs (63 + 2 * t + 1) (by omega) (by omega)).2.2.2]
      exact hT t ht
    · rw [(hs 72 (by omega) (by omega)).2.2.1]
      exact ⟨(hI j hj).1, fun hm => ((hI j hj).2 hm).sm (fun a ha => hs _ (by omega) (by omega))⟩
    · have hk : k < S.2.2.2.1.2 + 20 := hk
      show wa w5 43 k = sx (if S.2.2.2.1.2 ≤ k ∧ k < S.2.2.2.1.2 + 20 then byN (wd a b c e f (k - S.2.2.2.1.2)) ((k - S.2.2.2.1.2) % 4) else S.2.2.2.1.1 k)
      unfold wd
      generalize S.2.2.2.1.2 = n at *
      rw [e5 k]
      by_cases g5 : n + 4 + 4 + 4 + 4 ≤ k
      · rw [if_pos (by omega), if_pos (by omega), if_neg (by omega), if_neg (by omega), if_neg (by omega), if_neg (by omega), show (k - n) % 4 = k - (n + 4 + 4 + 4 + 4) by omega]
      rw [if_neg (by omega), e4 k]
      by_cases g4 : n + 4 + 4 + 4 ≤ k
      · rw [if_pos (by omega), if_pos (by omega), if_neg (by omega), if_neg (by omega), if_neg (by omega), if_pos (by omega), show (k - n) % 4 = k - (n + 4 + 4 + 4) by omega]
      rw [if_neg (by omega), e3 k]
      by_cases g3 : n + 4 + 4 ≤ k
      · rw [if_pos (by omega), if_pos (by omega), if_neg (by omega), if_neg (by omega), if_pos (by omega), show (k - n) % 4 = k - (n + 4 + 4) by omega]
      rw [if_neg (by omega), e2 k]
      by_cases g2 : n + 4 ≤ k
      · rw [if_pos (by omega), if_pos (by omega), if_neg (by omega), if_pos (by omega), show (k - n) % 4 = k - (n + 4) by omega]
      rw [if_neg (by omega), e1 k]
      by_cases g1 : n ≤ k
      · rw [if_pos (by omega), if_pos (by omega), if_pos (by omega), show (k - n) % 4 = k - n by omega]
      rw [if_neg (by omega), if_neg (by omega)]
      exact hP2 k (by omega)
    · rw [hj 2 (by omega)]; exact hF.1
    · rw [hj 3 (by omega)]; exact hF.2
  · rw [if_neg q1, if_neg q1] at kk
    exact kk.yes rfl W kcl_refl hS
end W1
