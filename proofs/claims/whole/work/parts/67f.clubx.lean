/-! ===== a club is told: the answer, and the class's answer ===== -/
def clT (len : Nat) (x : Int32) : Nat := if inV x 0 (len : Int) = true then 0 else 1
def clRes (τ : Nat → Nat) (n : Nat) : Value := match clubS τ n with
  | .inl f => .int (kI (-10) - kI (f.1 : Int))
  | .inr V => .int (V 0)
def clSt (S : StT) (n : Nat) : StT := match clubS S.2.2.2.1.1 n with
  | .inl f => (S.1, S.2.1, S.2.2.1, (S.2.2.2.1.1, 0), (kI (f.1 : Int), kI (f.2 : Int)))
  | .inr V => (fun k => if k < 114 then V k else S.1 k, S.2.1, S.2.2.1, (S.2.2.2.1.1, 0), (kI 0, kI (-1)))
section W1
variable {S : StT}
variable {ga : Nat → Nat} {L : Nat} {xs : Nat → Int32} {d : Nat} {h : ac_H} {P : ac_P} {ad : Nat → Nat} {w : Wst} {i : Nat} {V : VT}
theorem in_n {x : Int32} {n : Nat} (h : inV x 0 (n : Int) = true) (hn : n ≤ 700) : tN x ≤ n := by
  have := in_m (b := n) h
  omega
theorem hr0 (w : Wst) (t : Nat) (b : Nat) : rfx (sr w 0 0 t) 0 b = if b = 0 then t else rfx w 0 b := by
  show (if b < 2 then wr (sr w 0 0 t) 0 b else _) = if b = 0 then t else if b < 2 then wr w 0 b else _
  rw [wr_sr]
  by_cases e : b = 0
  · subst e
    rfl
  · rw [if_neg (show ¬ (0 = 0 ∧ b = 0) from fun z => e z.2), if_neg e]
theorem hr1 (w : Wst) (t : Nat) (b : Nat) : rfx (sr w 0 1 t) 0 b = if b = 1 then t else rfx w 0 b := by
  show (if b < 2 then wr (sr w 0 1 t) 0 b else _) = if b = 1 then t else if b < 2 then wr w 0 b else _
  rw [wr_sr]
  by_cases e : b = 1
  · subst e
    rfl
  · rw [if_neg (show ¬ (0 = 0 ∧ b = 1) from fun z => e z.2), if_neg e]
theorem same_sr {w : Wst} {i j a t : Nat} (h : a ≠ i) : same w (sr w i j t) a := (kp_sr (l := [i]) (by simp)) a (by simpa using h)
theorem RCl.fed {w w' : Wst} {S : StT} {i' j : Nat} {V' : VT} {f : Int32 × Int32} (h : RCl w S) (hj : 10 ≤ j ∧ j + 5 ≤ 20) (hs : ∀ a, a ≠ 0 → a ≠ 42 → ¬ (j ≤ a ∧ a < j + 5) → same w w' a) (hb : clb w' i') (hR : CR w' i' V') (h1 : wn w' 42 1 = kI 0) (hF : FcR w' f) : RCl w' (V', S.2.1, S.2.2.1, (S.2.2.2.1.1, 0), f) := by
  obtain ⟨-, hT, hI, hP, -⟩ := h
  refine ⟨⟨i', hb, hR⟩, fun t ht => ?_, fun j hj => ?_, ⟨h1, fun k hk => ?_⟩, hF⟩
  · rw [(hs (63 + 2 * t) (by omega) (by omega) (by omega)).1, (hs (63 + 2 * t + 1) (by omega) (by omega) (by omega)).2.2.2]
    exact hT t ht
  · rw [(hs 72 (by omega) (by omega) (by omega)).2.2.1]
    exact ⟨(hI j hj).1, fun hm => ((hI j hj).2 hm).sm (fun a ha => hs _ (by omega) (by omega) (by omega))⟩
  · exact absurd hk (Nat.not_lt_zero _)
theorem x_club {x : Int32} (W : WW ad w h) (hS : RCl w S) (hO : SOK S) (kk : KCm ad P w [0] (clT S.2.2.2.1.2 x) (some (clRes S.2.2.2.1.1 (tN x))) S (clSt S (tN x))) : WP ga L xs (d + 7) 72 [.ref (ad 0), .int x] h P := by
  obtain ⟨⟨i, hb, hR⟩, hT, hI, hP, hF⟩ := id hS
  have hP2 : ∀ k, k < S.2.2.2.1.2 → wa w 43 k = sx (S.2.2.2.1.1 k) := hP.2
  have hp7 := hO.2.2.2.1
  have hbi := hb.1
  have hj : 25 - i = 10 ∨ 25 - i = 15 := by omega
  have hCj : isC (25 - i) := by unfold isC; omega
  unfold clT at kk
  refine WP.enter kX6_club (Nat.le_of_ble_eq_true rfl) (fun J hJ => ?_)
  refine hJ 0 _ _ rfl _ _ _ _ (x_iload rfl (x_sipush (x_aload rfl (w_getr W 6 3 (t := 42) (by decide) shp_0 rfl rfl rfl (w_geti W 2 1 (by decide) shp_42 rfl rfl (x_csb rfl (Nat.le_of_ble_eq_true rfl) ⟨by decide, by decide⟩ (c_reqWithin (b := (S.2.2.2.1.2 : Int)) rfl hP.1 (by omega) (fun t3 => ?_) (fun t3 => xk_v (x_aload rfl (w_getr W 6 3 (t := 42) (by decide) shp_0 rfl rfl rfl (x_iload rfl (x_aload rfl (w_getr W 6 1 (t := (25 - i)) (by decide) shp_0 rfl rfl hb.2.2 (x_cv rfl (Nat.le_of_ble_eq_true rfl) (isO_W W (by decide) shp_42) (c_read (τ := S.2.2.2.1.1) (n := tN x) W hj (in_m t3).1 (Nat.le_trans (in_n t3 hp7) hp7) hO.2.2.2.2 (fun k hk => hP2 k (Nat.lt_of_lt_of_le hk (in_n t3 hp7))) (fun f9 hf9 h1 w1 W1 e0 g2 g3 => xk_go (x_istore rfl (x_aload rfl (w_getr W1 6 3 (t := 42) (by decide) shp_0 rfl rfl rfl (x_sipush (w_puti W1 2 1 (by decide) shp_42 rfl rfl (okI rfl) (fun h2 W2 => x_iload rfl (x_br (fun q1 => have q1 := bI_ne0.mp q1; hJ 1 _ _ rfl _ _ _ _ (x_aload rfl (w_getr W2 6 0 (t := i) (by decide) shp_0 rfl rfl ((congrFun (e0.1 0 (by omega) (by omega)).2.1 0).trans hb.2.1) (x_astore rfl (x_aload rfl (x_aload rfl (w_getr W2 6 1 (t := (25 - i)) (by decide) shp_0 rfl rfl ((congrFun (e0.1 0 (by omega) (by omega)).2.1 1).trans hb.2.2) (w_putr W2 6 0 (25 - i) (by decide) shp_0 rfl rfl ⟨rfl, rfl⟩ (hr0 _ _) (fun h3 W3 => x_aload rfl (x_aload rfl (w_putr W3 6 1 i (by decide) shp_0 rfl rfl ⟨rfl, rfl⟩ (hr1 _ _) (fun h4 W4 => x_aload rfl (w_getr W4 6 0 (t := (25 - i)) (by decide) shp_0 rfl rfl (rfl) (w_geti W4 0 0 hCj.lt hCj.sh rfl rfl (x_iret (nrwI _) ?_))))))))))))))) (fun q1 => have q1 := bI_nn q1; x_sipush (x_aload rfl (w_getr W2 6 3 (t := 42) (by decide) shp_0 rfl rfl rfl (w_geti W2 2 2 (by decide) shp_42 rfl rfl (x_isub (x_iret (nrwI _) ?_)))))))))))))) (fun V9 hV9 h1 w1 W1 e0 g2 g3 c9 v9 => xk_go (x_istore rfl (x_aload rfl (w_getr W1 6 3 (t := 42) (by decide) shp_0 rfl rfl rfl (x_sipush (w_puti W1 2 1 (by decide) shp_42 rfl rfl (okI rfl) (fun h2 W2 => x_iload rfl (x_br (fun q1 => have q1 := bI_ne0.mp q1; hJ 1 _ _ rfl _ _ _ _ (x_aload rfl (w_getr W2 6 0 (t := i) (by decide) shp_0 rfl rfl ((congrFun (e0.1 0 (by omega) (by omega)).2.1 0).trans hb.2.1) (x_astore rfl (x_aload rfl (x_aload rfl (w_getr W2 6 1 (t := (25 - i)) (by decide) shp_0 rfl rfl ((congrFun (e0.1 0 (by omega) (by omega)).2.1 1).trans hb.2.2) (w_putr W2 6 0 (25 - i) (by decide) shp_0 rfl rfl ⟨rfl, rfl⟩ (hr0 _ _) (fun h3 W3 => x_aload rfl (x_aload rfl (w_putr W3 6 1 i (by decide) shp_0 rfl rfl ⟨rfl, rfl⟩ (hr1 _ _) (fun h4 W4 => x_aload rfl (w_getr W4 6 0 (t := (25 - i)) (by decide) shp_0 rfl rfl (rfl) (w_geti W4 0 0 hCj.lt hCj.sh rfl rfl (x_iret (nrwI _) ?_))))))))))))))) (fun q1 => have q1 := bI_nn q1; x_sipush (x_aload rfl (w_getr W2 6 3 (t := 42) (by decide) shp_0 rfl rfl rfl (w_geti W2 2 2 (by decide) shp_42 rfl rfl (x_isub (x_iret (nrwI _) ?_)))))))))))))))))))))))))))))
  · exact kk.no 0 (if_neg (by rw [t3]; decide)) W kcl_refl hS
  · exact absurd q1 (by decide)
  · have e9 : wn (sn w1 42 1 (kI 0)) 42 2 = kI (f9.1 : Int) := by rw [wn_sn, if_neg (by omega)]; exact g2
    have hs : ∀ a, a ≠ 0 → a ≠ 42 → ¬ (25 - i ≤ a ∧ a < 25 - i + 5) → same w (sn w1 42 1 (kI 0)) a := fun a _ h2 h3 => same.trans (e0.1 a h2 h3) (same_sn h2)
    rw [e9]
    unfold clRes clSt at kk
    rw [hf9] at kk
    refine kk.yes (if_pos t3) W2 (fun a ha => hs a (by omega) (by omega) (by omega)) (hS.fed (by omega) hs ⟨hbi, ?_, ?_⟩ (hR.sm (fun a ha => (e0.1 _ (by omega) (by omega)).trans (same_sn (by omega)))) (by rw [wn_sn, if_pos ⟨rfl, rfl⟩]) ⟨e9, by rw [wn_sn, if_neg (by omega)]; exact g3⟩)
    · exact (congrFun (e0.1 0 (by omega) (by omega)).2.1 0).trans hb.2.1
    · exact (congrFun (e0.1 0 (by omega) (by omega)).2.1 1).trans hb.2.2
  · have hs : ∀ a, a ≠ 0 → a ≠ 42 → ¬ (25 - i ≤ a ∧ a < 25 - i + 5) → same w (sr (sr (sn w1 42 1 (kI 0)) 0 0 (25 - i)) 0 1 i) a := fun a h1 h2 h3 => same.trans (e0.1 a h2 h3) ((same_sn h2).trans ((same_sr h1).trans (same_sr h1)))
    have c9' : CR (sr (sr (sn w1 42 1 (kI 0)) 0 0 (25 - i)) 0 1 i) (25 - i) V9 := c9.sm (fun a ha => (same_sn (by omega)).trans ((same_sr (by omega)).trans (same_sr (by omega))))
    have e9 : wn (sr (sr (sn w1 42 1 (kI 0)) 0 0 (25 - i)) 0 1 i) (25 - i) 0 = V9 0 := c9'.1.1
    rw [e9]
    unfold clRes clSt at kk
    rw [hV9] at kk
    refine kk.yes (if_pos t3) W4 (fun a ha => hs a (by omega) (by omega) (by omega)) (hS.fed (by omega) hs (i' := 25 - i) ⟨hj, ?_, ?_⟩ (c9'.congr v9 (fun k hk => if_pos hk)) ?_ ⟨?_, ?_⟩)
    · rfl
    · show i = 25 - (25 - i)
      omega
    · rfl
    · exact g2
    · exact g3
  · exact absurd q1 (by decide)
end W1
