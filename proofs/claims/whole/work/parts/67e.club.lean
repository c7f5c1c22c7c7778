/-! ===== a club is told: the class ===== -/
def kE (i : Nat) (w w' : Wst) : Prop := (∀ a, a ≠ 42 → ¬ (i ≤ a ∧ a < i + 5) → same w w' a) ∧ wn w' 42 1 = wn w 42 1
theorem kE.trans {i : Nat} {w w' w'' : Wst} (h : kE i w w') (g : kE i w' w'') : kE i w w'' := ⟨fun a h1 h2 => (h.1 a h1 h2).trans (g.1 a h1 h2), g.2.trans h.2⟩
theorem kD.e {i : Nat} {l : List Nat} {w w' : Wst} (h : kD i l w w') (hl : 1 ∉ l) : kE i w w' := ⟨h.1, h.2.2 1 hl⟩
theorem kR.e {i : Nat} {l : List Nat} {w w' : Wst} (h : kR l w w') (hl : 1 ∉ l) : kE i w w' := ⟨fun a h1 _ => h.1 a h1, h.2.2 1 hl⟩
theorem kE_of {i : Nat} {w w' : Wst} (hi : i = 10 ∨ i = 15) (h : ∀ a, ¬ (i ≤ a ∧ a < i + 5) → same w w' a) : kE i w w' := ⟨fun a _ h2 => h a h2, by rw [(h 42 (by omega)).1]⟩
theorem DOK.lines {V : VT} {x : Int32} (h : DOK V) : DOK (upd V 0 x) := by
  obtain ⟨⟨h4, hn12⟩, h5, h1, h2, h3, hm⟩ := h
  have en : nm (upd V 0 x) = nm V := nm_eq (upd_ne (by omega))
  have hl : ∀ k, k ≠ 0 → upd V 0 x k = V k := fun k hk => upd_ne hk
  refine ⟨⟨by rw [en, hl 4 (by omega)]; exact h4, by omega⟩, by rw [hl 5 (by omega)]; exact h5, by rw [hl 1 (by omega)]; exact h1, by rw [hl 2 (by omega)]; exact h2, by rw [hl 3 (by omega)]; exact h3, fun m hm9 => ?_⟩
  rw [en] at hm9
  have q1 : vR (upd V 0 x) m = vR V m := hl _ (by omega)
  have q2 : vN (upd V 0 x) m = vN V m := hl _ (by omega)
  have q3 : vC (upd V 0 x) m = vC V m := hl _ (by omega)
  have q4 : vU (upd V 0 x) m = vU V m := hl _ (by omega)
  rw [q1, q2, q3, q4]
  exact hm m hm9
theorem kE_42 {i : Nat} {w : Wst} {j : Nat} {x : Int32} (hj : j ≠ 1) : kE i w (sn w 42 j x) := ⟨fun a h1 _ => same_sn h1, by rw [wn_sn, if_neg (fun z => hj z.2.symm)]⟩
theorem lin_ok {τ : Nat → Nat} {n : Nat} {t t1 t' : TK} {V V' : VT} (h : bodS τ n t V = .inr (t1, V')) (g : semS τ n t1 = .inr t') : linS τ n t V = .inr (t', upd V' 0 (V' 0 + kI 1)) := by
  unfold linS
  rw [h]
  show (match semS τ n t1 with | .inl f => _ | .inr t'' => _) = _
  rw [g]
section W1
variable {τ : Nat → Nat} {n : Nat}
variable {ga : Nat → Nat} {L : Nat} {xs : Nat → Int32} {d : Nat} {h : ac_H} {P : ac_P} {ad : Nat → Nat} {w : Wst} {i : Nat} {V : VT}
theorem c_read {j : Nat} {x : Int32} (W : WW ad w h) (hj : j = 10 ∨ j = 15) (hx : x = kI (n : Int)) (hn7 : n ≤ 700) (hτ : ∀ k, τ k < 256) (hby : ∀ k, k < n → wa w 43 k = sx (τ k)) (kf : ∀ f, clubS τ n = .inl f → ∀ h' w', WW ad w' h' → kE j w w' → wn w' 42 2 = kI (f.1 : Int) → wn w' 42 3 = kI (f.2 : Int) → P (.inl (some (.int (bI false)))) h') (kk : ∀ V, clubS τ n = .inr V → ∀ h' w', WW ad w' h' → kE j w w' → wn w' 42 2 = kI 0 → wn w' 42 3 = kI (-1) → CR w' j V → VOK V → P (.inl (some (.int (bI true)))) h') : WP ga L xs (d + 6) 43 [.ref (ad 42), .int x, .ref (ad j)] h P := by
  subst hx
  have hCj : isC j := hj.elim (fun e => Or.inl e) (fun e => Or.inr (Or.inl e))
  refine WP.enter kX2_read (Nat.le_of_ble_eq_true rfl) (fun J hJ => ?_)
  have loop : ∀ l : Nat, l ≤ 700 → ∀ (t : TK) (V : VT) (f : Nat) h0 w0, tkOK τ n t → DOK V → V 0 = kI (l : Int) → l ≤ t.1 → n + 1 ≤ f + t.1 → clubS τ n = allS τ n f t V → WW ad w0 h0 → kE j w w0 → wn w0 42 2 = kI 0 → wn w0 42 3 = kI (-1) → RdC w0 τ n t → DrC w0 j V → wr w0 42 8 = j → J 1 [some (.ref (ad 42)), some (.int (kI (n : Int))), some (.ref (ad j)), some (.int (kI (l : Int)))] [] h0 (0, 0) := up_ind (fun l hl ih t V f h0 w0 ht hO hV0 hlt hf hcl W0 hk f2 f3 hd hD hdr => ?_)
  · have hrd : ∀ w6, (∀ a, ¬ (j ≤ a ∧ a < j + 5) → same (sr (sn (sn (sn (sn w 42 2 (kI 0)) 42 3 (kI (-1))) 42 4 (kI (n : Int))) 42 5 (kI 0)) 42 8 j) w6 a) → RdA w6 τ n 0 := fun w6 e6 => by
      have g := e6 42 (by omega)
      have g3 := e6 43 (by omega)
      refine ⟨?_, ?_, fun k hk => ?_⟩
      · rw [g.1]; simp [wn_sn, wn_sr]
      · rw [g.1]; simp [wn_sn, wn_sr]
      · rw [g3.2.2.1]
        exact hby k hk
    refine hJ 0 _ _ rfl _ _ _ _ (x_aload rfl (x_sipush (w_puti W 2 2 (by decide) shp_42 rfl rfl (okI rfl) (fun h1 W1 => x_aload rfl (x_sipush (w_puti W1 2 3 (by decide) shp_42 rfl rfl (okI rfl) (fun h2 W2 => x_aload rfl (x_iload rfl (w_puti W2 2 4 (by decide) shp_42 rfl rfl (okI rfl) (fun h3 W3 => x_aload rfl (x_sipush (w_puti W3 2 5 (by decide) shp_42 rfl rfl (okI rfl) (fun h4 W4 => x_aload rfl (x_aload rfl (w_putr2 W4 2 8 j (by decide) shp_42 rfl rfl ⟨rfl, rfl⟩ (fun b hb => ?_) (fun h5 W5 => x_aload rfl (x_cv rfl (Nat.le_of_ble_eq_true rfl) (isO_W W5 hCj.lt hCj.sh) (c_clear W5 hCj (fun h6 w6 W6 e6 d6 => xk_v (x_aload rfl (x_cv rfl (Nat.le_of_ble_eq_true rfl) (isO_W W6 (by decide) shp_42) (c_advA (p := 0) W6 (hrd w6 e6) (Nat.zero_le _) hn7 hτ (fun h7 w7 W7 e7 r7 => xk_v (x_sipush (x_istore rfl (x_goto (?_)))))))))))))))))))))))))))
    · have hb2 : b = 0 ∨ b = 8 := by
        have hb := hb
        simp [isRf] at hb
        exact hb
      rcases hb2 with rfl | rfl
      · rfl
      · show wr (sr _ 42 8 j) 42 8 = if 8 = 8 then j else _
        rw [wr_sr, if_pos ⟨rfl, rfl⟩, if_pos rfl]
    · have g := e6 42 (by omega)
      have hk6 : kE j w w6 := by
        refine (((kE_42 (j := 2) (x := kI 0) (by decide)).trans (kE_42 (j := 3) (x := kI (-1)) (by decide))).trans ((kE_42 (j := 4) (x := kI (n : Int)) (by decide)).trans (kE_42 (j := 5) (x := kI 0) (by decide)))).trans (w'' := w6) ⟨fun a h1 h2 => ?_, ?_⟩
        · exact same.trans (w' := sr (sn (sn (sn (sn w 42 2 (kI 0)) 42 3 (kI (-1))) 42 4 (kI (n : Int))) 42 5 (kI 0)) 42 8 j) ((kp_sr (l := [42]) (by simp)) a (by simpa using h1)) (e6 a h2)
        · rw [g.1]
          rfl
      have h2 : wn w6 42 2 = kI 0 := by rw [g.1]; simp [wn_sn, wn_sr]
      have h3 : wn w6 42 3 = kI (-1) := by rw [g.1]; simp [wn_sn, wn_sr]
      have h8 : wr w6 42 8 = j := by
        rw [g.2.1, wr_sr, if_pos ⟨rfl, rfl⟩]
      have t0 := tk_ok (τ := τ) (n := n) (p := 0) (Nat.zero_le _)
      exact loop 0 (Nat.zero_le _) (tk τ n 0) V0 (n + 1) h7 w7 t0.1 DOK_V0 rfl (Nat.zero_le _) (by omega) rfl W7 (hk6.trans (e7.e (by decide))) ((e7.2.2 2 (by decide)).trans h2) ((e7.2.2 3 (by decide)).trans h3) r7 (d6.kr hj e7) ((congrFun e7.2.1 8).trans h8)
  have hk4 : 700 ≤ l → t.2.2 = 4 := fun h9 => by
    by_cases e : t.2.2 = 4
    · exact e
    · have := ht.2.2.2.2.1 e
      have := ht.2.1
      omega
  have hf1 : ∃ f', f = f' + 1 := ⟨f - 1, by have := ht.1; have := ht.2.1; omega⟩
  obtain ⟨f', hf'⟩ := hf1
  subst hf'
  have hres4 : t.2.2 = 4 → clubS τ n = .inr V := fun h9 => by
    rw [hcl]
    unfold allS
    rw [if_pos h9]
  have hk5 := ht.2.2.1
  have hVO : VOK V := VOK_of hO (by
    rw [hV0]
    unfold btw
    rw [kN_toInt (by omega)]
    omega)
  refine hJ 1 _ _ rfl _ _ _ _ (x_iload rfl (x_sipush (x_br2 (fun q1 => have q1 := ge_y (n := 700) rfl (by omega) q1; hJ 3 _ _ rfl _ _ _ _ (x_aload rfl (x_cv rfl (Nat.le_of_ble_eq_true rfl) (isO_W W0 hCj.lt hCj.sh) (c_weigh W0 hCj hD hO (fun h1 w1 W1 e1 c1 => xk_v (x_sipush (x_iret (by first | exact nrwB _ | rfl | decide) ?_))))))) (fun q1 => have q1 := ge_n (n := 700) rfl (by omega) q1; x_aload rfl (w_geti W0 2 6 (by decide) shp_42 rfl rfl (x_sipush (x_br2 (fun q2 => have q2 := cy_eq q2; hJ 3 _ _ rfl _ _ _ _ (x_aload rfl (x_cv rfl (Nat.le_of_ble_eq_true rfl) (isO_W W0 hCj.lt hCj.sh) (c_weigh W0 hCj hD hO (fun h2 w2 W2 e2 c2 => xk_v (x_sipush (x_iret (by first | exact nrwB _ | rfl | decide) ?_))))))) (fun q2 => have q2 := cn_eq q2; x_aload rfl (x_cv rfl (Nat.le_of_ble_eq_true rfl) (isO_W W0 (by decide) shp_42) (c_readLine W0 hd ht hn7 hτ hj hdr hD hO (fun f9 hf9 h5 w5 W5 e5 g1 g2 => ?_) (fun t9 V9 t8 hb9 hs9 h3 w3 W3 e3 r3 d3 => xk_go (x_br (fun q3 => have q3 := bI_ne0.mp q3; hJ 2 _ _ rfl _ _ _ _ (x_aload rfl (x_dupr (w_geti W3 0 0 hCj.lt hCj.sh rfl rfl (x_sipush (x_iadd (w_puti W3 0 0 hCj.lt hCj.sh rfl rfl (okI rfl) (fun h4 W4 => x_iinc rfl rfl (x_goto (?_)))))))))) (fun q3 => have q3 := bI_nn q3; x_sipush (x_iret (by first | exact nrwB _ | rfl | decide) ?_))))))))))))))
  · exact kk V (hres4 (hk4 (by omega))) h1 w1 W1 (hk.trans (kE_of hj e1)) (by rw [(e1 42 (by omega)).1]; exact f2) (by rw [(e1 42 (by omega)).1]; exact f3) c1 hVO
  · rw [hd.2.2.1] at q2
    have q2 : t.2.2 = 4 := (kinj5 (b := 4) (by omega) (by omega)).mp q2
    exact kk V (hres4 q2) h2 w2 W2 (hk.trans (kE_of hj e2)) (by rw [(e2 42 (by omega)).1]; exact f2) (by rw [(e2 42 (by omega)).1]; exact f3) c2 hVO
  · rw [hd.2.2.1] at q2
    have q2 : ¬ t.2.2 = 4 := fun z => q2 (by rw [z]; rfl)
    refine xk_go (x_br (fun z1 => absurd (bI_ne0.mp z1) (by decide)) (fun z1 => have z1 := bI_nn z1; x_sipush (x_iret (by first | exact nrwB _ | rfl | decide) ?_)))
    exact kf f9 (by
      rw [hcl]
      unfold allS
      rw [if_neg q2, hf9]) h5 w5 W5 (hk.trans (e5.e (by decide))) g1 g2
  · rw [hd.2.2.1] at q2
    have q2 : ¬ t.2.2 = 4 := fun z => q2 (by rw [z]; rfl)
    have k1 := bodS_ok ht hO hb9
    have k2 := semS_ok k1.1 hs9
    have hlin := lin_ok hb9 hs9
    have e0 : wn w3 j 0 = V9 0 := d3.1.1
    have hx0 : V9 0 + kI 1 = kI ((l + 1 : Nat) : Int) := by rw [k1.2.2.2, hV0, kN_succ]
    rw [e0] at W4
    refine J_c (ih q1 t8 (upd V9 0 (V9 0 + kI 1)) f' h4 _ k2.1 k1.2.2.1.lines (by rw [upd_self, hx0]) (by omega) (by omega) ?_ W4 (hk.trans ((e3.e (by decide)).trans (kE_of hj (fun a ha => same_sn (by omega))))) ?_ ?_ (r3.keep hj (fun a ha => same_sn (by omega))) (d3.set (by omega)) ?_) (by simp only [sI, kN_succ])
    · rw [hcl]
      show (if t.2.2 = 4 then _ else _) = _
      rw [if_neg q2, hlin]
    · rw [wn_sn, if_neg (by omega), e3.2.2 2 (by decide)]; exact f2
    · rw [wn_sn, if_neg (by omega), e3.2.2 3 (by decide)]; exact f3
    · exact (congrFun e3.2.1 8).trans hdr
  · exact absurd q3 (by decide)
end W1
