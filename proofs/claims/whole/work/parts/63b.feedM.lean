/-! ===== feeding the tape: the model ===== -/
section W1
variable {S : StT}
variable {ga : Nat → Nat} {L : Nat} {xs : Nat → Int32} {d : Nat} {h : ac_H} {P : ac_P} {ad : Nat → Nat} {w : Wst} {V : VT}
theorem m_feed {a b c e f : Int32} (W : WW ad w h) (hS : RMo w S) (hO : SOK S) (kk : KQm ad P w 0 (some (.int (feedR S.2.2.2.1))) S (S.1, S.2.1, S.2.2.1, feedV S.2.2.2.1 a b c e f, S.2.2.2.2)) : WP ga L xs (d + 2) 145 [.ref (ad 80), .int a, .int b, .int c, .int e, .int f] h P := by
  obtain ⟨hK, hT, hI, hP, hF⟩ := id hS
  have hp7 := hO.2.2.2.1
  have hP2 : ∀ k, k < S.2.2.2.1.2 → wa w 85 k = kI (S.2.2.2.1.1 k : Int) := hP.2
  have e20 : wn w 80 6 + kI 20 = kI ((S.2.2.2.1.2 + 20 : Nat) : Int) := by rw [hP.1]; exact kN_add _ 20
  have hqy : wn w 80 6 + kI 20 ≤ kI 700 → S.2.2.2.1.2 + 20 ≤ 700 := fun q => by
    rw [e20] at q
    exact (kN_le (b := 700) (by omega) (by omega)).mp q
  have hqn : ¬ wn w 80 6 + kI 20 ≤ kI 700 → ¬ S.2.2.2.1.2 + 20 ≤ 700 := fun q z => q (by
    rw [e20]
    exact (kN_le (b := 700) (by omega) (by omega)).mpr z)
  unfold feedR feedV at kk
  refine WP.enter kX7_feed (Nat.le_of_ble_eq_true rfl) (fun J hJ => ?_)
  have loop : S.2.2.2.1.2 + 20 ≤ 700 → ∀ m, m ≤ 20 → ∀ h' w' z7, WW ad w' h' → (∀ x, x ≠ 80 → x ≠ 85 → same w w' x) → (∀ j, j ≠ 4 → j ≠ 6 → wn w' 80 j = wn w 80 j) → wn w' 80 4 = kI 0 → wn w' 80 6 = kI ((S.2.2.2.1.2 + m : Nat) : Int) → (∀ k, wa w' 85 k = if S.2.2.2.1.2 ≤ k ∧ k < S.2.2.2.1.2 + m then kI (byN (wd a b c e f (k - S.2.2.2.1.2)) ((k - S.2.2.2.1.2) % 4) : Int) else wa w 85 k) → J 2 [some (.ref (ad 80)), some (.int a), some (.int b), some (.int c), some (.int e), some (.int f), some (.int (kI (m : Int))), z7] [] h' (0, 0) := fun hok => up_ind (fun m hm ih h0 w0 z7 W0 hs hn n0 h6 hE => ?_)
  · refine hJ 0 _ _ rfl _ _ _ _ (x_aload rfl (x_sipush (w_puti W 7 4 (by decide) shp_80 rfl rfl (okI rfl) (fun h1 W1 => x_aload rfl (w_geti W1 7 6 (by decide) shp_80 rfl rfl (x_sipush (x_iadd (x_sipush (x_br2 (fun q1 => have q1 := hqy q1; hJ 1 _ _ rfl _ _ _ _ (x_sipush (x_istore rfl (x_goto (?_))))) (fun q1 => have q1 := hqn q1; x_sipush (x_iret (nrwI _) ?_)))))))))))
    · exact loop q1 0 (Nat.zero_le _) _ _ none W1 (fun x g1 _ => same_sn g1) (fun j g1 _ => wn4n j g1) wn4 (by rw [wn_sn, if_neg (fun z => by cases z.2)]; exact hP.1) (fun k => (show wa w 85 k = _ from (if_neg (by omega)).symm))
    · rw [if_neg q1, if_neg q1] at kk
      exact kk.yes rfl W1 kml4 hS.th wn4 rfl
  have b7 : m < 20 → ∀ v, v = wd a b c e f m → J 7 [some (.ref (ad 80)), some (.int a), some (.int b), some (.int c), some (.int e), some (.int f), some (.int (kI (m : Int))), z7] [.int v] h0 (0, 0) := fun hm9 v hv => ?_
  · refine hJ 2 _ _ rfl _ _ _ _ (x_iload rfl (x_sipush (x_br2 (fun q1 => have q1 := ge_y (n := 20) rfl (by omega) q1; hJ 8 _ _ rfl _ _ _ _ (x_aload rfl (w_geti W0 7 6 (by decide) shp_80 rfl rfl (x_iret (nrwI _) ?_)))) (fun q1 => have q1 := ge_n (n := 20) rfl (by omega) q1; x_iload rfl (x_sipush (x_br2 (fun q2 => have q2 := ge_y (n := 4) rfl (by omega) q2; hJ 3 _ _ rfl _ _ _ _ (x_iload rfl (x_sipush (x_br2 (fun q3 => have q3 := ge_y (n := 8) rfl (by omega) q3; hJ 4 _ _ rfl _ _ _ _ (x_iload rfl (x_sipush (x_br2 (fun q4 => have q4 := ge_y (n := 12) rfl (by omega) q4; hJ 5 _ _ rfl _ _ _ _ (x_iload rfl (x_sipush (x_br2 (fun q5 => have q5 := ge_y (n := 16) rfl (by omega) q5; hJ 6 _ _ rfl _ _ _ _ (x_iload rfl (x_goto (?_)))) (fun q5 => have q5 := ge_n (n := 16) rfl (by omega) q5; x_iload rfl (x_goto (?_))))))) (fun q4 => have q4 := ge_n (n := 12) rfl (by omega) q4; x_iload rfl (x_goto (?_))))))) (fun q3 => have q3 := ge_n (n := 8) rfl (by omega) q3; x_iload rfl (x_goto (?_))))))) (fun q2 => have q2 := ge_n (n := 4) rfl (by omega) q2; x_iload rfl (x_goto (?_)))))))))
    · have e20 : m = 20 := by omega
      subst e20
      rw [if_pos hok, if_pos hok] at kk
      refine kk.yes rfl W0 (fun x hx => hs x (by omega) (by omega)) ⟨?_, ⟨fun t ht => ?_, fun k hk => ?_⟩, fun j hj => ?_, ⟨h6, fun k hk => ?_⟩, ?_, ?_⟩ n0 (by rw [h6])
      · rw [(hs 81 (by omega) (by omega)).2.2.1]; exact hK
      · rw [(hs 93 (by omega) (by omega)).2.2.1, (hs 94 (by omega) (by omega)).2.2.1]; exact hT.1 t ht
      · rw [(hs 95 (by omega) (by omega)).2.2.2]; exact hT.2 k hk
      · rw [(hs 84 (by omega) (by omega)).2.2.1, (hs 83 (by omega) (by omega)).2.2.1]; exact hI j hj
      · show wa w0 85 k = kI ((if S.2.2.2.1.2 ≤ k ∧ k < S.2.2.2.1.2 + 20 then byN (wd a b c e f (k - S.2.2.2.1.2)) ((k - S.2.2.2.1.2) % 4) else S.2.2.2.1.1 k : Nat) : Int)
        have hk : k < S.2.2.2.1.2 + 20 := hk
        rw [hE k]
        by_cases hc : S.2.2.2.1.2 ≤ k ∧ k < S.2.2.2.1.2 + 20
        · rw [if_pos hc, if_pos hc]
        · rw [if_neg hc, if_neg hc]
          exact hP2 k (by omega)
      · rw [hn 14 (by omega) (by omega)]; exact hF.1
      · rw [hn 15 (by omega) (by omega)]; exact hF.2
    · exact b7 q1 _ (by unfold wd; rw [if_neg (by omega), if_neg (by omega), if_neg (by omega), if_neg (by omega)])
    · exact b7 q1 _ (by unfold wd; rw [if_neg (by omega), if_neg (by omega), if_neg (by omega), if_pos q5])
    · exact b7 q1 _ (by unfold wd; rw [if_neg (by omega), if_neg (by omega), if_pos q4])
    · exact b7 q1 _ (by unfold wd; rw [if_neg (by omega), if_pos q3])
    · exact b7 q1 _ (by unfold wd; rw [if_pos q2])
  refine hJ 7 _ _ rfl _ _ _ _ (x_istore rfl (x_aload rfl (w_getr W0 7 5 (t := 85) (by decide) shp_80 rfl rfl rfl (x_aload rfl (w_geti W0 7 6 (by decide) shp_80 rfl rfl (x_iload rfl (x_sipush (x_sipush (x_iload rfl (x_sipush (x_iand (x_imul (x_isub (x_eqi (ixs m hm9) (x_iushr (x_sipush (x_iand (x_eqi (bSM _ (by omega)) (w_iast W0 (S.2.2.2.1.2 + m) (by decide) shp_85 h6 (by omega) (by decide) (fun h1 W1 => x_aload rfl (x_dupr (w_geti W1 7 6 (by decide) shp_80 rfl rfl (x_sipush (x_iadd (w_puti W1 7 6 (by decide) shp_80 rfl rfl (okI rfl) (fun h2 W2 => x_iinc rfl rfl (x_goto (?_))))))))))))))))))))))))))))
  refine J_c (ih hm9 h2 _ (some (.int v)) W2 (fun x g1 g2 => ((hs x g1 g2).trans (same_sa g2)).trans (same_sn g1)) (fun j g1 g2 => ?_) ?_ ?_ (fun k => ?_)) (by simp only [sI, kN_succ])
  · rw [wn_sn, if_neg (fun z => g2 z.2)]
    exact hn j g1 g2
  · rw [wn_sn, if_neg (fun z => by cases z.2)]
    exact n0
  · rw [wn_sn, if_pos ⟨rfl, rfl⟩]
    show wn w0 80 6 + kI 1 = _
    rw [h6, kN_succ]
    rfl
  · rw [wa_sn, wa_self]
    by_cases ek : k = S.2.2.2.1.2 + m
    · rw [ek, upd_self, if_pos (by omega), hv, show S.2.2.2.1.2 + m - S.2.2.2.1.2 = m by omega]
      rfl
    · rw [upd_ne ek, hE k]
      by_cases hc : S.2.2.2.1.2 ≤ k ∧ k < S.2.2.2.1.2 + m
      · rw [if_pos hc, if_pos (by omega)]
      · rw [if_neg hc, if_neg (by omega)]
end W1
