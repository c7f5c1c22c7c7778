/-! ===== a rule is given; the number of one who never comes ===== -/
theorem offN_vR {V V' : VT} {a : Nat} (H : ∀ k, k ≠ 7 + 4 * a → V' k = V k) (m : Nat) : vR V' m = vR V m := H _ (by omega)
theorem offN_vC {V V' : VT} {a : Nat} (H : ∀ k, k ≠ 7 + 4 * a → V' k = V k) (m : Nat) : vC V' m = vC V m := H _ (by omega)
theorem offN_vU {V V' : VT} {a : Nat} (H : ∀ k, k ≠ 7 + 4 * a → V' k = V k) (m : Nat) : vU V' m = vU V m := H _ (by omega)
theorem offN_vS {V V' : VT} {a : Nat} (ha : a < 12) (H : ∀ k, k ≠ 7 + 4 * a → V' k = V k) (m : Nat) : vS V' m = vS V m := H _ (by omega)
theorem offN_vN {V V' : VT} {a : Nat} (H : ∀ k, k ≠ 7 + 4 * a → V' k = V k) {m : Nat} (h : m ≠ a) : vN V' m = vN V m := H _ (by omega)
theorem offN_nm {V V' : VT} {a : Nat} (H : ∀ k, k ≠ 7 + 4 * a → V' k = V k) : nm V' = nm V := by
  unfold nm
  rw [H 4 (by omega)]
theorem offN_wk {V V' : VT} {a : Nat} (H : ∀ k, k ≠ 7 + 4 * a → V' k = V k) : wk V' = wk V := by
  unfold wk
  rw [H 5 (by omega)]
theorem offN_meets {V V' : VT} {a : Nat} (H : ∀ k, k ≠ 7 + 4 * a → V' k = V k) (s : Int32) : meetsV V' s = meetsV V s := by
  unfold meetsV
  rw [H 1 (by omega)]
theorem offN_pay {V V' : VT} {a : Nat} (H : ∀ k, k ≠ 7 + 4 * a → V' k = V k) (s : Int32) (m : Nat) : payV V' s m = payV V s m := by
  unfold payV
  rw [offN_meets H, H 2 (by omega), offN_vC H]
theorem offN_seen {V V' : VT} {a : Nat} (H : ∀ k, k ≠ 7 + 4 * a → V' k = V k) (come x : Int32) : ∀ k, seenG V' false come x k = seenG V false come x k
  | 0 => rfl
  | k + 1 => by
    unfold seenG
    rw [offN_seen H come x k, offN_vU H]
    simp
section B1
variable {ga : Nat → Nat} {L : Nat} {xs : Nat → Int32} {d : Nat} {h : ac_H} {P : ac_P} {ad : Nat → Nat} {w : Wst} {i : Nat} {V : VT} {t : Nat}
theorem c_giveRule {x y z : Int32} {m : Nat} (W : WW ad w h) (hT : isC t) (hx : x = kI (m : Int)) (hm : m < 12) (kk : ∀ h', WW ad (sa (sa w (t + 1) (upd (wa w (t + 1)) m y)) (t + 2) (upd (wa w (t + 2)) m z)) h' → P (.inl none) h') : WP ga L xs (d + 1) 5 [.ref (ad t), .int x, .int y, .int z] h P := by
  refine WP.enter kX0_giveRule (Nat.le_of_ble_eq_true rfl) (fun J hJ => ?_)
  refine hJ 0 _ _ rfl _ _ _ _ (x_aload rfl (w_getr W 0 10 (t := t + 1) hT.lt hT.sh rfl rfl (hT.rf1 _) (x_iload rfl (x_iload rfl (w_iast W m hT.lt1 hT.sh1 hx (by omega) (by decide) (fun h1 W1 => x_aload rfl (w_getr W1 0 11 (t := t + 2) hT.lt hT.sh rfl rfl (hT.rf2 _) (x_iload rfl (x_iload rfl (w_iast W1 m hT.lt2 hT.sh2 hx (by omega) (by decide) (fun h2 W2 => x_vret rfl ?_)))))))))))
  rw [wa_sa, if_neg (show ¬ t + 2 = t + 1 by omega)] at W2
  exact kk _ W2
end B1
