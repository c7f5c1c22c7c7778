/-! ===== the model: at rest ===== -/
def ftgV (V : VT) (s : Int32) : Int32 := if restV V s = true then kI (-1) else kI (fstG (gainP V s) (nm V) : Int)
theorem ftg_least {V : VT} {s : Int32} (h : restV V s = false) : fstG (gainP V s) (nm V) < nm V ∧ gainP V s (fstG (gainP V s) (nm V)) = true ∧ ∀ j, j < fstG (gainP V s) (nm V) → gainP V s j = false := by
  have key : ∀ n, (∃ m, m < n ∧ gainP V s m = true) → fstG (gainP V s) n < n ∧ gainP V s (fstG (gainP V s) n) = true ∧ ∀ j, j < fstG (gainP V s) n → gainP V s j = false := by
    intro n
    induction n with
    | zero => rintro ⟨m, h, -⟩; omega
    | succ n ih =>
      rintro ⟨m, h1, h2⟩
      unfold fstG
      by_cases e : fstG (gainP V s) n < n
      · rw [if_pos e]
        have e2 : ∃ m, m < n ∧ gainP V s m = true := by
          refine Classical.byContradiction (fun hn => ?_)
          have := fst_all (p := gainP V s) (n := n) (fun j hj => by
            cases hh : gainP V s j
            · rfl
            · exact absurd ⟨j, hj, hh⟩ hn)
          omega
        obtain ⟨x1, x2, x3⟩ := ih e2
        exact ⟨by omega, x2, x3⟩
      · rw [if_neg e]
        have hno : ∀ j, j < n → gainP V s j = false := by
          intro j hj
          cases hh : gainP V s j
          · rfl
          · exact absurd (ih ⟨j, hj, hh⟩).1 e
        have : m = n := by
          refine Classical.byContradiction (fun hn => ?_)
          have := hno m (by omega)
          rw [h2] at this
          cases this
        subst this
        rw [if_pos h2]
        exact ⟨by omega, h2, hno⟩
  refine key _ ?_
  refine Classical.byContradiction (fun hn => ?_)
  have : restV V s = true := decide_eq_true (fun m hm hg => hn ⟨m, hm, decide_eq_true hg⟩)
  rw [h] at this
  cases this
theorem ftg_iff {V : VT} {s : Int32} (hV : VOK V) : ftgV V s = kI (-1) ↔ restV V s = true := by
  have hn := hV.n.2
  unfold ftgV
  cases h : restV V s
  · have := (ftg_least h).1
    rw [if_neg (by decide), kI_inj (by omega) (by omega) (by omega) (by omega)]
    constructor
    · intro h; omega
    · intro h; cases h
  · simp
theorem ftg_eq {V : VT} {s : Int32} (h : restV V s = false) : ftgV V s = kI (fstG (gainP V s) (nm V) : Int) := by
  unfold ftgV
  rw [h]
  rfl
theorem r_true {V : VT} {s : Int32} (hV : VOK V) (b : ftgV V s = kI (-1)) : restV V s = true := (ftg_iff hV).mp b
theorem r_false {V : VT} {s : Int32} (hV : VOK V) (b : ¬ ftgV V s = kI (-1)) : restV V s = false := by
  cases h : restV V s
  · rfl
  · exact absurd ((ftg_iff hV).mpr h) b
section M1
variable {ga : Nat → Nat} {L : Nat} {xs : Nat → Int32} {d : Nat} {h : ac_H} {P : ac_P} {ad : Nat → Nat} {w : Wst} {V : VT}
theorem c7_fails {x : Int32} (W : WW ad w h) (kk : ∀ h', WW ad (sn w 80 4 x) h' → P (.inl (some (.int (kI 0)))) h') : WP ga L xs (d + 1) 139 [.ref (ad 80), .int x] h P := by
  refine WP.enter kX7_fails (Nat.le_of_ble_eq_true rfl) (fun J hJ => ?_)
  exact hJ 0 _ _ rfl _ _ _ _ (x_aload rfl (x_iload rfl (w_puti W 7 4 (by decide) shp_80 rfl rfl (okI rfl) (fun h1 W1 => x_sipush (x_iret (nrwI _) (kk _ W1))))))
theorem c7_gainOf {m : Nat} {s x : Int32} (W : WW ad w h) (hK : wa w 81 = V) (hV : VOK V) (hs : sok (nm V) s) (hx : x = kI (m : Int)) (hm : m < nm V) (hP : P (.inl (some (.int (gainV V s m)))) h) : WP ga L xs (d + 4) 190 [.ref (ad 80), .int s, .int x] h P := by
  subst hx
  have hn := hV.n.2
  refine WP.enter kX7_gainOf (Nat.le_of_ble_eq_true rfl) (fun J hJ => ?_)
  exact hJ 0 _ _ rfl _ _ _ _ (x_aload rfl (x_iload rfl (x_sipush (x_iload rfl (x_shl1 (by omega) (x_ixor (x_iload rfl (x_cv rfl (Nat.le_of_ble_eq_true rfl) (isO_W W (by decide) shp_80) (c7_payOf W hK (hs.tog hm) rfl (by omega) (xk_go (x_aload rfl (x_iload rfl (x_iload rfl (x_cv rfl (Nat.le_of_ble_eq_true rfl) (isO_W W (by decide) shp_80) (c7_payOf W hK hs rfl (by omega) (xk_go (x_isub (x_iret (nrwI _) hP))))))))))))))))))
theorem c7_ftg {s : Int32} (W : WW ad w h) (hK : wa w 81 = V) (hV : VOK V) (hs : sok (nm V) s) (hP : P (.inl (some (.int (ftgV V s)))) h) : WP ga L xs (d + 5) 191 [.ref (ad 80), .int s] h P := by
  have hn := hV.n.2
  refine WP.enter kX7_firstToGain (Nat.le_of_ble_eq_true rfl) (fun J hJ => ?_)
  have loop : ∀ m, m ≤ nm V → (∀ j, j < m → gainP V s j = false) → J 1 [some (.ref (ad 80)), some (.int s), some (.int (kI (m : Int)))] [] h (0, 0) := up_ind (fun m hm ih hno => ?_)
  · exact hJ 0 _ _ rfl _ _ _ _ (x_sipush (x_istore rfl (x_goto (loop 0 (Nat.zero_le _) (fun j hj => by omega)))))
  refine hJ 1 _ _ rfl _ _ _ _ (x_iload rfl (x_aload rfl (x_cv rfl (Nat.le_of_ble_eq_true rfl) (isO_W W (by decide) shp_80) (c7_many W hK hV (xk_go (x_br2 (fun q1 => have q1 := ge_y rfl (by omega) q1; hJ 3 _ _ rfl _ _ _ _ (x_sipush (x_iret (nrwI _) ?_))) (fun q1 => have q1 := ge_n rfl (by omega) q1; x_aload rfl (x_iload rfl (x_iload rfl (x_cv rfl (Nat.le_of_ble_eq_true rfl) (isO_W W (by decide) shp_80) (c7_gainOf W hK hV hs rfl (by omega) (xk_go (x_br (fun q2 => have q2 := cy_le q2; hJ 2 _ _ rfl _ _ _ _ (x_iinc rfl rfl (x_goto (?_)))) (fun q2 => have q2 := cn_le q2; x_iload rfl (x_iret (nrwI _) ?_)))))))))))))))
  · have e : restV V s = true := decide_eq_true (fun j hj => of_decide_eq_false (hno j (by omega)))
    unfold ftgV at hP
    rw [if_pos e] at hP
    exact hP
  · have e : gainP V s m = false := decide_eq_false (Int32.not_lt.mpr q2)
    refine J_c (ih q1 (fun j hj => ?_)) ?_
    · by_cases ej : j = m
      · rw [ej]; exact e
      · exact hno j (by omega)
    · simp only [sI, kN_succ]
  · have e : gainP V s m = true := decide_eq_true q2
    have er : restV V s = false := decide_eq_false (fun hh => hh m q1 q2)
    rw [ftg_eq er, fst_is e hno q1] at hP
    exact hP
theorem c7_payAll {s : Int32} (W : WW ad w h) (hK : wa w 81 = V) (hV : VOK V) (hs : sok (nm V) s) (hP : P (.inl (some (.int (payAllV V s)))) h) : WP ga L xs (d + 4) 192 [.ref (ad 80), .int s] h P := by
  have hn := hV.n.2
  refine WP.enter kX7_payAll (Nat.le_of_ble_eq_true rfl) (fun J hJ => ?_)
  have loop : ∀ m, m ≤ nm V → J 1 [some (.ref (ad 80)), some (.int s), some (.int (sm (payV V s) m)), some (.int (kI (m : Int)))] [] h (0, 0) := up_ind (fun m hm ih => ?_)
  · exact hJ 0 _ _ rfl _ _ _ _ (x_sipush (x_istore rfl (x_sipush (x_istore rfl (x_goto (loop 0 (Nat.zero_le _)))))))
  refine hJ 1 _ _ rfl _ _ _ _ (x_iload rfl (x_aload rfl (x_cv rfl (Nat.le_of_ble_eq_true rfl) (isO_W W (by decide) shp_80) (c7_many W hK hV (xk_go (x_br2 (fun q1 => have q1 := ge_y rfl (by omega) q1; hJ 2 _ _ rfl _ _ _ _ (x_iload rfl (x_iret (nrwI _) ?_))) (fun q1 => have q1 := ge_n rfl (by omega) q1; x_iload rfl (x_aload rfl (x_iload rfl (x_iload rfl (x_cv rfl (Nat.le_of_ble_eq_true rfl) (isO_W W (by decide) shp_80) (c7_payOf W hK hs rfl (by omega) (xk_go (x_iadd (x_istore rfl (x_iinc rfl rfl (x_goto (?_))))))))))))))))))
  · have e : m = nm V := by omega
    subst e
    exact hP
  · refine J_c (ih q1) ?_
    simp only [sI, sm, kN_succ]
theorem c7_bribeOf {s : Int32} (W : WW ad w h) (hK : wa w 81 = V) (hV : VOK V) (hs : sok (nm V) s) (hP : P (.inl (some (.int (bribeV V s)))) h) : WP ga L xs (d + 5) 210 [.ref (ad 80), .int s] h P := by
  have hn := hV.n.2
  refine WP.enter kX7_bribeOf (Nat.le_of_ble_eq_true rfl) (fun J hJ => ?_)
  have loop : ∀ m, m ≤ nm V → J 1 [some (.ref (ad 80)), some (.int s), some (.int (sm (fun m => imax (kI 0) (gainV V s m)) m)), some (.int (kI (m : Int)))] [] h (0, 0) := up_ind (fun m hm ih => ?_)
  · exact hJ 0 _ _ rfl _ _ _ _ (x_sipush (x_istore rfl (x_sipush (x_istore rfl (x_goto (loop 0 (Nat.zero_le _)))))))
  refine hJ 1 _ _ rfl _ _ _ _ (x_iload rfl (x_aload rfl (x_cv rfl (Nat.le_of_ble_eq_true rfl) (isO_W W (by decide) shp_80) (c7_many W hK hV (xk_go (x_br2 (fun q1 => have q1 := ge_y rfl (by omega) q1; hJ 2 _ _ rfl _ _ _ _ (x_iload rfl (x_iret (nrwI _) ?_))) (fun q1 => have q1 := ge_n rfl (by omega) q1; x_iload rfl (x_sipush (x_aload rfl (x_iload rfl (x_iload rfl (x_cv rfl (Nat.le_of_ble_eq_true rfl) (isO_W W (by decide) shp_80) (c7_gainOf W hK hV hs rfl (by omega) (xk_go (x_cs rfl (Nat.le_of_ble_eq_true rfl) (c_max (xk_go (x_iadd (x_istore rfl (x_iinc rfl rfl (x_goto (?_))))))))))))))))))))))
  · have e : m = nm V := by omega
    subst e
    exact hP
  · refine J_c (ih q1) ?_
    simp only [sI, sm, kN_succ]
def costAllV (V : VT) (s : Int32) : Int32 := sm (costV V s) (nm V)
theorem c7_costOf {s : Int32} (W : WW ad w h) (hK : wa w 81 = V) (hV : VOK V) (hs : sok (nm V) s) (hP : P (.inl (some (.int (costAllV V s)))) h) : WP ga L xs (d + 2) 212 [.ref (ad 80), .int s] h P := by
  have hn := hV.n.2
  refine WP.enter kX7_costOf (Nat.le_of_ble_eq_true rfl) (fun J hJ => ?_)
  have loop : ∀ m, m ≤ nm V → J 1 [some (.ref (ad 80)), some (.int s), some (.int (sm (costV V s) m)), some (.int (kI (m : Int)))] [] h (0, 0) := up_ind (fun m hm ih => ?_)
  · exact hJ 0 _ _ rfl _ _ _ _ (x_sipush (x_istore rfl (x_sipush (x_istore rfl (x_goto (loop 0 (Nat.zero_le _)))))))
  refine hJ 1 _ _ rfl _ _ _ _ (x_iload rfl (x_aload rfl (x_cv rfl (Nat.le_of_ble_eq_true rfl) (isO_W W (by decide) shp_80) (c7_many W hK hV (xk_go (x_br2 (fun q1 => have q1 := ge_y rfl (by omega) q1; hJ 4 _ _ rfl _ _ _ _ (x_iload rfl (x_iret (nrwI _) ?_))) (fun q1 => have q1 := ge_n rfl (by omega) q1; x_iload rfl (x_iload rfl (x_iload rfl (x_cs rfl (Nat.le_of_ble_eq_true rfl) (c7_has rfl (by omega) (xk_go (x_br (fun q2 => have q2 := bI_eq0.mp q2; hJ 2 _ _ rfl _ _ _ _ (x_sipush (x_goto (hJ 3 _ _ rfl _ _ _ _ (x_iadd (x_istore rfl (x_iinc rfl rfl (x_goto (?_))))))))) (fun q2 => have q2 := bI_ne0.mp q2; x_aload rfl (x_iload rfl (x_sipush (x_cv rfl (Nat.le_of_ble_eq_true rfl) (isO_W W (by decide) shp_80) (c7_of W hK rfl rfl (by omega) (by decide) (xk_go (x_goto (hJ 3 _ _ rfl _ _ _ _ (x_iadd (x_istore rfl (x_iinc rfl rfl (x_goto (?_))))))))))))))))))))))))))
  · have e : m = nm V := by omega
    subst e
    exact hP
  · refine J_c (ih q1) ?_
    simp only [sI, sm, kN_succ, costV, q2]
    rfl
  · have e8 : V (6 + 4 * m + 2) = vC V m := by unfold vC; congr 1; omega
    refine J_c (ih q1) ?_
    simp only [sI, sm, kN_succ, costV, q2, e8, if_true]
theorem c7_isStrong {s : Int32} (W : WW ad w h) (hK : wa w 81 = V) (hV : VOK V) (hs : sok (nm V) s) (hP : P (.inl (some (.int (bI (strongV V s))))) h) : WP ga L xs (d + 6) 196 [.ref (ad 80), .int s] h P := by
  have hn := hV.n.2
  refine WP.enter kX7_isStrong (Nat.le_of_ble_eq_true rfl) (fun J hJ => ?_)
  have hno0 : restV V s = true → ∀ a, a < nm V → ∀ b, b < nm V → a < b → (payV V s a < payV V (s ^^^ b1 a ^^^ b1 b) a ∧ payV V s b < payV V (s ^^^ b1 a ^^^ b1 b) b) → strongV V s = false := fun hr a ha b hb9 hab hh => by
    unfold strongV
    rw [hr, Bool.true_and, decide_eq_false_iff_not]
    intro hall
    exact hall a ha b hb9 hab hh
  have hyes : restV V s = true → (∀ a, a < nm V → ∀ b, b < nm V → a < b → ¬ (payV V s a < payV V (s ^^^ b1 a ^^^ b1 b) a ∧ payV V s b < payV V (s ^^^ b1 a ^^^ b1 b) b)) → strongV V s = true := fun hr hh => by
    unfold strongV
    rw [hr, Bool.true_and]
    exact decide_eq_true hh
  have inner : restV V s = true → ∀ m, m < nm V → (∀ z z2, J 2 [some (.ref (ad 80)), some (.int s), some (.int (kI ((m + 1 : Nat) : Int))), z, z2] [] h (0, 0)) ∨ (∃ b, b < nm V ∧ m < b ∧ (payV V s m < payV V (s ^^^ b1 m ^^^ b1 b) m ∧ payV V s b < payV V (s ^^^ b1 m ^^^ b1 b) b)) → ∀ k, k ≤ nm V → m < k → (∀ b, m < b → b < k → ¬ (payV V s m < payV V (s ^^^ b1 m ^^^ b1 b) m ∧ payV V s b < payV V (s ^^^ b1 m ^^^ b1 b) b)) → ∀ z, J 3 [some (.ref (ad 80)), some (.int s), some (.int (kI (m : Int))), some (.int (kI (k : Int))), z] [] h (0, 0) := fun hr m hm hJ2 => up_ind (fun k hk ih hmk hb z => ?_)
  · have loop : restV V s = true → ∀ m, m ≤ nm V → (∀ a, a < m → ∀ b, b < nm V → a < b → ¬ (payV V s a < payV V (s ^^^ b1 a ^^^ b1 b) a ∧ payV V s b < payV V (s ^^^ b1 a ^^^ b1 b) b)) → ∀ z z2, J 2 [some (.ref (ad 80)), some (.int s), some (.int (kI (m : Int))), z, z2] [] h (0, 0) := fun hr => up_ind (fun m hm ih hb z z2 => ?_)
    · refine hJ 0 _ _ rfl _ _ _ _ (x_aload rfl (x_iload rfl (x_cv rfl (Nat.le_of_ble_eq_true rfl) (isO_W W (by decide) shp_80) (c7_ftg W hK hV hs (xk_go (x_sipush (x_br2 (fun q1 => have q1 := r_true hV q1; hJ 1 _ _ rfl _ _ _ _ (x_sipush (x_istore rfl (x_goto (?_))))) (fun q1 => have q1 := r_false hV q1; x_sipush (x_iret (by first | exact nrwB _ | rfl | decide) ?_)))))))))
      · exact loop q1 0 (Nat.zero_le _) (fun a ha => by omega) _ _
      · unfold strongV at hP
        rw [q1, Bool.false_and] at hP
        exact hP
    · refine hJ 2 _ _ rfl _ _ _ _ (x_iload rfl (x_aload rfl (x_cv rfl (Nat.le_of_ble_eq_true rfl) (isO_W W (by decide) shp_80) (c7_many W hK hV (xk_go (x_br2 (fun q2 => have q2 := ge_y rfl (by omega) q2; hJ 6 _ _ rfl _ _ _ _ (x_sipush (x_iret (by first | exact nrwB _ | rfl | decide) ?_))) (fun q2 => have q2 := ge_n rfl (by omega) q2; x_iload rfl (x_sipush (x_iadd (x_istore rfl (x_goto (?_))))))))))))
      · rw [hyes hr (fun a ha b h1 h2 => hb a (by omega) b h1 h2)] at hP
        exact hP
      · by_cases hex : ∃ b, b < nm V ∧ m < b ∧ (payV V s m < payV V (s ^^^ b1 m ^^^ b1 b) m ∧ payV V s b < payV V (s ^^^ b1 m ^^^ b1 b) b)
        · exact J_c (inner hr m q2 (Or.inr hex) (m + 1) q2 (by omega) (fun b h1 h2 => by omega) z2) (by simp only [sI, kN_succ])
        · refine J_c (inner hr m q2 (Or.inl (fun z z2 => ih q2 (fun a ha b h1 h2 hh => ?_) _ _)) (m + 1) q2 (by omega) (fun b h1 h2 => by omega) z2) (by simp only [sI, kN_succ])
          by_cases e : a = m
          · subst e
            exact hex ⟨b, h1, h2, hh⟩
          · exact hb a (by omega) b h1 h2 hh
  have hs2 : k < nm V → sok (nm V) (s ^^^ b1 m ^^^ b1 k) := fun h9 => (hs.tog hm).tog h9
  refine hJ 3 _ _ rfl _ _ _ _ (x_iload rfl (x_aload rfl (x_cv rfl (Nat.le_of_ble_eq_true rfl) (isO_W W (by decide) shp_80) (c7_many W hK hV (xk_go (x_br2 (fun q1 => have q1 := ge_y rfl (by omega) q1; hJ 5 _ _ rfl _ _ _ _ (x_iinc rfl rfl (x_goto (?_)))) (fun q1 => have q1 := ge_n rfl (by omega) q1; x_iload rfl (x_sipush (x_iload rfl (x_shl1 (by omega) (x_ixor (x_sipush (x_iload rfl (x_shl1 (by omega) (x_ixor (x_istore rfl (x_aload rfl (x_iload rfl (x_iload rfl (x_cv rfl (Nat.le_of_ble_eq_true rfl) (isO_W W (by decide) shp_80) (c7_payOf W hK (hs2 q1) rfl (by omega) (xk_go (x_aload rfl (x_iload rfl (x_iload rfl (x_cv rfl (Nat.le_of_ble_eq_true rfl) (isO_W W (by decide) shp_80) (c7_payOf W hK hs rfl (by omega) (xk_go (x_br2 (fun q2 => have q2 := cy_le q2; hJ 4 _ _ rfl _ _ _ _ (x_iinc rfl rfl (x_goto (?_)))) (fun q2 => have q2 := cn_le q2; x_aload rfl (x_iload rfl (x_iload rfl (x_cv rfl (Nat.le_of_ble_eq_true rfl) (isO_W W (by decide) shp_80) (c7_payOf W hK (hs2 q1) rfl (by omega) (xk_go (x_aload rfl (x_iload rfl (x_iload rfl (x_cv rfl (Nat.le_of_ble_eq_true rfl) (isO_W W (by decide) shp_80) (c7_payOf W hK hs rfl (by omega) (xk_go (x_br2 (fun q3 => have q3 := cy_le q3; hJ 4 _ _ rfl _ _ _ _ (x_iinc rfl rfl (x_goto (?_)))) (fun q3 => have q3 := cn_le q3; x_sipush (x_iret (by first | exact nrwB _ | rfl | decide) ?_))))))))))))))))))))))))))))))))))))))))))))
  · rcases hJ2 with hJ2 | ⟨b, x1, x2, x3⟩
    · exact J_c (hJ2 (some (.int (kI (k : Int)))) z) (by simp only [sI, kN_succ])
    · exact absurd x3 (hb b x2 (by omega))
  · refine J_c (ih q1 (by omega) (fun b h1 h2 hh => ?_) (some (.int (s ^^^ b1 m ^^^ b1 k)))) ?_
    · by_cases e : b = k
      · subst e
        exact absurd hh.1 (Int32.not_lt.mpr q2)
      · exact hb b h1 (by omega) hh
    · simp only [sI, kN_succ]
  · refine J_c (ih q1 (by omega) (fun b h1 h2 hh => ?_) (some (.int (s ^^^ b1 m ^^^ b1 k)))) ?_
    · by_cases e : b = k
      · subst e
        exact absurd hh.2 (Int32.not_lt.mpr q3)
      · exact hb b h1 (by omega) hh
    · simp only [sI, kN_succ]
  · rw [hno0 hr m hm k q1 hmk ⟨q2, q3⟩] at hP
    exact hP
end M1
