/-! ===== a club's cells; what they stand for ===== -/
def isC (i : Nat) : Prop := i = 10 ∨ i = 15 ∨ i = 20 ∨ i = 25 ∨ i = 30 ∨ i = 35
theorem isC.lt {i : Nat} (h : isC i) : i < 97 := by unfold isC at h; omega
theorem isC.sh {i : Nat} (h : isC i) : shp (i) = (0, 0, 0) := by rcases h with rfl | rfl | rfl | rfl | rfl | rfl <;> rfl
theorem isC.lt1 {i : Nat} (h : isC i) : i + 1 < 97 := by unfold isC at h; omega
theorem isC.sh1 {i : Nat} (h : isC i) : shp (i + 1) = (1, 0, 12) := by rcases h with rfl | rfl | rfl | rfl | rfl | rfl <;> rfl
theorem isC.rf1 {i : Nat} (h : isC i) (w : Wst) : rfx w i 10 = i + 1 := by rcases h with rfl | rfl | rfl | rfl | rfl | rfl <;> rfl
theorem isC.lt2 {i : Nat} (h : isC i) : i + 2 < 97 := by unfold isC at h; omega
theorem isC.sh2 {i : Nat} (h : isC i) : shp (i + 2) = (1, 0, 12) := by rcases h with rfl | rfl | rfl | rfl | rfl | rfl <;> rfl
theorem isC.rf2 {i : Nat} (h : isC i) (w : Wst) : rfx w i 11 = i + 2 := by rcases h with rfl | rfl | rfl | rfl | rfl | rfl <;> rfl
theorem isC.lt3 {i : Nat} (h : isC i) : i + 3 < 97 := by unfold isC at h; omega
theorem isC.sh3 {i : Nat} (h : isC i) : shp (i + 3) = (1, 0, 12) := by rcases h with rfl | rfl | rfl | rfl | rfl | rfl <;> rfl
theorem isC.rf3 {i : Nat} (h : isC i) (w : Wst) : rfx w i 12 = i + 3 := by rcases h with rfl | rfl | rfl | rfl | rfl | rfl <;> rfl
theorem isC.lt4 {i : Nat} (h : isC i) : i + 4 < 97 := by unfold isC at h; omega
theorem isC.sh4 {i : Nat} (h : isC i) : shp (i + 4) = (1, 0, 60) := by rcases h with rfl | rfl | rfl | rfl | rfl | rfl <;> rfl
theorem isC.rf4 {i : Nat} (h : isC i) (w : Wst) : rfx w i 13 = i + 4 := by rcases h with rfl | rfl | rfl | rfl | rfl | rfl <;> rfl
/-- a club's values in one row: 0 lines, 1 quota, 2 dinner, 3 fog, 4 members, 5 weeks; of a member four from 6 on; the weeks from 54 on -/
abbrev VT : Type := Nat → Int32
def nm (V : VT) : Nat := (V 4).toInt.toNat
def wk (V : VT) : Nat := (V 5).toInt.toNat
def vR (V : VT) (m : Nat) : Int32 := V (6 + 4 * m)
def vN (V : VT) (m : Nat) : Int32 := V (7 + 4 * m)
def vC (V : VT) (m : Nat) : Int32 := V (8 + 4 * m)
def vU (V : VT) (m : Nat) : Int32 := V (9 + 4 * m)
def vS (V : VT) (j : Nat) : Int32 := V (54 + j)
def btw (x : Int32) (a b : Int) : Prop := a ≤ x.toInt ∧ x.toInt ≤ b
def VOK (V : VT) : Prop := (btw (V 0) 0 700 ∧ btw (V 1) 1 12 ∧ btw (V 2) 0 999 ∧ btw (V 3) 0 100 ∧ btw (V 4) 0 12 ∧ btw (V 5) 0 60) ∧ (∀ m, m < nm V → btw (vR V m) 0 10 ∧ btw (vN V m) 0 12 ∧ btw (vC V m) 0 999 ∧ (vU V m = 0 ∨ vU V m = 1) ∧ (vR V m = 6 → 1 ≤ (vN V m).toInt) ∧ (vR V m = 9 → (vN V m).toInt ≤ 6)) ∧ ∀ j, j < wk V → sok (nm V) (vS V j)
def CR (w : Wst) (i : Nat) (V : VT) : Prop := (wn w i 0 = V 0 ∧ wn w i 1 = V 1 ∧ wn w i 2 = V 2 ∧ wn w i 3 = V 3 ∧ wn w i 4 = V 4 ∧ wn w i 6 = V 5) ∧ (∀ m, m < nm V → wa w (i + 1) m = vR V m ∧ wa w (i + 2) m = vN V m ∧ wa w (i + 3) m = vC V m) ∧ (∀ j, j < wk V → wa w (i + 4) j = vS V j) ∧
  (∀ m, hb (wn w i 5) m = (decide (m < nm V) && decide (vU V m = 1))) ∧ (∀ m, hb (wn w i 7) m = (decide (m < nm V) && decide (vC V m < V 2))) ∧ (∀ m, hb (wn w i 8) m = (decide (m < nm V) && decide (0 < vC V m))) ∧ (∀ m, hb (wn w i 9) m = (decide (m < nm V) && decide (V 2 < vC V m)))
theorem VOK.n {V : VT} (h : VOK V) : V 4 = kI (nm V : Int) ∧ nm V ≤ 12 := by
  obtain ⟨⟨-, -, -, -, ⟨h1, h2⟩, -⟩, -⟩ := h
  have h3 : ((V 4).toInt.toNat : Int) = (V 4).toInt := Int.toNat_of_nonneg h1
  refine ⟨?_, ?_⟩
  · unfold nm
    rw [h3, kI_of]
  · unfold nm
    omega
theorem VOK.w {V : VT} (h : VOK V) : V 5 = kI (wk V : Int) ∧ wk V ≤ 60 := by
  obtain ⟨⟨-, -, -, -, -, h1, h2⟩, -⟩ := h
  have h3 : ((V 5).toInt.toNat : Int) = (V 5).toInt := Int.toNat_of_nonneg h1
  refine ⟨?_, ?_⟩
  · unfold wk
    rw [h3, kI_of]
  · unfold wk
    omega
theorem CR.n {w : Wst} {i : Nat} {V : VT} (h : CR w i V) (hV : VOK V) : wn w i 4 = kI (nm V : Int) := h.1.2.2.2.2.1.trans hV.n.1
theorem CR.w {w : Wst} {i : Nat} {V : VT} (h : CR w i V) (hV : VOK V) : wn w i 6 = kI (wk V : Int) := h.1.2.2.2.2.2.trans hV.w.1
/-- sums -/
def sm (f : Nat → Int32) : Nat → Int32
  | 0 => kI 0
  | n + 1 => sm f n + f n
theorem sm_congr {f g : Nat → Int32} : ∀ {n : Nat}, (∀ j, j < n → f j = g j) → sm f n = sm g n
  | 0, _ => rfl
  | n + 1, h => by
    unfold sm
    rw [sm_congr (n := n) (fun j hj => h j (by omega)), h n (by omega)]
theorem bI_nn {b : Bool} (h : ¬ ¬ bI b = 0) : b = false := bI_eq0.mp (Decidable.not_not.mp h)
theorem ge_n {m n : Nat} {y : Int32} (e : y = kI (n : Int)) (hm : m ≤ 100000 ∧ n ≤ 100000) (b : ¬ y ≤ kI (m : Int)) : m < n := by
  rw [e, kN_le (by omega) (by omega)] at b
  omega
theorem ge_y {m n : Nat} {y : Int32} (e : y = kI (n : Int)) (hm : m ≤ 100000 ∧ n ≤ 100000) (b : y ≤ kI (m : Int)) : n ≤ m := by
  rw [e, kN_le (by omega) (by omega)] at b
  omega
theorem up_ind {N : Nat} {p : Nat → Prop} (step : ∀ m, m ≤ N → (m < N → p (m + 1)) → p m) (m : Nat) (hm : m ≤ N) : p m := by
  have key : ∀ k m, m + k = N → p m := by
    intro k
    induction k with
    | zero => intro m h; exact step m (by omega) (fun h2 => by omega)
    | succ k ih => intro m h; exact step m (by omega) (fun _ => ih (m + 1) (by omega))
  exact key (N - m) m (by omega)
theorem J_c {J : Nat → ac_X} {b : Nat} {ls ls' : ac_L} {st : List Value} {h : ac_H} {bg : Nat × Nat} (hj : J b ls' st h bg) (e : ls = ls') : J b ls st h bg := e ▸ hj
/-- what coming brings -/
def meetsV (V : VT) (s : Int32) : Bool := decide (kI (pc s : Int) = V 1)
def payV (V : VT) (s : Int32) (m : Nat) : Int32 := if hb s m = true then (if meetsV V s = true then V 2 else kI 0) - vC V m else kI 0
def gainV (V : VT) (s : Int32) (m : Nat) : Int32 := payV V (s ^^^ b1 m) m - payV V s m
def costV (V : VT) (s : Int32) (m : Nat) : Int32 := if hb s m = true then vC V m else kI 0
section C0
variable {ga : Nat → Nat} {L : Nat} {xs : Nat → Int32} {d : Nat} {h : ac_H} {P : ac_P} {ad : Nat → Nat} {w : Wst} {i : Nat} {V : VT}
theorem c_has {a m : Nat} {s x : Int32} (hx : x = kI (m : Int)) (hm : m < 32) (hP : P (.inl (some (.int (bI (hb s m))))) h) : WP ga L xs (d + 1) 8 [.ref a, .int s, .int x] h P := by
  subst hx
  refine WP.enter kX0_has (Nat.le_of_ble_eq_true rfl) (fun J hJ => ?_)
  refine hJ 0 _ _ rfl _ _ _ _ (x_iload rfl (x_iload rfl (x_ishr (x_sipush (x_iand (x_br (fun b1 => hJ 1 _ _ rfl _ _ _ _ (x_sipush (x_goto (hJ 2 _ _ rfl _ _ _ _ (x_iret (by first | exact nrwB _ | rfl | decide) ?_))))) (fun b1 => x_sipush (x_goto (hJ 2 _ _ rfl _ _ _ _ (x_iret (by first | exact nrwB _ | rfl | decide) ?_))))))))))
  · rw [shr_and1 hm] at b1
    rw [bI_eq0.mp b1] at hP
    exact hP
  · rw [shr_and1 hm] at b1
    rw [bI_ne0.mp b1] at hP
    exact hP
theorem c_bitc {n : Nat} {s : Int32} (hs : sok n s) (hP : P (.inl (some (.int (kI (pc s : Int))))) h) : WP ga L xs (d + 1) 249 [.int s] h P := by
  rw [← bcf_sok hs] at hP
  refine WP.enter kJ6_bitCount_0f7a4 (Nat.le_of_ble_eq_true rfl) (fun J hJ => ?_)
  exact hJ 0 _ _ rfl _ _ _ _ (x_iload rfl (x_iload rfl (x_sipush (x_iushr (x_sipush (x_iand (x_isub (x_istore rfl (x_iload rfl (x_sipush (x_iand (x_iload rfl (x_sipush (x_iushr (x_sipush (x_iand (x_iadd (x_istore rfl (x_iload rfl (x_iload rfl (x_sipush (x_iushr (x_iadd (x_sipush (x_iand (x_istore rfl (x_iload rfl (x_iload rfl (x_sipush (x_iushr (x_iadd (x_istore rfl (x_iload rfl (x_iload rfl (x_sipush (x_iushr (x_iadd (x_istore rfl (x_iload rfl (x_sipush (x_iand (x_iret (nrwI _) hP))))))))))))))))))))))))))))))))))))))))))
theorem c_meets {n : Nat} {s : Int32} (W : WW ad w h) (hC : isC i) (hR : CR w i V) (hs : sok n s) (hP : P (.inl (some (.int (bI (meetsV V s))))) h) : WP ga L xs (d + 2) 10 [.ref (ad i), .int s] h P := by
  refine WP.enter kX0_meets (Nat.le_of_ble_eq_true rfl) (fun J hJ => ?_)
  refine hJ 0 _ _ rfl _ _ _ _ (x_iload rfl (x_cs rfl (Nat.le_of_ble_eq_true rfl) (c_bitc hs (xk_go (x_aload rfl (w_geti W 0 1 hC.lt hC.sh rfl rfl (x_br2 (fun b1 => hJ 1 _ _ rfl _ _ _ _ (x_sipush (x_goto (hJ 2 _ _ rfl _ _ _ _ (x_iret (by first | exact nrwB _ | rfl | decide) ?_))))) (fun b1 => x_sipush (x_goto (hJ 2 _ _ rfl _ _ _ _ (x_iret (by first | exact nrwB _ | rfl | decide) ?_)))))))))))
  · have e : meetsV V s = false := by rw [hR.1.2.1] at b1; exact decide_eq_false b1
    rw [e] at hP
    exact hP
  · have e : meetsV V s = true := by rw [hR.1.2.1] at b1; exact decide_eq_true (Decidable.not_not.mp b1)
    rw [e] at hP
    exact hP
theorem c_payOf {n m : Nat} {s x : Int32} (W : WW ad w h) (hC : isC i) (hR : CR w i V) (hV : VOK V) (hs : sok n s) (hx : x = kI (m : Int)) (hm : m < nm V) (hP : P (.inl (some (.int (payV V s m)))) h) : WP ga L xs (d + 3) 11 [.ref (ad i), .int x, .int s] h P := by
  subst hx
  have hn := hV.n.2
  unfold payV at hP
  refine WP.enter kX0_payOf (Nat.le_of_ble_eq_true rfl) (fun J hJ => ?_)
  refine hJ 0 _ _ rfl _ _ _ _ (x_aload rfl (x_iload rfl (x_iload rfl (x_cv rfl (Nat.le_of_ble_eq_true rfl) (isO_W W hC.lt hC.sh) (c_has rfl (by omega) (xk_go (x_br (fun b1 => have b1 := bI_ne0.mp b1; hJ 1 _ _ rfl _ _ _ _ (x_aload rfl (x_iload rfl (x_cv rfl (Nat.le_of_ble_eq_true rfl) (isO_W W hC.lt hC.sh) (c_meets W hC hR hs (xk_go (x_br (fun b2 => have b2 := bI_eq0.mp b2; hJ 2 _ _ rfl _ _ _ _ (x_sipush (x_goto (hJ 3 _ _ rfl _ _ _ _ (x_aload rfl (w_getr W 0 12 (t := i + 3) hC.lt hC.sh rfl rfl (hC.rf3 _) (x_iload rfl (w_iald W _ hC.lt3 hC.sh3 rfl (by omega) (by decide) (x_isub (x_iret (nrwI _) ?_)))))))))) (fun b2 => have b2 := bI_ne0.mp b2; x_aload rfl (w_geti W 0 2 hC.lt hC.sh rfl rfl (x_goto (hJ 3 _ _ rfl _ _ _ _ (x_aload rfl (w_getr W 0 12 (t := i + 3) hC.lt hC.sh rfl rfl (hC.rf3 _) (x_iload rfl (w_iald W _ hC.lt3 hC.sh3 rfl (by omega) (by decide) (x_isub (x_iret (nrwI _) ?_))))))))))))))))) (fun b1 => have b1 := bI_nn b1; x_sipush (x_iret (nrwI _) ?_)))))))))
  · simp only [(hR.2.1 m hm).2.2]
    rw [if_pos b1, if_neg (by rw [b2]; decide)] at hP
    exact hP
  · simp only [(hR.2.1 m hm).2.2, hR.1.2.2.1]
    rw [if_pos b1, if_pos b2] at hP
    exact hP
  · rw [if_neg (by rw [b1]; decide)] at hP
    exact hP
theorem c_costOfAll {s : Int32} (W : WW ad w h) (hC : isC i) (hR : CR w i V) (hV : VOK V) (hP : P (.inl (some (.int (sm (costV V s) (nm V))))) h) : WP ga L xs (d + 2) 14 [.ref (ad i), .int s] h P := by
  have hn := hV.n.2
  refine WP.enter kX0_costOfAll (Nat.le_of_ble_eq_true rfl) (fun J hJ => ?_)
  have loop : ∀ m, m ≤ nm V → J 1 [some (.ref (ad i)), some (.int s), some (.int (sm (costV V s) m)), some (.int (kI (m : Int)))] [] h (0, 0) := up_ind (fun m hm ih => ?_)
  · exact hJ 0 _ _ rfl _ _ _ _ (x_sipush (x_istore rfl (x_sipush (x_istore rfl (x_goto (loop 0 (Nat.zero_le _)))))))
  refine hJ 1 _ _ rfl _ _ _ _ (x_iload rfl (x_aload rfl (w_geti W 0 4 hC.lt hC.sh rfl rfl (x_br2 (fun b1 => have b1 := ge_y (hR.n hV) (by omega) b1; hJ 4 _ _ rfl _ _ _ _ (x_iload rfl (x_iret (nrwI _) ?_))) (fun b1 => have b1 := ge_n (hR.n hV) (by omega) b1; x_iload rfl (x_aload rfl (x_iload rfl (x_iload rfl (x_cv rfl (Nat.le_of_ble_eq_true rfl) (isO_W W hC.lt hC.sh) (c_has rfl (by omega) (xk_go (x_br (fun b2 => have b2 := bI_eq0.mp b2; hJ 2 _ _ rfl _ _ _ _ (x_sipush (x_goto (hJ 3 _ _ rfl _ _ _ _ (x_iadd (x_istore rfl (x_iinc rfl rfl (x_goto (?_))))))))) (fun b2 => have b2 := bI_ne0.mp b2; x_aload rfl (w_getr W 0 12 (t := i + 3) hC.lt hC.sh rfl rfl (hC.rf3 _) (x_iload rfl (w_iald W _ hC.lt3 hC.sh3 rfl (by omega) (by decide) (x_goto (hJ 3 _ _ rfl _ _ _ _ (x_iadd (x_istore rfl (x_iinc rfl rfl (x_goto (?_)))))))))))))))))))))))
  · have e : m = nm V := by omega
    subst e
    exact hP
  · refine J_c (ih (by omega)) ?_
    simp only [sI, sm, costV, b2, kN_succ]
    rfl
  · refine J_c (ih (by omega)) ?_
    simp only [sI, sm, costV, b2, kN_succ, (hR.2.1 m b1).2.2, if_true]
end C0
