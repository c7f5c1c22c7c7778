/-! ===== turns ===== -/
def wnt (V : VT) (m e : Nat) : Bool := decide (kI (e : Int) = V 1) && decide (vC V m < V 2)
/-- how many come in the end, if so many are still to choose and c came -/
def enE (V : VT) (o : Nat → Nat) : Nat → Nat → Nat
  | 0, c => c
  | k + 1, c => if wnt V (o (nm V - (k + 1))) (enE V o k (c + 1)) = true then enE V o k (c + 1) else enE V o k c
def turF (V : VT) (o : Nat → Nat) (p : Nat) (st : Int32 × Nat) : Int32 × Nat := if wnt V (o p) (enE V o (nm V - (p + 1)) (st.2 + 1)) = true then (st.1 ||| b1 (o p), st.2 + 1) else st
def turS (V : VT) (o : Nat → Nat) (n : Nat) : Int32 × Nat := fo (turF V o) (kI 0, 0) n
def turV (V : VT) (o : Nat → Nat) : Int32 := (turS V o (nm V)).1
def fstV (V : VT) (o : Nat → Nat) (s : Int32) : Int32 := if fstG (fun p => hb s (o p)) (nm V) < nm V then kI (o (fstG (fun p => hb s (o p)) (nm V)) : Int) else kI (-1)
theorem enE_le {V : VT} {o : Nat → Nat} : ∀ k c, enE V o k c ≤ c + k
  | 0, c => Nat.le_refl _
  | k + 1, c => by
    have h1 := enE_le (V := V) (o := o) k (c + 1)
    have h2 := enE_le (V := V) (o := o) k c
    unfold enE
    split <;> omega
theorem turS_le {V : VT} {o : Nat → Nat} : ∀ n, (turS V o n).2 ≤ n
  | 0 => Nat.le_refl _
  | n + 1 => by
    have h1 := turS_le (V := V) (o := o) n
    show (turF V o n (turS V o n)).2 ≤ n + 1
    unfold turF
    split
    · show (turS V o n).2 + 1 ≤ n + 1
      omega
    · omega
def isE (t : Nat) : Prop := 47 ≤ t ∧ t ≤ 59
theorem isE.lt {t : Nat} (h : isE t) : t < 97 := by unfold isE at h; omega
theorem isE.sh {t : Nat} (h : isE t) : shp t = (1, 0, 14) := by
  have h2 : t = 47 ∨ t = 48 ∨ t = 49 ∨ t = 50 ∨ t = 51 ∨ t = 52 ∨ t = 53 ∨ t = 54 ∨ t = 55 ∨ t = 56 ∨ t = 57 ∨ t = 58 ∨ t = 59 := by unfold isE at h; omega
  rcases h2 with rfl | rfl | rfl | rfl | rfl | rfl | rfl | rfl | rfl | rfl | rfl | rfl | rfl <;> rfl
theorem isE_of {p : Nat} (h : p ≤ 12) : isE (47 + p) := by unfold isE; omega
theorem rax46 (j : Nat) : rax 46 j = 47 + j := by
  unfold rax
  rw [if_pos rfl]
def lE : List Nat := [47, 48, 49, 50, 51, 52, 53, 54, 55, 56, 57, 58, 59]
theorem mem_lE {p : Nat} (h : p ≤ 12) : 47 + p ∈ lE := by
  have h2 : p = 0 ∨ p = 1 ∨ p = 2 ∨ p = 3 ∨ p = 4 ∨ p = 5 ∨ p = 6 ∨ p = 7 ∨ p = 8 ∨ p = 9 ∨ p = 10 ∨ p = 11 ∨ p = 12 := by omega
  rcases h2 with rfl | rfl | rfl | rfl | rfl | rfl | rfl | rfl | rfl | rfl | rfl | rfl | rfl <;> decide
theorem lE_SC : ∀ a ∈ lE, a ∈ SC := by decide
theorem lE_40 : ∀ a ∈ lE, 40 ≤ a := by decide
theorem ixq (q : Nat) : kI ((q : Int) - 1) + kI 1 = kI (q : Int) := by
  rw [kI_add]
  exact congrArg kI (by omega)
section W1
variable {o : Nat → Nat}
variable {ga : Nat → Nat} {L : Nat} {xs : Nat → Int32} {d : Nat} {h : ac_H} {P : ac_P} {ad : Nat → Nat} {w : Wst} {i : Nat} {V : VT}
theorem c_comesAt {x y : Int32} {p c e : Nat} (W : WW ad w h) (hC : isC i) (hR : CR w i V) (hV : VOK V) (hx : x = kI (p : Int)) (hp : p < nm V) (hy : y = kI (c : Int)) (hc : c ≤ p) (ho : wa w 45 p = kI (o p : Int) ∧ o p < nm V) (he : wa w (47 + (p + 1)) (c + 1) = kI (e : Int)) (hP : P (.inl (some (.int (bI (wnt V (o p) e))))) h) : WP ga L xs (d + 2) 62 [.ref (ad 44), .ref (ad i), .int x, .int y] h P := by
  have hn := hV.n.2
  have hx2 : x + kI 1 = kI ((p + 1 : Nat) : Int) := by rw [hx, kN_succ]
  have hy2 : y + kI 1 = kI ((c + 1 : Nat) : Int) := by rw [hy, kN_succ]
  have hw7 : hb (wn w i 7) (o p) = decide (vC V (o p) < V 2) := by rw [hR.2.2.2.2.1, decide_eq_true ho.2, Bool.true_and]
  unfold wnt at hP
  refine WP.enter kX4_comesAt (Nat.le_of_ble_eq_true rfl) (fun J hJ => ?_)
  refine hJ 0 _ _ rfl _ _ _ _ (x_aload rfl (x_aload rfl (w_geti W 0 7 hC.lt hC.sh rfl rfl (x_aload rfl (w_getr W 4 0 (t := 45) (by decide) shp_44 rfl rfl rfl (x_iload rfl (w_iald W p (by decide) shp_45 hx (by omega) (by decide) (x_cv rfl (Nat.le_of_ble_eq_true rfl) (isO_W W hC.lt hC.sh) (c_has ho.1 (by omega) (xk_go (x_br (fun q1 => have q1 := bI_eq0.mp q1; hJ 1 _ _ rfl _ _ _ _ (x_sipush (x_goto (hJ 2 _ _ rfl _ _ _ _ (x_iret (by first | exact nrwB _ | rfl | decide) ?_))))) (fun q1 => have q1 := bI_ne0.mp q1; x_aload rfl (w_getr W 4 1 (t := 46) (by decide) shp_44 rfl rfl rfl (x_iload rfl (x_sipush (x_iadd (w_aald W (p + 1) (by decide) shp_46 (by decide) hx2 (by omega) (by decide) (x_eqr (rax46 (p + 1)) (x_iload rfl (x_sipush (x_iadd (w_iald W (c + 1) (isE_of (p := p + 1) (by omega)).lt (isE_of (p := p + 1) (by omega)).sh hy2 (by omega) (by decide) (x_aload rfl (w_geti W 0 1 hC.lt hC.sh rfl rfl (x_br2 (fun q2 => have q2 := cy_ne q2; hJ 1 _ _ rfl _ _ _ _ (x_sipush (x_goto (hJ 2 _ _ rfl _ _ _ _ (x_iret (by first | exact nrwB _ | rfl | decide) ?_))))) (fun q2 => have q2 := cn_ne q2; x_sipush (x_goto (hJ 2 _ _ rfl _ _ _ _ (x_iret (by first | exact nrwB _ | rfl | decide) ?_)))))))))))))))))))))))))))))
  · rw [hw7] at q1
    rw [q1, Bool.and_false] at hP
    exact hP
  · rw [hw7] at q1
    rw [he, hR.1.2.1] at q2
    rw [q1, decide_eq_false q2] at hP
    exact hP
  · rw [hw7] at q1
    rw [he, hR.1.2.1] at q2
    rw [q1, decide_eq_true q2] at hP
    exact hP
theorem gtq {q c : Nat} (hq : 1 ≤ q ∧ q ≤ 1000 ∧ c ≤ 1000) (b : kI ((q : Int) - 1) < kI (c : Int)) : q ≤ c := by
  rw [Int32.lt_iff_toInt_lt, kI_toInt (by omega) (by omega), kN_toInt (by omega)] at b
  omega
theorem gtqn {q c : Nat} (hq : 1 ≤ q ∧ q ≤ 1000 ∧ c ≤ 1000) (b : ¬ kI ((q : Int) - 1) < kI (c : Int)) : c < q := by
  rw [Int32.lt_iff_toInt_lt, kI_toInt (by omega) (by omega), kN_toInt (by omega)] at b
  omega
theorem c_play (W : WW ad w h) (hC : isC i) (hR : CR w i V) (hV : VOK V) (ho : ∀ p, p < nm V → wa w 45 p = kI (o p : Int) ∧ o p < nm V) (kk : ∀ h' w', WW ad w' h' → kp lE w w' → P (.inl (some (.int (turV V o)))) h') : WP ga L xs (d + 3) 61 [.ref (ad 44), .ref (ad i)] h P := by
  have hn := hV.n.2
  have hRk : ∀ w', kp lE w w' → CR w' i V := fun w' hk => hR.far hk hC lE_40
  have hok : ∀ w', kp lE w w' → ∀ p, p < nm V → wa w' 45 p = kI (o p : Int) ∧ o p < nm V := fun w' hk p hp => by
    rw [(hk 45 (by decide)).2.2.1]
    exact ho p hp
  refine WP.enter kX4_play (Nat.le_of_ble_eq_true rfl) (fun J hJ => ?_)
  have loop9 : ∀ h0 w0, WW ad w0 h0 → kp lE w w0 → (∀ p, p ≤ nm V → ∀ c, c ≤ p → wa w0 (47 + p) c = kI (enE V o (nm V - p) c : Int)) → ∀ p, p ≤ nm V → J 9 [some (.ref (ad 44)), some (.ref (ad i)), some (.int (turS V o p).1), some (.int (kI ((turS V o p).2 : Int))), some (.int (kI (p : Int)))] [] h0 (0, 0) := fun h0 w0 W0 hk hE => up_ind (fun p hp ih => ?_)
  · have loop3 : ∀ q, q ≤ nm V → ∀ h' w' z3 z4, WW ad w' h' → kp lE w w' → (∀ p, q ≤ p → p ≤ nm V → ∀ c, c ≤ p → wa w' (47 + p) c = kI (enE V o (nm V - p) c : Int)) → J 3 [some (.ref (ad 44)), some (.ref (ad i)), some (.int (kI ((q : Int) - 1))), z3, z4] [] h' (0, 0) := dn_ind (fun q ihq hq h0 w0 z3 z4 W0 hk hE => ?_)
    · have loop1 : ∀ m, m ≤ nm V + 1 → ∀ h' w', WW ad w' h' → kp lE w w' → (∀ c, c < m → wa w' (47 + nm V) c = kI (c : Int)) → J 1 [some (.ref (ad 44)), some (.ref (ad i)), some (.int (kI (m : Int))), none, none] [] h' (0, 0) := up_ind (fun m hm ih h0 w0 W0 hk hE => ?_)
      · refine hJ 0 _ _ rfl _ _ _ _ (x_sipush (x_istore rfl (x_goto (?_))))
        exact loop1 0 (Nat.zero_le _) _ _ W kp_refl (fun c hc => by omega)
      have en0 : wn w0 i 4 = kI (nm V : Int) := (hRk w0 hk).n hV
      refine hJ 1 _ _ rfl _ _ _ _ (x_iload rfl (x_aload rfl (w_geti W0 0 4 hC.lt hC.sh rfl rfl (x_br2 (fun q1 => have q1 := gt_y en0 (by omega) q1; hJ 2 _ _ rfl _ _ _ _ (x_aload rfl (w_geti W0 0 4 hC.lt hC.sh rfl rfl (x_sipush (x_isub (x_istore rfl (x_goto (?_)))))))) (fun q1 => have q1 := gt_n en0 (by omega) q1; x_aload rfl (w_getr W0 4 1 (t := 46) (by decide) shp_44 rfl rfl rfl (x_aload rfl (w_geti W0 0 4 hC.lt hC.sh rfl rfl (w_aald W0 (nm V) (by decide) shp_46 (by decide) en0 (by omega) (by decide) (x_eqr (rax46 (nm V)) (x_iload rfl (x_iload rfl (w_iast W0 _ (isE_of (p := nm V) (by omega)).lt (isE_of (p := nm V) (by omega)).sh rfl (by omega) (by decide) (fun h1 W1 => x_iinc rfl rfl (x_goto (?_))))))))))))))))
      · have e9 : wn w0 i 4 - kI 1 = kI ((nm V : Int) - 1) := by rw [en0, kI_sub]
        rw [e9]
        refine loop3 (nm V) (Nat.le_refl _) _ _ none none W0 hk (fun p h1 h2 c hc => ?_)
        rw [show p = nm V by omega, Nat.sub_self]
        exact hE c (by omega)
      · refine J_c (ih (by omega) h1 _ W1 (hk.trans (kp_sa (mem_lE hn))) (fun c hc => ?_)) (by simp only [sI, kN_succ])
        rw [wa_self]
        by_cases e : c = m
        · rw [e, upd_self]
        · rw [upd_ne e]
          exact hE c (by omega)
    have loop4 : 1 ≤ q → ∀ c, c ≤ q → ∀ h' w' z4, WW ad w' h' → kp lE w w' → (∀ p, q ≤ p → p ≤ nm V → ∀ c, c ≤ p → wa w' (47 + p) c = kI (enE V o (nm V - p) c : Int)) → (∀ c', c' < c → wa w' (47 + (q - 1)) c' = kI (enE V o (nm V - (q - 1)) c' : Int)) → J 4 [some (.ref (ad 44)), some (.ref (ad i)), some (.int (kI ((q : Int) - 1))), some (.int (kI (c : Int))), z4] [] h' (0, 0) := by
      intro hq1
      refine up_ind (fun c hc ih h9 w9 z4 W9 hk9 hE9 hE8 => ?_)
      have hR9 := hRk w9 hk9
      have ho9 := hok w9 hk9 (q - 1) (by omega)
      have he9 : c < q → wa w9 (47 + (q - 1 + 1)) (c + 1) = kI (enE V o (nm V - q) (c + 1) : Int) := fun h => by
        rw [show q - 1 + 1 = q by omega]
        exact hE9 q (Nat.le_refl _) hq (c + 1) (by omega)
      have hq9 : 1 ≤ q ∧ q ≤ 1000 ∧ c ≤ 1000 := by omega
      have est : enE V o (nm V - (q - 1)) c = if wnt V (o (q - 1)) (enE V o (nm V - q) (c + 1)) = true then enE V o (nm V - q) (c + 1) else enE V o (nm V - q) c := by
        rw [show nm V - (q - 1) = nm V - q + 1 by omega]
        show (if wnt V (o (nm V - (nm V - q + 1))) (enE V o (nm V - q) (c + 1)) = true then enE V o (nm V - q) (c + 1) else enE V o (nm V - q) c) = _
        rw [show nm V - (nm V - q + 1) = q - 1 by omega]
      have keep : ∀ v, v = kI (enE V o (nm V - (q - 1)) c : Int) → (∀ p, q ≤ p → p ≤ nm V → ∀ c', c' ≤ p → wa (sa w9 (47 + (q - 1)) (upd (wa w9 (47 + (q - 1))) c v)) (47 + p) c' = kI (enE V o (nm V - p) c' : Int)) ∧ (∀ c', c' < c + 1 → wa (sa w9 (47 + (q - 1)) (upd (wa w9 (47 + (q - 1))) c v)) (47 + (q - 1)) c' = kI (enE V o (nm V - (q - 1)) c' : Int)) := fun v hv => by
        refine ⟨fun p h1 h2 c' hc' => ?_, fun c' hc' => ?_⟩
        · rw [wa_sa, if_neg (by omega)]
          exact hE9 p h1 h2 c' hc'
        · rw [wa_self]
          by_cases e : c' = c
          · rw [e, upd_self, hv]
          · rw [upd_ne e]
            exact hE8 c' (by omega)
      refine hJ 4 _ _ rfl _ _ _ _ (x_iload rfl (x_iload rfl (x_br2 (fun q1 => have q1 := gtq hq9 q1; hJ 7 _ _ rfl _ _ _ _ (x_iinc rfl rfl (x_goto (?_)))) (fun q1 => have q1 := gtqn hq9 q1; x_aload rfl (x_aload rfl (x_iload rfl (x_iload rfl (x_cv rfl (Nat.le_of_ble_eq_true rfl) (isO_W W9 (by decide) shp_44) (c_comesAt (p := q - 1) (c := c) (e := enE V o (nm V - q) (c + 1)) W9 hC hR9 hV (ixm1 hq1) (by omega) rfl (by omega) ho9 (he9 (by omega)) (xk_go (x_br (fun q2 => have q2 := bI_eq0.mp q2; hJ 5 _ _ rfl _ _ _ _ (x_iload rfl (x_goto (hJ 6 _ _ rfl _ _ _ _ (x_istore rfl (x_aload rfl (w_getr W9 4 1 (t := 46) (by decide) shp_44 rfl rfl rfl (x_iload rfl (w_aald W9 (q - 1) (by decide) shp_46 (by decide) (ixm1 hq1) (by omega) (by decide) (x_eqr (rax46 (q - 1)) (x_iload rfl (x_aload rfl (w_getr W9 4 1 (t := 46) (by decide) shp_44 rfl rfl rfl (x_iload rfl (x_sipush (x_iadd (w_aald W9 q (by decide) shp_46 (by decide) (ixq q) (by omega) (by decide) (x_eqr (rax46 q) (x_iload rfl (w_iald W9 _ (isE_of (p := q) (by omega)).lt (isE_of (p := q) (by omega)).sh rfl (by omega) (by decide) (w_iast W9 _ (isE_of (p := q - 1) (by omega)).lt (isE_of (p := q - 1) (by omega)).sh rfl (by omega) (by decide) (fun h1 W1 => x_iinc rfl rfl (x_goto (?_)))))))))))))))))))))))) (fun q2 => have q2 := bI_ne0.mp q2; x_iload rfl (x_sipush (x_iadd (x_eqi (kN_succ c) (x_goto (hJ 6 _ _ rfl _ _ _ _ (x_istore rfl (x_aload rfl (w_getr W9 4 1 (t := 46) (by decide) shp_44 rfl rfl rfl (x_iload rfl (w_aald W9 (q - 1) (by decide) shp_46 (by decide) (ixm1 hq1) (by omega) (by decide) (x_eqr (rax46 (q - 1)) (x_iload rfl (x_aload rfl (w_getr W9 4 1 (t := 46) (by decide) shp_44 rfl rfl rfl (x_iload rfl (x_sipush (x_iadd (w_aald W9 q (by decide) shp_46 (by decide) (ixq q) (by omega) (by decide) (x_eqr (rax46 q) (x_iload rfl (w_iald W9 _ (isE_of (p := q) (by omega)).lt (isE_of (p := q) (by omega)).sh rfl (by omega) (by decide) (w_iast W9 _ (isE_of (p := q - 1) (by omega)).lt (isE_of (p := q - 1) (by omega)).sh rfl (by omega) (by decide) (fun h2 W2 => x_iinc rfl rfl (x_goto (?_)))))))))))))))))))))))))))))))))))))
      · have ec : c = q := by omega
        refine J_c (ihq (by omega) (by omega) _ _ (some (.int (kI (c : Int)))) z4 W9 hk9 (fun p h1 h2 c' hc' => ?_)) ?_
        · by_cases e : p = q - 1
          · rw [e]
            exact hE8 c' (by omega)
          · exact hE9 p (by omega) h2 c' hc'
        · simp only [sI]
          rw [ixmd hq1]
      · rw [q2, if_neg (by decide)] at est
        have kp2 := keep (wa w9 (47 + q) c) (by rw [est]; exact hE9 q (Nat.le_refl _) hq c (by omega))
        refine J_c (ih (by omega) h1 _ (some (.int (kI (c : Int)))) W1 (hk9.trans (kp_sa (mem_lE (by omega)))) kp2.1 kp2.2) (by simp only [sI, kN_succ])
      · rw [q2, if_pos rfl] at est
        have kp2 := keep (wa w9 (47 + q) (c + 1)) (by rw [est]; exact hE9 q (Nat.le_refl _) hq (c + 1) (by omega))
        refine J_c (ih (by omega) h2 _ (some (.int (kI ((c + 1 : Nat) : Int)))) W2 (hk9.trans (kp_sa (mem_lE (by omega)))) kp2.1 kp2.2) (by simp only [sI, kN_succ])
    have hRk0 := hRk w0 hk
    refine hJ 3 _ _ rfl _ _ _ _ (x_iload rfl (x_br (fun q1 => have q1 := k_m1y (by omega) q1; hJ 8 _ _ rfl _ _ _ _ (x_sipush (x_istore rfl (x_sipush (x_istore rfl (x_sipush (x_istore rfl (x_goto (?_))))))))) (fun q1 => have q1 := k_m1n (by omega) q1; x_sipush (x_istore rfl (x_goto (?_))))))
    · subst q1
      exact J_c (loop9 h0 w0 W0 hk (fun p h1 c hc => hE p (Nat.zero_le _) h1 c hc) 0 (Nat.zero_le _)) rfl
    · exact loop4 q1 0 (Nat.zero_le _) _ _ z4 W0 hk hE (fun c' hc' => by omega)
  have hR0 := hRk w0 hk
  have en0 : wn w0 i 4 = kI (nm V : Int) := hR0.n hV
  have ho0 : p < nm V → wa w0 45 p = kI (o p : Int) ∧ o p < nm V := fun h => hok w0 hk p h
  have hle := turS_le (V := V) (o := o) p
  have he0 : p < nm V → wa w0 (47 + (p + 1)) ((turS V o p).2 + 1) = kI (enE V o (nm V - (p + 1)) ((turS V o p).2 + 1) : Int) := fun h => hE (p + 1) h _ (by omega)
  have es : turS V o (p + 1) = turF V o p (turS V o p) := rfl
  unfold turF at es
  have hsh : p < nm V → kI 1 <<< (wa w0 45 p &&& 31) = b1 (o p) := fun h => by rw [(ho0 h).1, shl1 _ (by have := (ho0 h).2; omega)]
  refine hJ 9 _ _ rfl _ _ _ _ (x_iload rfl (x_aload rfl (w_geti W0 0 4 hC.lt hC.sh rfl rfl (x_br2 (fun q1 => have q1 := ge_y en0 (by omega) q1; hJ 11 _ _ rfl _ _ _ _ (x_iload rfl (x_iret (nrwI _) ?_))) (fun q1 => have q1 := ge_n en0 (by omega) q1; x_aload rfl (x_aload rfl (x_iload rfl (x_iload rfl (x_cv rfl (Nat.le_of_ble_eq_true rfl) (isO_W W0 (by decide) shp_44) (c_comesAt (p := p) (c := (turS V o p).2) (e := enE V o (nm V - (p + 1)) ((turS V o p).2 + 1)) W0 hC hR0 hV rfl (by omega) rfl (by omega) (ho0 q1) (he0 q1) (xk_go (x_br (fun q2 => have q2 := bI_eq0.mp q2; hJ 10 _ _ rfl _ _ _ _ (x_iinc rfl rfl (x_goto (?_)))) (fun q2 => have q2 := bI_ne0.mp q2; x_iload rfl (x_sipush (x_aload rfl (w_getr W0 4 0 (t := 45) (by decide) shp_44 rfl rfl rfl (x_iload rfl (w_iald W0 p (by decide) shp_45 rfl (by omega) (by decide) (x_ishl (x_ior (x_istore rfl (x_iinc rfl rfl (x_goto (hJ 10 _ _ rfl _ _ _ _ (x_iinc rfl rfl (x_goto (?_)))))))))))))))))))))))))))
  · have e : p = nm V := by omega
    subst e
    exact kk h0 w0 W0 hk
  · rw [if_neg (by rw [q2]; decide)] at es
    refine J_c (ih (by omega)) ?_
    rw [es]
    simp only [sI, kN_succ]
  · rw [if_pos q2] at es
    refine J_c (ih (by omega)) ?_
    rw [es, hsh q1]
    simp only [sI, kN_succ]
theorem c_firstOf {s : Int32} (W : WW ad w h) (hC : isC i) (hR : CR w i V) (hV : VOK V) (ho : ∀ p, p < nm V → wa w 45 p = kI (o p : Int) ∧ o p < nm V) (hP : P (.inl (some (.int (fstV V o s)))) h) : WP ga L xs (d + 2) 63 [.ref (ad 44), .ref (ad i), .int s] h P := by
  have hn := hV.n.2
  have en0 : wn w i 4 = kI (nm V : Int) := hR.n hV
  refine WP.enter kX4_firstOf (Nat.le_of_ble_eq_true rfl) (fun J hJ => ?_)
  have loop : ∀ m, m ≤ nm V → (∀ j, j < m → hb s (o j) = false) → J 1 [some (.ref (ad 44)), some (.ref (ad i)), some (.int s), some (.int (kI (m : Int)))] [] h (0, 0) := up_ind (fun m hm ih hno => ?_)
  · refine hJ 0 _ _ rfl _ _ _ _ (x_sipush (x_istore rfl (x_goto (?_))))
    exact loop 0 (Nat.zero_le _) (fun j hj => by omega)
  unfold fstV at hP
  refine hJ 1 _ _ rfl _ _ _ _ (x_iload rfl (x_aload rfl (w_geti W 0 4 hC.lt hC.sh rfl rfl (x_br2 (fun q1 => have q1 := ge_y en0 (by omega) q1; hJ 3 _ _ rfl _ _ _ _ (x_sipush (x_iret (nrwI _) ?_))) (fun q1 => have q1 := ge_n en0 (by omega) q1; x_aload rfl (x_iload rfl (x_aload rfl (w_getr W 4 0 (t := 45) (by decide) shp_44 rfl rfl rfl (x_iload rfl (w_iald W m (by decide) shp_45 rfl (by omega) (by decide) (x_cv rfl (Nat.le_of_ble_eq_true rfl) (isO_W W hC.lt hC.sh) (c_has (ho m q1).1 (by have := (ho m q1).2; omega) (xk_go (x_br (fun q2 => have q2 := bI_eq0.mp q2; hJ 2 _ _ rfl _ _ _ _ (x_iinc rfl rfl (x_goto (?_)))) (fun q2 => have q2 := bI_ne0.mp q2; x_aload rfl (w_getr W 4 0 (t := 45) (by decide) shp_44 rfl rfl rfl (x_iload rfl (w_iald W m (by decide) shp_45 rfl (by omega) (by decide) (x_iret (nrwI _) ?_)))))))))))))))))))
  · have e : fstG (fun p => hb s (o p)) (nm V) = nm V := fst_all (fun j hj => hno j (by omega))
    rw [e, if_neg (by omega)] at hP
    exact hP
  · refine J_c (ih q1 (fun j hj => ?_)) (by simp only [sI, kN_succ])
    by_cases ej : j = m
    · rw [ej]; exact q2
    · exact hno j (by omega)
  · have e : fstG (fun p => hb s (o p)) (nm V) = m := fst_is (p := fun p => hb s (o p)) q2 hno q1
    rw [e, if_pos q1] at hP
    rw [(ho m q1).1]
    exact hP
end W1
