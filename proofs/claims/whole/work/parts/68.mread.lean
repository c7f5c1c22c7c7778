/-! ===== the model's reader: tokens ===== -/
def seeN (τ : Nat → Nat) (n p : Nat) : Nat := if p < n then τ p else 0
def km (k : Nat) : Nat := if k = 0 then 4 else if k = 4 then 0 else k
def kB (l : List Nat) (w w' : Wst) : Prop := (∀ a, a ≠ 80 → same w w' a) ∧ ∀ j, j ∉ l → wn w' 80 j = wn w 80 j
theorem kB_refl {l : List Nat} {w : Wst} : kB l w w := ⟨fun _ _ => same_refl, fun _ _ => rfl⟩
theorem kB.trans {l : List Nat} {w w' w'' : Wst} (h : kB l w w') (g : kB l w' w'') : kB l w w'' := ⟨fun a ha => (h.1 a ha).trans (g.1 a ha), fun j hj => (g.2 j hj).trans (h.2 j hj)⟩
theorem kB.mono {l m : List Nat} {w w' : Wst} (h : kB l w w') (hl : ∀ a ∈ l, a ∈ m) : kB m w w' := ⟨h.1, fun j hj => h.2 j (fun z => hj (hl j z))⟩
theorem kB_sn {l : List Nat} {w : Wst} {j : Nat} {x : Int32} (hj : j ∈ l) : kB l w (sn w 80 j x) := ⟨fun a ha => same_sn ha, fun b hb => by
  rw [wn_sn]
  exact if_neg (fun (z : 80 = 80 ∧ b = j) => hb (z.2 ▸ hj))⟩
def lrd : List Nat := [8, 9, 10, 11]
def lbd : List Nat := [8, 9, 10, 11, 12, 13]
theorem lrdb : ∀ a ∈ lrd, a ∈ lbd := by decide
def RmA (w : Wst) (τ : Nat → Nat) (n p : Nat) : Prop := wn w 80 7 = kI (n : Int) ∧ wn w 80 8 = kI (p : Int) ∧ ∀ j, j < n → wa w 85 j = kI (τ j : Int)
def RmC (w : Wst) (τ : Nat → Nat) (n : Nat) (t : TK) : Prop := RmA w τ n t.2.1 ∧ wn w 80 9 = kI (t.1 : Int) ∧ wn w 80 10 = kI (km t.2.2 : Int) ∧ (t.2.2 = 2 → wn w 80 11 = kI (dv τ t.1 (t.2.1 - t.1) : Int))
theorem RmA.of {w w' : Wst} {τ : Nat → Nat} {n p : Nat} {t' : TK} (h : RmA w τ n p) (k : kB lrd w w') (e8 : wn w' 80 8 = kI (t'.2.1 : Int)) (e10 : wn w' 80 10 = kI (km t'.2.2 : Int)) (e9 : wn w' 80 9 = kI (t'.1 : Int)) (e11 : t'.2.2 = 2 → wn w' 80 11 = kI (dv τ t'.1 (t'.2.1 - t'.1) : Int)) : RmC w' τ n t' := ⟨⟨(k.2 7 (by decide)).trans h.1, e8, fun j hj => by rw [(k.1 85 (by omega)).2.2.1]; exact h.2.2 j hj⟩, e9, e10, e11⟩
section W1
variable {τ : Nat → Nat} {n : Nat}
variable {ga : Nat → Nat} {L : Nat} {xs : Nat → Int32} {d : Nat} {h : ac_H} {P : ac_P} {ad : Nat → Nat} {w : Wst} {V : VT}
theorem m_isLetter {c : Nat} {x : Int32} (hx : x = kI (c : Int)) (hc : c < 256) (hP : P (.inl (some (.int (bI (isLb c))))) h) : WP ga L xs (d + 1) 147 [.int x] h P := by
  subst hx
  have e : (kI (c : Int)).toInt = c := kN_toInt (by omega)
  have z1 : (kI 97).toInt = 97 := rfl
  have z2 : (kI 122).toInt = 122 := rfl
  unfold isLb at hP
  refine WP.enter kX7_isLetter (Nat.le_of_ble_eq_true rfl) (fun J hJ => ?_)
  refine hJ 0 _ _ rfl _ _ _ _ (x_iload rfl (x_sipush (x_br2 (fun q1 => have q1 := cy_lt q1; hJ 1 _ _ rfl _ _ _ _ (x_sipush (x_goto (hJ 2 _ _ rfl _ _ _ _ (x_iret (by first | exact nrwB _ | rfl | decide) ?_))))) (fun q1 => have q1 := cn_lt q1; x_iload rfl (x_sipush (x_br2 (fun q2 => have q2 := cy_gt q2; hJ 1 _ _ rfl _ _ _ _ (x_sipush (x_goto (hJ 2 _ _ rfl _ _ _ _ (x_iret (by first | exact nrwB _ | rfl | decide) ?_))))) (fun q2 => have q2 := cn_gt q2; x_sipush (x_goto (hJ 2 _ _ rfl _ _ _ _ (x_iret (by first | exact nrwB _ | rfl | decide) ?_))))))))))
  · rw [Int32.lt_iff_toInt_lt, e, z1] at q1
    rw [decide_eq_false (by omega)] at hP
    exact hP
  · rw [Int32.lt_iff_toInt_lt, e, z2] at q2
    rw [decide_eq_false (by omega)] at hP
    exact hP
  · rw [Int32.le_iff_toInt_le, e, z1] at q1
    rw [Int32.le_iff_toInt_le, e, z2] at q2
    rw [decide_eq_true (by omega)] at hP
    exact hP
theorem m_isDigit {c : Nat} {x : Int32} (hx : x = kI (c : Int)) (hc : c < 256) (hP : P (.inl (some (.int (bI (isDb c))))) h) : WP ga L xs (d + 1) 148 [.int x] h P := by
  subst hx
  have e : (kI (c : Int)).toInt = c := kN_toInt (by omega)
  have z1 : (kI 48).toInt = 48 := rfl
  have z2 : (kI 57).toInt = 57 := rfl
  unfold isDb at hP
  refine WP.enter kX7_isDigit (Nat.le_of_ble_eq_true rfl) (fun J hJ => ?_)
  refine hJ 0 _ _ rfl _ _ _ _ (x_iload rfl (x_sipush (x_br2 (fun q1 => have q1 := cy_lt q1; hJ 1 _ _ rfl _ _ _ _ (x_sipush (x_goto (hJ 2 _ _ rfl _ _ _ _ (x_iret (by first | exact nrwB _ | rfl | decide) ?_))))) (fun q1 => have q1 := cn_lt q1; x_iload rfl (x_sipush (x_br2 (fun q2 => have q2 := cy_gt q2; hJ 1 _ _ rfl _ _ _ _ (x_sipush (x_goto (hJ 2 _ _ rfl _ _ _ _ (x_iret (by first | exact nrwB _ | rfl | decide) ?_))))) (fun q2 => have q2 := cn_gt q2; x_sipush (x_goto (hJ 2 _ _ rfl _ _ _ _ (x_iret (by first | exact nrwB _ | rfl | decide) ?_))))))))))
  · rw [Int32.lt_iff_toInt_lt, e, z1] at q1
    rw [decide_eq_false (by omega)] at hP
    exact hP
  · rw [Int32.lt_iff_toInt_lt, e, z2] at q2
    rw [decide_eq_false (by omega)] at hP
    exact hP
  · rw [Int32.le_iff_toInt_le, e, z1] at q1
    rw [Int32.le_iff_toInt_le, e, z2] at q2
    rw [decide_eq_true (by omega)] at hP
    exact hP
theorem m_see {p : Nat} {x : Int32} (W : WW ad w h) (hd : wn w 80 7 = kI (n : Int) ∧ ∀ j, j < n → wa w 85 j = kI (τ j : Int)) (hx : x = kI (p : Int)) (hp : p ≤ n) (hn7 : n ≤ 700) (hP : P (.inl (some (.int (kI (seeN τ n p : Int))))) h) : WP ga L xs (d + 1) 146 [.ref (ad 80), .int x] h P := by
  subst hx
  unfold seeN at hP
  refine WP.enter kX7_see (Nat.le_of_ble_eq_true rfl) (fun J hJ => ?_)
  refine hJ 0 _ _ rfl _ _ _ _ (x_iload rfl (x_aload rfl (w_geti W 7 7 (by decide) shp_80 rfl rfl (x_br2 (fun q1 => have q1 := atY (by omega) rfl hd.1 q1; hJ 1 _ _ rfl _ _ _ _ (x_sipush (x_goto (hJ 2 _ _ rfl _ _ _ _ (x_iret (nrwI _) ?_))))) (fun q1 => have q1 := atN (by omega) rfl hd.1 q1; x_aload rfl (w_getr W 7 5 (t := 85) (by decide) shp_80 rfl rfl rfl (x_iload rfl (w_iald W p (by decide) shp_85 rfl (by omega) (by decide) (x_goto (hJ 2 _ _ rfl _ _ _ _ (x_iret (nrwI _) ?_)))))))))))
  · rw [if_neg (by omega)] at hP
    exact hP
  · rw [if_pos q1, ← hd.2 p q1] at hP
    exact hP
theorem see_lt {p : Nat} (hτ : ∀ k, τ k < 256) : seeN τ n p < 256 := by
  unfold seeN
  split
  · exact hτ p
  · omega
theorem see_y {f : Nat → Bool} {p : Nat} (hf : f 0 = false) (h : f (seeN τ n p) = true) : p < n ∧ f (τ p) = true := by
  unfold seeN at h
  by_cases e : p < n
  · rw [if_pos e] at h
    exact ⟨e, h⟩
  · rw [if_neg e, hf] at h
    cases h
theorem see_n {f : Nat → Bool} {p : Nat} (h : f (seeN τ n p) = false) : n ≤ p ∨ f (τ p) = false := by
  unfold seeN at h
  by_cases e : p < n
  · rw [if_pos e] at h
    exact Or.inr h
  · exact Or.inl (by omega)
theorem m_reads {p : Nat} (W : WW ad w h) (hd : RmA w τ n p) (hp : p ≤ n) (hn7 : n ≤ 700) (hτ : ∀ k, τ k < 256) (kk : ∀ h' w', WW ad w' h' → kB lrd w w' → RmC w' τ n (tk τ n p) → P (.inl none) h') : WP ga L xs (d + 2) 149 [.ref (ad 80)] h P := by
  refine WP.enter kX7_reads (Nat.le_of_ble_eq_true rfl) (fun J hJ => ?_)
  have b10 : ∀ q r, tkF τ n q = (q, r, if 3 < r - q then 0 else 2) → tkS τ n p = q → q ≤ r → r ≤ n → ∀ h0 w0 z1, WW ad w0 h0 → kB lrd w w0 → wn w0 80 8 = kI (r : Int) → wn w0 80 9 = kI (q : Int) → (r - q ≤ 3 → wn w0 80 11 = kI (dv τ q (r - q) : Int)) → J 10 [some (.ref (ad 80)), z1] [] h0 (0, 0) := fun q r hF hS hqr hrn h0 w0 z1 W0 hk h8 h9 h11 => ?_
  · have loop7 : ∀ q, q ≤ n → tkS τ n p = q → ¬ isLb (τ q) = true → isDb (τ q) = true → q < n → ∀ r, r ≤ n → q ≤ r → tkD τ n q = tkD τ n r → ∀ h0 w0 z1, WW ad w0 h0 → kB lrd w w0 → wn w0 80 8 = kI (r : Int) → wn w0 80 9 = kI (q : Int) → (r - q ≤ 3 → wn w0 80 11 = kI (dv τ q (r - q) : Int)) → J 7 [some (.ref (ad 80)), z1] [] h0 (0, 0) := fun q hqn hS hnl hdq hq9 => up_ind (fun r hr ih hqr hT h0 w0 z1 W0 hk h8 h9 h11 => ?_)
    · have loop4 : ∀ q, q < n → tkS τ n p = q → isLb (τ q) = true → ∀ r, r ≤ n → q ≤ r → tkL τ n q = tkL τ n r → ∀ h0 w0 z1, WW ad w0 h0 → kB lrd w w0 → wn w0 80 8 = kI (r : Int) → wn w0 80 9 = kI (q : Int) → J 4 [some (.ref (ad 80)), z1] [] h0 (0, 0) := fun q hqn hS hl => up_ind (fun r hr ih hqr hT h0 w0 z1 W0 hk h8 h9 => ?_)
      · have b2 : ∀ q, q ≤ n → tkS τ n p = q → ∀ h0 w0 z1, WW ad w0 h0 → kB lrd w w0 → wn w0 80 8 = kI (q : Int) → J 2 [some (.ref (ad 80)), z1] [] h0 (0, 0) := fun q hq hS h0 w0 z1 W0 hk h8 => ?_
        · have loop0 : ∀ q, q ≤ n → p ≤ q → tkS τ n p = tkS τ n q → ∀ h0 w0 z1, WW ad w0 h0 → kB lrd w w0 → wn w0 80 8 = kI (q : Int) → J 0 [some (.ref (ad 80)), z1] [] h0 (0, 0) := up_ind (fun q hq ih hpq hS h0 w0 z1 W0 hk h8 => ?_)
          · exact loop0 p hp (Nat.le_refl _) rfl _ _ _ W kB_refl hd.2.1
          have h7 : wn w0 80 7 = kI (n : Int) := (hk.2 7 (by decide)).trans hd.1
          have hbt0 : ∀ j, j < n → wa w0 85 j = kI (τ j : Int) := fun j hj => by rw [(hk.1 85 (by omega)).2.2.1]; exact hd.2.2 j hj
          have hc32 : q < n → (wa w0 85 q = kI 32 ↔ τ q = 32) := fun h => by rw [hbt0 q h]; exact kN_inj (b := 32) (by have := hτ q; omega) (by omega)
          have hc10 : q < n → (wa w0 85 q = kI 10 ↔ τ q = 10) := fun h => by rw [hbt0 q h]; exact kN_inj (b := 10) (by have := hτ q; omega) (by omega)
          refine hJ 0 _ _ rfl _ _ _ _ (x_aload rfl (w_geti W0 7 8 (by decide) shp_80 rfl rfl (x_aload rfl (w_geti W0 7 7 (by decide) shp_80 rfl rfl (x_br2 (fun q1 => have q1 := atY (by omega) h8 h7 q1; ?_) (fun q1 => have q1 := atN (by omega) h8 h7 q1; x_aload rfl (w_getr W0 7 5 (t := 85) (by decide) shp_80 rfl rfl rfl (x_aload rfl (w_geti W0 7 8 (by decide) shp_80 rfl rfl (w_iald W0 q (by decide) shp_85 h8 (by omega) (by decide) (x_sipush (x_br2 (fun q2 => have q2 := cy_eq q2; hJ 1 _ _ rfl _ _ _ _ (x_aload rfl (x_dupr (w_geti W0 7 8 (by decide) shp_80 rfl rfl (x_sipush (x_iadd (w_puti W0 7 8 (by decide) shp_80 rfl rfl (okI rfl) (fun h1 W1 => x_goto (?_))))))))) (fun q2 => have q2 := cn_eq q2; x_aload rfl (w_getr W0 7 5 (t := 85) (by decide) shp_80 rfl rfl rfl (x_aload rfl (w_geti W0 7 8 (by decide) shp_80 rfl rfl (w_iald W0 q (by decide) shp_85 h8 (by omega) (by decide) (x_sipush (x_br2 (fun q3 => have q3 := cy_ne q3; ?_) (fun q3 => have q3 := cn_ne q3; x_goto (hJ 1 _ _ rfl _ _ _ _ (x_aload rfl (x_dupr (w_geti W0 7 8 (by decide) shp_80 rfl rfl (x_sipush (x_iadd (w_puti W0 7 8 (by decide) shp_80 rfl rfl (okI rfl) (fun h2 W2 => x_goto (?_)))))))))))))))))))))))))))))
          · exact b2 q hq (by rw [hS]; exact fw_n (Or.inl q1)) h0 w0 _ W0 hk h8
          · have hb : isBb (τ q) = true := decide_eq_true (Or.inl ((hc32 q1).mp q2))
            exact ih q1 (by omega) (by rw [hS]; exact fw_y (P := fun j => isBb (τ j)) q1 hb) h1 _ _ W1 (hk.trans (kB_sn (by decide))) (by rw [wn_sn, if_pos ⟨rfl, rfl⟩, h8, kN_succ])
          · have hb : isBb (τ q) = false := decide_eq_false (fun z => z.elim (fun z => q2 ((hc32 q1).mpr z)) (fun z => q3 ((hc10 q1).mpr z)))
            exact b2 q hq (by rw [hS]; exact fw_n (P := fun j => isBb (τ j)) (Or.inr hb)) h0 w0 _ W0 hk h8
          · have hb : isBb (τ q) = true := decide_eq_true (Or.inr ((hc10 q1).mp q3))
            exact ih q1 (by omega) (by rw [hS]; exact fw_y (P := fun j => isBb (τ j)) q1 hb) h2 _ _ W2 (hk.trans (kB_sn (by decide))) (by rw [wn_sn, if_pos ⟨rfl, rfl⟩, h8, kN_succ])
        have h7 : wn w0 80 7 = kI (n : Int) := (hk.2 7 (by decide)).trans hd.1
        have hbt0 : ∀ j, j < n → wa w0 85 j = kI (τ j : Int) := fun j hj => by rw [(hk.1 85 (by omega)).2.2.1]; exact hd.2.2 j hj
        have hbt : q < n → wa w0 85 q = kI (τ q : Int) := fun h9 => hbt0 q h9
        have hfin : tk τ n p = tkF τ n q := by unfold tk; rw [hS]
        have hc59 : q < n → (wa w0 85 q = kI 59 ↔ τ q = 59) := fun h => by rw [hbt0 q h]; exact kN_inj (b := 59) (by have := hτ q; omega) (by omega)
        refine hJ 2 _ _ rfl _ _ _ _ (x_aload rfl (x_aload rfl (w_geti W0 7 8 (by decide) shp_80 rfl rfl (w_puti W0 7 9 (by decide) shp_80 rfl rfl (okI rfl) (fun h1 W1 => x_aload rfl (w_geti W1 7 8 (by decide) shp_80 rfl rfl (x_aload rfl (w_geti W1 7 7 (by decide) shp_80 rfl rfl (x_br2 (fun q1 => have q1 := atL (by omega) h8 h7 q1; hJ 3 _ _ rfl _ _ _ _ (x_aload rfl (w_getr W1 7 5 (t := 85) (by decide) shp_80 rfl rfl rfl (x_aload rfl (w_geti W1 7 8 (by decide) shp_80 rfl rfl (w_iald W1 q (by decide) shp_85 h8 (by omega) (by decide) (x_istore rfl (x_iload rfl (x_cs rfl (Nat.le_of_ble_eq_true rfl) (m_isLetter (hbt q1) (hτ q) (xk_go (x_br (fun q2 => have q2 := bI_eq0.mp q2; hJ 6 _ _ rfl _ _ _ _ (x_iload rfl (x_cs rfl (Nat.le_of_ble_eq_true rfl) (m_isDigit (hbt q1) (hτ q) (xk_go (x_br (fun q3 => have q3 := bI_eq0.mp q3; hJ 13 _ _ rfl _ _ _ _ (x_aload rfl (x_iload rfl (x_sipush (x_br2 (fun q4 => have q4 := cy_ne q4; hJ 14 _ _ rfl _ _ _ _ (x_sipush (x_goto (hJ 15 _ _ rfl _ _ _ _ (w_puti W1 7 10 (by decide) shp_80 rfl rfl (okI rfl) (fun h2 W2 => x_aload rfl (x_dupr (w_geti W2 7 8 (by decide) shp_80 rfl rfl (x_sipush (x_iadd (w_puti W2 7 8 (by decide) shp_80 rfl rfl (okI rfl) (fun h3 W3 => x_goto (hJ 16 _ _ rfl _ _ _ _ (x_vret rfl ?_)))))))))))))) (fun q4 => have q4 := cn_ne q4; x_sipush (x_goto (hJ 15 _ _ rfl _ _ _ _ (w_puti W1 7 10 (by decide) shp_80 rfl rfl (okI rfl) (fun h4 W4 => x_aload rfl (x_dupr (w_geti W4 7 8 (by decide) shp_80 rfl rfl (x_sipush (x_iadd (w_puti W4 7 8 (by decide) shp_80 rfl rfl (okI rfl) (fun h5 W5 => x_goto (hJ 16 _ _ rfl _ _ _ _ (x_vret rfl ?_)))))))))))))))))) (fun q3 => have q3 := bI_ne0.mp q3; x_aload rfl (x_sipush (w_puti W1 7 11 (by decide) shp_80 rfl rfl (okI rfl) (fun h6 W6 => x_goto (?_))))))))))) (fun q2 => have q2 := bI_ne0.mp q2; x_goto (?_)))))))))))))) (fun q1 => have q1 := atM (by omega) h8 h7 q1; x_aload rfl (x_sipush (w_puti W1 7 10 (by decide) shp_80 rfl rfl (okI rfl) (fun h7' W7 => x_vret rfl ?_)))))))))))))
        · have hF : tkF τ n q = (q, q + 1, 0) := by
            unfold tkF
            rw [if_neg (by omega), if_neg (by rw [q2]; decide), if_neg (by rw [q3]; decide), if_neg (fun z => q4 ((hc59 q1).mpr z))]
          rw [hfin, hF] at kk
          exact kk h3 _ W3 (hk.trans (((kB_sn (by decide)).trans (kB_sn (by decide))).trans (kB_sn (by decide)))) (hd.of (hk.trans (((kB_sn (by decide)).trans (kB_sn (by decide))).trans (kB_sn (by decide)))) (by rw [wn_sn, if_pos ⟨rfl, rfl⟩]; show wn w0 80 8 + kI 1 = _; rw [h8, kN_succ]) (by simp [wn_sn]; rfl) (by simp [wn_sn, h8]) (fun z => by cases z))
        · have hF : tkF τ n q = (q, q + 1, 3) := by
            unfold tkF
            rw [if_neg (by omega), if_neg (by rw [q2]; decide), if_neg (by rw [q3]; decide), if_pos ((hc59 q1).mp q4)]
          rw [hfin, hF] at kk
          exact kk h5 _ W5 (hk.trans (((kB_sn (by decide)).trans (kB_sn (by decide))).trans (kB_sn (by decide)))) (hd.of (hk.trans (((kB_sn (by decide)).trans (kB_sn (by decide))).trans (kB_sn (by decide)))) (by rw [wn_sn, if_pos ⟨rfl, rfl⟩]; show wn w0 80 8 + kI 1 = _; rw [h8, kN_succ]) (by simp [wn_sn]; rfl) (by simp [wn_sn, h8]) (fun z => by cases z))
        · exact loop7 q hq hS (by rw [q2]; decide) q3 q1 q hq (Nat.le_refl _) rfl h6 _ _ W6 (hk.trans ((kB_sn (by decide)).trans (kB_sn (by decide)))) (by simp [wn_sn, h8]) (by simp [wn_sn, h8]) (fun _ => by rw [wn_sn, if_pos ⟨rfl, rfl⟩, Nat.sub_self]; rfl)
        · exact loop4 q q1 hS q2 q hq (Nat.le_refl _) rfl h1 _ _ W1 (hk.trans (kB_sn (by decide))) (by simp [wn_sn, h8]) (by simp [wn_sn, h8])
        · have hF : tkF τ n q = (q, q, 4) := by
            unfold tkF
            rw [if_pos q1]
          rw [hfin, hF] at kk
          exact kk h7' _ W7 (hk.trans ((kB_sn (by decide)).trans (kB_sn (by decide)))) (hd.of (hk.trans ((kB_sn (by decide)).trans (kB_sn (by decide)))) (by simp [wn_sn, h8]) (by simp [wn_sn]; rfl) (by simp [wn_sn, h8]) (fun z => by cases z))
      have h7 : wn w0 80 7 = kI (n : Int) := (hk.2 7 (by decide)).trans hd.1
      have hbt0 : ∀ j, j < n → wa w0 85 j = kI (τ j : Int) := fun j hj => by rw [(hk.1 85 (by omega)).2.2.1]; exact hd.2.2 j hj
      have hfin : tk τ n p = tkF τ n q := by unfold tk; rw [hS]
      have hF : tkF τ n q = (q, tkL τ n q, 1) := by
        unfold tkF
        rw [if_neg (by omega), if_pos hl]
      rw [hfin, hF] at kk
      refine hJ 4 _ _ rfl _ _ _ _ (x_aload rfl (x_aload rfl (w_geti W0 7 8 (by decide) shp_80 rfl rfl (x_cv rfl (Nat.le_of_ble_eq_true rfl) (isO_W W0 (by decide) shp_80) (m_see (τ := τ) (p := r) W0 ⟨h7, hbt0⟩ h8 hr hn7 (xk_go (x_cs rfl (Nat.le_of_ble_eq_true rfl) (m_isLetter rfl (see_lt hτ) (xk_go (x_br (fun q1 => have q1 := bI_eq0.mp q1; hJ 5 _ _ rfl _ _ _ _ (x_aload rfl (x_sipush (w_puti W0 7 10 (by decide) shp_80 rfl rfl (okI rfl) (fun h1 W1 => x_goto (hJ 16 _ _ rfl _ _ _ _ (x_vret rfl ?_))))))) (fun q1 => have q1 := bI_ne0.mp q1; x_aload rfl (x_dupr (w_geti W0 7 8 (by decide) shp_80 rfl rfl (x_sipush (x_iadd (w_puti W0 7 8 (by decide) shp_80 rfl rfl (okI rfl) (fun h2 W2 => x_goto (?_))))))))))))))))))
      · have e : tkL τ n q = r := by rw [hT]; exact fw_n (P := fun j => isLb (τ j)) (see_n q1)
        rw [e] at kk
        exact kk h1 _ W1 (hk.trans (kB_sn (by decide))) (hd.of (hk.trans (kB_sn (by decide))) (by simp [wn_sn, h8]) (by simp [wn_sn]; rfl) (by simp [wn_sn, h9]) (fun z => by cases z))
      · have q9 := see_y rfl q1
        exact ih q9.1 (by omega) (by rw [hT]; exact fw_y (P := fun j => isLb (τ j)) q9.1 q9.2) h2 _ _ W2 (hk.trans (kB_sn (by decide))) (by rw [wn_sn, if_pos ⟨rfl, rfl⟩, h8, kN_succ]) (by rw [wn_sn, if_neg (fun z => by cases z.2)]; exact h9)
    have h7 : wn w0 80 7 = kI (n : Int) := (hk.2 7 (by decide)).trans hd.1
    have hbt0 : ∀ j, j < n → wa w0 85 j = kI (τ j : Int) := fun j hj => by rw [(hk.1 85 (by omega)).2.2.1]; exact hd.2.2 j hj
    have e89 : wn w0 80 8 - wn w0 80 9 = kI ((r - q : Nat) : Int) := by
      rw [h8, h9, kI_sub]
      exact congrArg kI (by omega)
    have ge3y : kI 3 ≤ wn w0 80 8 - wn w0 80 9 → 3 ≤ r - q := fun b => by
      rw [e89] at b
      exact (kN_le (a := 3) (by omega) (by omega)).mp b
    have ge3n : ¬ kI 3 ≤ wn w0 80 8 - wn w0 80 9 → r - q < 3 := fun b => by
      have : ¬ 3 ≤ r - q := fun z => b (by rw [e89]; exact (kN_le (a := 3) (by omega) (by omega)).mpr z)
      omega
    have hF : tkF τ n q = (q, tkD τ n q, if 3 < tkD τ n q - q then 0 else 2) := by
      unfold tkF
      rw [if_neg (by omega), if_neg hnl, if_pos hdq]
    refine hJ 7 _ _ rfl _ _ _ _ (x_aload rfl (x_aload rfl (w_geti W0 7 8 (by decide) shp_80 rfl rfl (x_cv rfl (Nat.le_of_ble_eq_true rfl) (isO_W W0 (by decide) shp_80) (m_see (τ := τ) (p := r) W0 ⟨h7, hbt0⟩ h8 hr hn7 (xk_go (x_cs rfl (Nat.le_of_ble_eq_true rfl) (m_isDigit rfl (see_lt hτ) (xk_go (x_br (fun q1 => have q1 := bI_eq0.mp q1; ?_) (fun q1 => have q1 := bI_ne0.mp q1; x_aload rfl (x_aload rfl (w_geti W0 7 8 (by decide) shp_80 rfl rfl (x_aload rfl (w_geti W0 7 9 (by decide) shp_80 rfl rfl (x_isub (x_sipush (x_br2 (fun q2 => have q2 := ge3y q2; hJ 8 _ _ rfl _ _ _ _ (x_aload rfl (w_geti W0 7 11 (by decide) shp_80 rfl rfl (x_goto (hJ 9 _ _ rfl _ _ _ _ (w_puti W0 7 11 (by decide) shp_80 rfl rfl (okI rfl) (fun h1 W1 => x_aload rfl (x_dupr (w_geti W1 7 8 (by decide) shp_80 rfl rfl (x_sipush (x_iadd (w_puti W1 7 8 (by decide) shp_80 rfl rfl (okI rfl) (fun h2 W2 => x_goto (?_)))))))))))))) (fun q2 => have q2 := ge3n q2; x_sipush (x_aload rfl (w_geti W0 7 11 (by decide) shp_80 rfl rfl (x_imul (x_aload rfl (w_getr W0 7 5 (t := 85) (by decide) shp_80 rfl rfl rfl (x_aload rfl (w_geti W0 7 8 (by decide) shp_80 rfl rfl (w_iald W0 r (by decide) shp_85 h8 (Nat.lt_of_lt_of_le (see_y rfl q1).1 hn7) (by decide) (x_iadd (x_sipush (x_isub (x_goto (hJ 9 _ _ rfl _ _ _ _ (w_puti W0 7 11 (by decide) shp_80 rfl rfl (okI rfl) (fun h3 W3 => x_aload rfl (x_dupr (w_geti W3 7 8 (by decide) shp_80 rfl rfl (x_sipush (x_iadd (w_puti W3 7 8 (by decide) shp_80 rfl rfl (okI rfl) (fun h4 W4 => x_goto (?_)))))))))))))))))))))))))))))))))))))))))
    · have e : tkD τ n q = r := by rw [hT]; exact fw_n (P := fun j => isDb (τ j)) (see_n q1)
      rw [e] at hF
      exact b10 q r hF hS hqr hr h0 w0 _ W0 hk h8 h9 h11
    · have q9 := see_y rfl q1
      exact ih q9.1 (by omega) (by rw [hT]; exact fw_y (P := fun j => isDb (τ j)) q9.1 q9.2) h2 _ _ W2 (hk.trans ((kB_sn (by decide)).trans (kB_sn (by decide)))) (by rw [wn_sn, if_pos ⟨rfl, rfl⟩]; show wn w0 80 8 + kI 1 = _; rw [h8, kN_succ]) (by simp [wn_sn, h9]) (fun z => by omega)
    · have q9 := see_y rfl q1
      refine ih q9.1 (by omega) (by rw [hT]; exact fw_y (P := fun j => isDb (τ j)) q9.1 q9.2) h4 _ _ W4 (hk.trans ((kB_sn (by decide)).trans (kB_sn (by decide)))) (by rw [wn_sn, if_pos ⟨rfl, rfl⟩]; show wn w0 80 8 + kI 1 = _; rw [h8, kN_succ]) (by simp [wn_sn, h9]) (fun z => ?_)
      rw [wn_sn, if_neg (fun z => by cases z.2), wn_sn, if_pos ⟨rfl, rfl⟩, h11 (by omega), hbt0 r q9.1, kI_mul, kI_add, kI_sub]
      refine congrArg kI ?_
      have hc := of_decide_eq_true q9.2
      have e : dv τ q (r + 1 - q) = 10 * dv τ q (r - q) + (τ (q + (r - q)) - 48) := by
        rw [show r + 1 - q = (r - q) + 1 by omega]
        rfl
      rw [e, show q + (r - q) = r by omega]
      omega
  have e89 : wn w0 80 8 - wn w0 80 9 = kI ((r - q : Nat) : Int) := by
    rw [h8, h9, kI_sub]
    exact congrArg kI (by omega)
  have ge4y : wn w0 80 8 - wn w0 80 9 ≤ kI 3 → ¬ 3 < r - q := fun b => by
    rw [e89] at b
    have := (kN_le (b := 3) (by omega) (by omega)).mp b
    omega
  have ge4n : ¬ wn w0 80 8 - wn w0 80 9 ≤ kI 3 → 3 < r - q := fun b => by
    have : ¬ r - q ≤ 3 := fun z => b (by rw [e89]; exact (kN_le (b := 3) (by omega) (by omega)).mpr z)
    omega
  have hfin : tk τ n p = tkF τ n q := by unfold tk; rw [hS]
  rw [hfin, hF] at kk
  refine hJ 10 _ _ rfl _ _ _ _ (x_aload rfl (x_aload rfl (w_geti W0 7 8 (by decide) shp_80 rfl rfl (x_aload rfl (w_geti W0 7 9 (by decide) shp_80 rfl rfl (x_isub (x_sipush (x_br2 (fun q1 => have q1 := ge4y q1; hJ 11 _ _ rfl _ _ _ _ (x_sipush (x_goto (hJ 12 _ _ rfl _ _ _ _ (w_puti W0 7 10 (by decide) shp_80 rfl rfl (okI rfl) (fun h1 W1 => x_goto (hJ 16 _ _ rfl _ _ _ _ (x_vret rfl ?_)))))))) (fun q1 => have q1 := ge4n q1; x_sipush (x_goto (hJ 12 _ _ rfl _ _ _ _ (w_puti W0 7 10 (by decide) shp_80 rfl rfl (okI rfl) (fun h2 W2 => x_goto (hJ 16 _ _ rfl _ _ _ _ (x_vret rfl ?_)))))))))))))))
  · rw [if_neg q1] at kk
    exact kk h1 _ W1 (hk.trans (kB_sn (by decide))) (hd.of (hk.trans (kB_sn (by decide))) (by simp [wn_sn, h8]) (by simp [wn_sn]; rfl) (by simp [wn_sn, h9]) (fun _ => by rw [wn_sn, if_neg (fun z => by cases z.2)]; exact h11 (by omega)))
  · rw [if_pos q1] at kk
    exact kk h2 _ W2 (hk.trans (kB_sn (by decide))) (hd.of (hk.trans (kB_sn (by decide))) (by simp [wn_sn, h8]) (by simp [wn_sn]; rfl) (by simp [wn_sn, h9]) (fun z => by cases z))
end W1
