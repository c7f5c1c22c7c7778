/-! ===== the course: weeks that go by ===== -/
theorem upd_self (f : Nat → Int32) (k : Nat) (x : Int32) : upd f k x k = x := if_pos rfl
theorem upd_ne {f : Nat → Int32} {k j : Nat} {x : Int32} (h : j ≠ k) : upd f k x j = f j := if_neg h
theorem upd_upd (f : Nat → Int32) (k : Nat) (x y : Int32) : upd (upd f k x) k y = upd f k y := by
  funext j
  unfold upd
  split <;> rfl
theorem sa_sa (w : Wst) (i : Nat) (f g : Nat → Int32) : sa (sa w i f) i g = sa w i g := by
  unfold sa
  refine Prod.ext rfl (Prod.ext rfl (Prod.ext ?_ rfl))
  funext a
  show (if a = i then g else if a = i then f else wa w a) = if a = i then g else wa w a
  split <;> rfl
theorem wa_self (w : Wst) (i : Nat) (f : Nat → Int32) : wa (sa w i f) i = f := if_pos rfl
section C1
variable {p : PT} {fog : Bool}
variable {ga : Nat → Nat} {L : Nat} {xs : Nat → Int32} {d : Nat} {h : ac_H} {P : ac_P} {ad : Nat → Nat} {w : Wst} {i : Nat} {V : VT}
theorem c_comersInFog {x : Int32} (W : WW ad w h) (hC : isC i) (hR : CR w i V) (hV : VOK V) (hco : CoR w i V p false) (hp : POK V p) (kk : ∀ h' w', WW ad w' h' → kp [40] w w' → P (.inl (some (.int (goesG V p true x).1))) h') : WP ga L xs (d + 5) 35 [.ref (ad 40), .int x] h P := by
  refine WP.enter kX1_comersInFog (Nat.le_of_ble_eq_true rfl) (fun J hJ => ?_)
  refine hJ 0 _ _ rfl _ _ _ _ (x_aload rfl (x_sipush (w_puti W 1 3 (by decide) shp_40 rfl rfl (okB1 rfl) (fun h1 W1 => x_aload rfl (x_iload rfl (w_puti W1 1 4 (by decide) shp_40 rfl rfl (okI rfl) (fun h2 W2 => x_aload rfl (x_cv rfl (Nat.le_of_ble_eq_true rfl) (isO_W W2 (by decide) shp_40) (c_comers (fog := true) W2 hC ((hR.far (l := [40]) ((kp_sn (by simp)).trans (kp_sn (by simp))) hC (by simp))) hV ⟨hco.1, hco.2.1, hco.2.2.1, rfl, hco.2.2.2.2⟩ hp (fun h3 W3 => xk_go (x_iret (nrwI _) (kk _ _ W3 (((kp_sn (by simp)).trans (kp_sn (by simp))).trans (kp_sn (by simp)))))))))))))))
theorem c_recall {x : Int32} {m0 : Nat} (W : WW ad w h) (hC : isC i) (hR : CR w i V) (hV : VOK V) (hr : wr w 40 0 = i) (hx : x = kI (m0 : Int)) (hm : m0 < nm V) (hz : wa w 41 m0 = kI 0) (kk : ∀ h', WW ad (sa w 41 (upd (wa w 41) m0 (lrnV V (startP V) m0))) h' → P (.inl none) h') : WP ga L xs (d + 4) 33 [.ref (ad 40), .int x] h P := by
  subst hx
  have hn := hV.n.2
  have hw := hV.w.2
  refine WP.enter kX1_recall (Nat.le_of_ble_eq_true rfl) (fun J hJ => ?_)
  have loop : ∀ m, m ≤ wk V → ∀ h', WW ad (sa w 41 (upd (wa w 41) m0 (lrnV V (vS V, m) m0))) h' → J 1 [some (.ref (ad 40)), some (.int (kI (m0 : Int))), some (.int (kI (m : Int)))] [] h' (0, 0) := up_ind (fun m hm2 ih h0 W0 => ?_)
  · refine hJ 0 _ _ rfl _ _ _ _ (x_sipush (x_istore rfl (x_goto (?_))))
    refine loop 0 (Nat.zero_le _) h ?_
    have e : sa w 41 (upd (wa w 41) m0 (lrnV V (vS V, 0) m0)) = w := by
      unfold sa
      refine Prod.ext rfl (Prod.ext rfl (Prod.ext ?_ rfl))
      funext a
      show (if a = 41 then upd (wa w 41) m0 (kI 0) else wa w a) = wa w a
      split
      · rename_i e
        subst e
        funext j
        unfold upd
        split
        · rename_i e2
          rw [e2, hz]
        · rfl
      · rfl
    rw [e]
    exact W
  have hR0 : CR (sa w 41 (upd (wa w 41) m0 (lrnV V (vS V, m) m0))) i V := hR.far (l := [41]) (kp_sa (by simp)) hC (by simp)
  have hs : m < wk V → sok (nm V) (wa (sa w 41 (upd (wa w 41) m0 (lrnV V (vS V, m) m0))) (i + 4) m ||| b1 m0) := fun h9 => by
    rw [hR0.2.2.1 m h9]
    exact (hV.2.2 m h9).or (sok.b1 hn hm)
  refine hJ 1 _ _ rfl _ _ _ _ (x_iload rfl (x_aload rfl (w_getr W0 1 0 (t := i) (by decide) shp_40 rfl rfl hr (w_geti W0 0 6 hC.lt hC.sh rfl rfl (x_br2 (fun b1 => have b1 := ge_y (hR0.w hV) (by omega) b1; hJ 2 _ _ rfl _ _ _ _ (x_vret rfl ?_)) (fun b1 => have b1 := ge_n (hR0.w hV) (by omega) b1; x_aload rfl (w_getr W0 1 5 (t := 41) (by decide) shp_40 rfl rfl rfl (x_iload rfl (x_dup2 (w_iald W0 _ (by decide) shp_41 rfl (by omega) (by decide) (x_aload rfl (w_getr W0 1 0 (t := i) (by decide) shp_40 rfl rfl hr (x_iload rfl (x_aload rfl (w_getr W0 1 0 (t := i) (by decide) shp_40 rfl rfl hr (w_getr W0 0 13 (t := i + 4) hC.lt hC.sh rfl rfl (hC.rf4 _) (x_iload rfl (w_iald W0 _ hC.lt4 hC.sh4 rfl (by omega) (by decide) (x_sipush (x_iload rfl (x_shl1 (by omega) (x_ior (x_cv rfl (Nat.le_of_ble_eq_true rfl) (isO_W W0 hC.lt hC.sh) (c_payOf W0 hC hR0 hV (hs b1) rfl hm (xk_go (x_iadd (w_iast W0 _ (by decide) shp_41 rfl (by omega) (by decide) (fun h1 W1 => x_iinc rfl rfl (x_goto (?_))))))))))))))))))))))))))))))
  · have e : m = wk V := by omega
    subst e
    exact kk h0 W0
  · refine J_c (ih b1 h1 ?_) ?_
    · rw [wa_self, sa_sa, upd_upd, upd_self, hR0.2.2.1 m b1] at W1
      exact W1
    · simp only [sI, kN_succ]
theorem c_start (W : WW ad w h) (hC : isC i) (hR : CR w i V) (hV : VOK V) (kk : ∀ h' w', WW ad w' h' → kp [40, 41] w w' → CoR w' i V (startP V) false → wn w' 40 4 = wn w 40 4 → P (.inl none) h') : WP ga L xs (d + 5) 32 [.ref (ad 40), .ref (ad i)] h P := by
  have hn := hV.n.2
  have hw := hV.w.2
  refine WP.enter kX1_start (Nat.le_of_ble_eq_true rfl) (fun J hJ => ?_)
  have loop : ∀ m, m ≤ nm V → ∀ h' w', WW ad w' h' → kp [40, 41] w w' → (wr w' 40 0 = i ∧ wn w' 40 1 = kI (wk V : Int) ∧ wn w' 40 2 = lastV V ∧ wn w' 40 3 = kI 0 ∧ wn w' 40 4 = wn w 40 4) → (∀ j, j < m → vR V j = kI 10 → wa w' 41 j = lrnV V (startP V) j) → J 1 [some (.ref (ad 40)), some (.ref (ad i)), some (.int (kI (m : Int)))] [] h' (0, 0) := up_ind (fun m hm ih h0 w0 W0 hk hc hf => ?_)
  · have hRr : CR (sr w 40 0 i) i V := hR.far (l := [40]) (kp_sr (by simp)) hC (by simp)
    have hRr1 : ∀ x, CR (sn (sr w 40 0 i) 40 1 x) i V := fun x => hRr.far (l := [40]) (kp_sn (by simp)) hC (by simp)
    refine hJ 0 _ _ rfl _ _ _ _ (x_aload rfl (x_aload rfl (w_putr W 1 0 i (by decide) shp_40 rfl rfl ⟨rfl, rfl⟩ ?_ (fun h1 W1 => x_aload rfl (x_aload rfl (w_geti W1 0 6 hC.lt hC.sh rfl rfl (w_puti W1 1 1 (by decide) shp_40 rfl rfl (okI rfl) (fun h2 W2 => x_aload rfl (x_aload rfl (x_cv rfl (Nat.le_of_ble_eq_true rfl) (isO_W W2 hC.lt hC.sh) (c_lastSet W2 hC (hRr1 _) hV (xk_go (w_puti W2 1 2 (by decide) shp_40 rfl rfl (okI rfl) (fun h3 W3 => x_aload rfl (x_sipush (w_puti W3 1 3 (by decide) shp_40 rfl rfl (okB0 rfl) (fun h4 W4 => x_sipush (x_istore rfl (x_goto (?_))))))))))))))))))))
    · intro b
      unfold rfx
      rw [shp_40]
      show (if b = 0 then wr (sr w 40 0 i) 40 0 else _) = if b = 0 then i else if b = 0 then wr w 40 0 else _
      split
      · rw [wr_sr, if_pos ⟨rfl, rfl⟩]
      · rfl
    · exact loop 0 (Nat.zero_le _) _ _ W4 ((((kp_sr (by simp)).trans (kp_sn (by simp))).trans (kp_sn (by simp))).trans (kp_sn (by simp))) ⟨rfl, hRr.w hV, rfl, rfl, rfl⟩ (fun j hj => by omega)
  have hR0 := hR.far hk hC (by simp)
  have hR1 : ∀ f, CR (sa w0 41 f) i V := fun f => hR0.far (l := [41]) (kp_sa (by simp)) hC (by simp)
  have hka : ∀ {w1 : Wst} {f : Nat → Int32}, kp [40, 41] w w1 → kp [40, 41] w (sa w1 41 f) := fun h => h.trans (kp_sa (by simp))
  refine hJ 1 _ _ rfl _ _ _ _ (x_iload rfl (x_aload rfl (w_geti W0 0 4 hC.lt hC.sh rfl rfl (x_br2 (fun b1 => have b1 := ge_y (hR0.n hV) (by omega) b1; hJ 3 _ _ rfl _ _ _ _ (x_vret rfl ?_)) (fun b1 => have b1 := ge_n (hR0.n hV) (by omega) b1; x_aload rfl (w_getr W0 1 5 (t := 41) (by decide) shp_40 rfl rfl rfl (x_iload rfl (x_sipush (w_iast W0 _ (by decide) shp_41 rfl (by omega) (by decide) (fun h1 W1 => x_aload rfl (w_getr W1 0 10 (t := i + 1) hC.lt hC.sh rfl rfl (hC.rf1 _) (x_iload rfl (w_iald W1 _ hC.lt1 hC.sh1 rfl (by omega) (by decide) (x_sipush (x_br2 (fun b2 => have b2 := cy_ne b2; hJ 2 _ _ rfl _ _ _ _ (x_iinc rfl rfl (x_goto (?_)))) (fun b2 => have b2 := cn_ne b2; x_aload rfl (x_iload rfl (x_cv rfl (Nat.le_of_ble_eq_true rfl) (isO_W W1 (by decide) shp_40) (c_recall W1 hC (hR1 _) hV hc.1 rfl b1 ?_ (fun h2 W2 => xk_v (x_goto (hJ 2 _ _ rfl _ _ _ _ (x_iinc rfl rfl (x_goto (?_)))))))))))))))))))))))))
  · have e : m = nm V := by omega
    subst e
    exact kk h0 _ W0 hk ⟨hc.1, hc.2.1, hc.2.2.1, hc.2.2.2.1, hf⟩ hc.2.2.2.2
  · rw [((hR1 _).2.1 m b1).1] at b2
    refine J_c (ih b1 h1 _ W1 (hka hk) hc (fun j hj h10 => ?_)) ?_
    · have hjm : j ≠ m := fun z => b2 (z ▸ h10)
      rw [wa_self, upd_ne hjm]
      exact hf j (by omega) h10
    · simp only [sI, kN_succ]
  · rw [wa_self, upd_self]
  · refine J_c (ih b1 h2 _ W2 (hka (hka hk)) hc (fun j hj h10 => ?_)) ?_
    · rw [wa_self]
      by_cases hjm : j = m
      · rw [hjm, upd_self]
      · rw [upd_ne hjm, wa_self, upd_ne hjm]
        exact hf j (by omega) h10
    · simp only [sI, kN_succ]
theorem c_go (W : WW ad w h) (hC : isC i) (hR : CR w i V) (hV : VOK V) (hco : CoR w i V p false) (hp : POK V p) (hp2 : p.2 < 470) (kk : ∀ h' w', WW ad w' h' → kp [40, 41] w w' → CoR w' i V (goP V p) false → P (.inl (some (.int (nextP V p)))) h') : WP ga L xs (d + 5) 34 [.ref (ad 40)] h P := by
  have hn := hV.n.2
  have hr := hco.1
  have hs := sok_next (V := V) (p := p) hn
  have hg : goesG V p false (wn w 40 4) = (nextP V p, wn w 40 4) := goes_nofog
  refine WP.enter kX1_go (Nat.le_of_ble_eq_true rfl) (fun J hJ => ?_)
  have loop : ∀ m, m ≤ nm V → ∀ h' w', WW ad w' h' → kp [40, 41] w w' → (wr w' 40 0 = i ∧ wn w' 40 1 = kI (p.2 : Int) ∧ wn w' 40 2 = lastP p ∧ wn w' 40 3 = bI false) → (∀ j, j < nm V → vR V j = kI 10 → wa w' 41 j = if j < m then lrnV V (goP V p) j else lrnV V p j) → J 1 [some (.ref (ad 40)), some (.int (nextP V p)), some (.int (kI (m : Int)))] [] h' (0, 0) := up_ind (fun m hm ih h0 w0 W0 hk hc hf => ?_)
  · refine hJ 0 _ _ rfl _ _ _ _ (x_aload rfl (x_cv rfl (Nat.le_of_ble_eq_true rfl) (isO_W W (by decide) shp_40) (c_comers W hC hR hV hco hp (fun h1 W1 => xk_go (x_istore rfl (x_sipush (x_istore rfl (x_goto (?_)))))))))
    rw [hg, sn_self] at W1
    rw [hg]
    exact loop 0 (Nat.zero_le _) _ _ W1 kp_refl ⟨hco.1, hco.2.1, hco.2.2.1, hco.2.2.2.1⟩ (fun j hj h10 => by rw [if_neg (by omega)]; exact hco.2.2.2.2 j hj h10)
  have hR0 := hR.far hk hC (by simp)
  refine hJ 1 _ _ rfl _ _ _ _ (x_iload rfl (x_aload rfl (w_getr W0 1 0 (t := i) (by decide) shp_40 rfl rfl hc.1 (w_geti W0 0 4 hC.lt hC.sh rfl rfl (x_br2 (fun b1 => have b1 := ge_y (hR0.n hV) (by omega) b1; hJ 3 _ _ rfl _ _ _ _ (x_aload rfl (x_iload rfl (w_puti W0 1 2 (by decide) shp_40 rfl rfl (okI rfl) (fun h1 W1 => x_aload rfl (x_dupr (w_geti W1 1 1 (by decide) shp_40 rfl rfl (x_sipush (x_iadd (w_puti W1 1 1 (by decide) shp_40 rfl rfl (okI rfl) (fun h2 W2 => x_iload rfl (x_iret (nrwI _) ?_)))))))))))) (fun b1 => have b1 := ge_n (hR0.n hV) (by omega) b1; x_aload rfl (w_getr W0 1 0 (t := i) (by decide) shp_40 rfl rfl hc.1 (w_getr W0 0 10 (t := i + 1) hC.lt hC.sh rfl rfl (hC.rf1 _) (x_iload rfl (w_iald W0 _ hC.lt1 hC.sh1 rfl (by omega) (by decide) (x_sipush (x_br2 (fun b2 => have b2 := cy_ne b2; hJ 2 _ _ rfl _ _ _ _ (x_iinc rfl rfl (x_goto (?_)))) (fun b2 => have b2 := cn_ne b2; x_aload rfl (w_getr W0 1 5 (t := 41) (by decide) shp_40 rfl rfl rfl (x_iload rfl (x_dup2 (w_iald W0 _ (by decide) shp_41 rfl (by omega) (by decide) (x_aload rfl (w_getr W0 1 0 (t := i) (by decide) shp_40 rfl rfl hc.1 (x_iload rfl (x_iload rfl (x_sipush (x_iload rfl (x_shl1 (by omega) (x_ior (x_cv rfl (Nat.le_of_ble_eq_true rfl) (isO_W W0 hC.lt hC.sh) (c_payOf W0 hC hR0 hV (hs.or (sok.b1 hn b1)) rfl b1 (xk_go (x_iadd (w_iast W0 _ (by decide) shp_41 rfl (by omega) (by decide) (fun h3 W3 => x_goto (hJ 2 _ _ rfl _ _ _ _ (x_iinc rfl rfl (x_goto (?_)))))))))))))))))))))))))))))))))))
  · have e : m = nm V := by omega
    subst e
    refine kk h2 _ W2 ((hk.trans (kp_sn (by simp))).trans (kp_sn (by simp))) ⟨hc.1, ?_, ?_, hc.2.2.2, fun j hj h10 => ?_⟩
    · show wn w0 40 1 + kI 1 = _
      rw [hc.2.1, kN_succ]
      rfl
    · rw [last_go]
      rfl
    · show wa w0 41 j = _
      rw [hf j hj h10, if_pos hj]
  · rw [(hR0.2.1 m b1).1] at b2
    refine J_c (ih b1 h0 _ W0 hk hc (fun j hj h10 => ?_)) ?_
    · have hjm : j ≠ m := fun z => b2 (z ▸ h10)
      rw [hf j hj h10]
      by_cases h : j < m
      · rw [if_pos h, if_pos (by omega)]
      · rw [if_neg h, if_neg (by omega)]
    · simp only [sI, kN_succ]
  · rw [(hR0.2.1 m b1).1] at b2
    refine J_c (ih b1 h3 _ W3 (hk.trans (kp_sa (by simp))) hc (fun j hj h10 => ?_)) ?_
    · rw [wa_self]
      by_cases hjm : j = m
      · subst hjm
        rw [upd_self, if_pos (by omega), hf j hj h10, if_neg (by omega), lrn_go]
      · rw [upd_ne hjm, hf j hj h10]
        by_cases h : j < m
        · rw [if_pos h, if_pos (by omega)]
        · rw [if_neg h, if_neg (by omega)]
    · simp only [sI, kN_succ]
def metF (V : VT) (p : PT) (k : Nat) (c : Int32) : Int32 := c + bI (meetsV V (nextP V (runP V p k)))
def metV (V : VT) (n : Nat) : Int32 := fo (metF V (startP V)) (kI 0) n
def payF (V : VT) (m : Nat) (p : PT) (k : Nat) (c : Int32) : Int32 := c + payV V (nextP V (runP V p k)) m
def payAV (V : VT) (m n : Nat) : Int32 := fo (payF V m (startP V)) (kI 0) n
theorem c_meetings {x : Int32} {n : Nat} (W : WW ad w h) (hC : isC i) (hR : CR w i V) (hV : VOK V) (hx : x = kI (n : Int)) (hn9 : n ≤ 60) (kk : ∀ h' w', WW ad w' h' → kp [40, 41] w w' → P (.inl (some (.int (metV V n)))) h') : WP ga L xs (d + 6) 39 [.ref (ad 40), .ref (ad i), .int x] h P := by
  subst hx
  have hn := hV.n.2
  have hw := hV.w.2
  have hp := POK.start hV
  have hs9 : (startP V).2 = wk V := rfl
  refine WP.enter kX1_meetings (Nat.le_of_ble_eq_true rfl) (fun J hJ => ?_)
  have loop : ∀ m, m ≤ n → ∀ h' w', WW ad w' h' → kp [40, 41] w w' → CoR w' i V (runP V (startP V) m) false → J 1 [some (.ref (ad 40)), some (.ref (ad i)), some (.int (kI (n : Int))), some (.int (metV V m)), some (.int (kI (m : Int)))] [] h' (0, 0) := up_ind (fun m hm ih h0 w0 W0 hk hc => ?_)
  · refine hJ 0 _ _ rfl _ _ _ _ (x_aload rfl (x_aload rfl (x_cv rfl (Nat.le_of_ble_eq_true rfl) (isO_W W (by decide) shp_40) (c_start W hC hR hV (fun h1 w1 W1 e1 c1 d1 => xk_v (x_sipush (x_istore rfl (x_sipush (x_istore rfl (x_goto (?_)))))))))))
    exact loop 0 (Nat.zero_le _) _ _ W1 e1 c1
  have hR0 := hR.far hk hC (by simp)
  have hpm := hp.run hn m (by omega)
  have hlen := runP_len (V := V) (p := startP V) m
  refine hJ 1 _ _ rfl _ _ _ _ (x_iload rfl (x_iload rfl (x_br2 (fun b1 => have b1 := ge_y rfl (by omega) b1; hJ 4 _ _ rfl _ _ _ _ (x_iload rfl (x_iret (nrwI _) ?_))) (fun b1 => have b1 := ge_n rfl (by omega) b1; x_iload rfl (x_aload rfl (x_aload rfl (x_cv rfl (Nat.le_of_ble_eq_true rfl) (isO_W W0 (by decide) shp_40) (c_go W0 hC hR0 hV hc hpm (by omega) (fun h1 w1 W1 e1 c1 => xk_go (x_cv rfl (Nat.le_of_ble_eq_true rfl) (isO_W W1 hC.lt hC.sh) (c_meets W1 hC (hR0.far e1 hC (by simp)) (sok_next hn) (xk_go (x_br (fun b2 => have b2 := bI_eq0.mp b2; hJ 2 _ _ rfl _ _ _ _ (x_sipush (x_goto (hJ 3 _ _ rfl _ _ _ _ (x_iadd (x_istore rfl (x_iinc rfl rfl (x_goto (?_))))))))) (fun b2 => have b2 := bI_ne0.mp b2; x_sipush (x_goto (hJ 3 _ _ rfl _ _ _ _ (x_iadd (x_istore rfl (x_iinc rfl rfl (x_goto (?_)))))))))))))))))))))
  · have e : m = n := by omega
    subst e
    exact kk h0 _ W0 hk
  · refine J_c (ih b1 h1 _ W1 (hk.trans e1) c1) ?_
    simp only [sI, kN_succ]
    have e9 : metV V (m + 1) = metV V m + bI (meetsV V (nextP V (runP V (startP V) m))) := rfl
    rw [e9, b2]
    rfl
  · refine J_c (ih b1 h1 _ W1 (hk.trans e1) c1) ?_
    simp only [sI, kN_succ]
    have e9 : metV V (m + 1) = metV V m + bI (meetsV V (nextP V (runP V (startP V) m))) := rfl
    rw [e9, b2]
    rfl
theorem c_payAhead {x y : Int32} {n m0 : Nat} (W : WW ad w h) (hC : isC i) (hR : CR w i V) (hV : VOK V) (hx : x = kI (n : Int)) (hn9 : n ≤ 60) (hy : y = kI (m0 : Int)) (hm0 : m0 < nm V) (kk : ∀ h' w', WW ad w' h' → kp [40, 41] w w' → P (.inl (some (.int (payAV V m0 n)))) h') : WP ga L xs (d + 6) 40 [.ref (ad 40), .ref (ad i), .int y, .int x] h P := by
  subst hx hy
  have hn := hV.n.2
  have hw := hV.w.2
  have hp := POK.start hV
  have hs9 : (startP V).2 = wk V := rfl
  refine WP.enter kX1_payAhead (Nat.le_of_ble_eq_true rfl) (fun J hJ => ?_)
  have loop : ∀ m, m ≤ n → ∀ h' w', WW ad w' h' → kp [40, 41] w w' → CoR w' i V (runP V (startP V) m) false → J 1 [some (.ref (ad 40)), some (.ref (ad i)), some (.int (kI (m0 : Int))), some (.int (kI (n : Int))), some (.int (payAV V m0 m)), some (.int (kI (m : Int)))] [] h' (0, 0) := up_ind (fun m hm ih h0 w0 W0 hk hc => ?_)
  · refine hJ 0 _ _ rfl _ _ _ _ (x_aload rfl (x_aload rfl (x_cv rfl (Nat.le_of_ble_eq_true rfl) (isO_W W (by decide) shp_40) (c_start W hC hR hV (fun h1 w1 W1 e1 c1 d1 => xk_v (x_sipush (x_istore rfl (x_sipush (x_istore rfl (x_goto (?_)))))))))))
    exact loop 0 (Nat.zero_le _) _ _ W1 e1 c1
  have hR0 := hR.far hk hC (by simp)
  have hpm := hp.run hn m (by omega)
  have hlen := runP_len (V := V) (p := startP V) m
  refine hJ 1 _ _ rfl _ _ _ _ (x_iload rfl (x_iload rfl (x_br2 (fun b1 => have b1 := ge_y rfl (by omega) b1; hJ 2 _ _ rfl _ _ _ _ (x_iload rfl (x_iret (nrwI _) ?_))) (fun b1 => have b1 := ge_n rfl (by omega) b1; x_iload rfl (x_aload rfl (x_iload rfl (x_aload rfl (x_cv rfl (Nat.le_of_ble_eq_true rfl) (isO_W W0 (by decide) shp_40) (c_go W0 hC hR0 hV hc hpm (by omega) (fun h1 w1 W1 e1 c1 => xk_go (x_cv rfl (Nat.le_of_ble_eq_true rfl) (isO_W W1 hC.lt hC.sh) (c_payOf W1 hC (hR0.far e1 hC (by simp)) hV (sok_next hn) rfl hm0 (xk_go (x_iadd (x_istore rfl (x_iinc rfl rfl (x_goto (?_))))))))))))))))))
  · have e : m = n := by omega
    subst e
    exact kk h0 _ W0 hk
  · refine J_c (ih b1 h1 _ W1 (hk.trans e1) c1) ?_
    simp only [sI, kN_succ]
    rfl
end C1
