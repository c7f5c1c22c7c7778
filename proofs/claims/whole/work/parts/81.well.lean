/-! ===== the state stays well ===== -/
theorem SOK.V {S : StT} {V' : VT} (hO : SOK S) (h : VOK V') : SOK (V', S.2) := ⟨h, hO.2⟩
theorem SOK.T {S : StT} {T' : TT} (hO : SOK S) (h : TOK T') : SOK (S.1, T', S.2.2) := ⟨hO.1, h, hO.2.2⟩
theorem allS_ok {τ : Nat → Nat} {n : Nat} (hn7 : n ≤ 700) : ∀ f (t : TK) (V V' : VT) (l : Nat), tkOK τ n t → DOK V → V 0 = kI (l : Int) → l ≤ t.1 → allS τ n f t V = .inr V' → VOK V'
  | 0, t, V, V', l, ht, hO, h0, hl, e => by
    cases e
    have h1 := ht.1
    have h2 := ht.2.1
    exact VOK_of hO (by
      rw [h0]
      unfold btw
      rw [kN_toInt (by omega)]
      omega)
  | f + 1, t, V, V', l, ht, hO, h0, hl, e => by
    have h1 := ht.1
    have h2 := ht.2.1
    unfold allS at e
    by_cases e4 : t.2.2 = 4
    · rw [if_pos e4] at e
      cases e
      exact VOK_of hO (by
        rw [h0]
        unfold btw
        rw [kN_toInt (by omega)]
        omega)
    · rw [if_neg e4] at e
      have hlt := ht.2.2.2.2.1 e4
      cases hb : bodS τ n t V with
      | inl f9 =>
        rw [lin_f hb] at e
        cases e
      | inr q =>
        obtain ⟨t1, V1⟩ := q
        have k1 := bodS_ok ht hO hb
        cases hs : semS τ n t1 with
        | inl f9 =>
          rw [lin_g hb hs] at e
          cases e
        | inr t2 =>
          rw [lin_ok hb hs] at e
          have k2 := semS_ok k1.1 hs
          exact allS_ok hn7 f t2 (upd V1 0 (V1 0 + kI 1)) V' (l + 1) k2.1 k1.2.2.1.lines (by rw [upd_self, k1.2.2.2, h0, kN_succ]) (by omega) e
theorem clubS_ok {τ : Nat → Nat} {n : Nat} {V : VT} (hn7 : n ≤ 700) (e : clubS τ n = .inr V) : VOK V := by
  have t0 := tk_ok (τ := τ) (n := n) (p := 0) (Nat.zero_le _)
  exact allS_ok hn7 (n + 1) (tk τ n 0) V0 V 0 t0.1 DOK_V0 rfl (Nat.zero_le _) e
theorem SOK.club {S : StT} {x : Int32} (hO : SOK S) (hT : clT S.2.2.2.1.2 x = 0) : SOK (clSt S (tN x)) := by
  have hp7 := hO.2.2.2.1
  have hx : inV x 0 (S.2.2.2.1.2 : Int) = true := by
    unfold clT at hT
    split at hT
    · assumption
    · omega
  have hn := in_n hx hp7
  unfold clSt
  cases hc : clubS S.2.2.2.1.1 (tN x) with
  | inl f => exact ⟨hO.1, hO.2.1, hO.2.2.1, Nat.zero_le _, hO.2.2.2.2⟩
  | inr V => exact ⟨(clubS_ok (by omega) hc).congr (fun k hk => if_pos hk), hO.2.1, hO.2.2.1, Nat.zero_le _, hO.2.2.2.2⟩
theorem SOK.quota {S : StT} {x : Int32} (hO : SOK S) (hT : quotT x = 0) : SOK (setQ S.1 (tN x), S.2) := by
  unfold quotT at hT
  split at hT
  · rename_i h
    have h := of_decide_eq_true h
    exact hO.V (hO.1.setQ (by unfold tN; omega) (by unfold tN; omega))
  · omega
theorem SOK.week {S : StT} {x : Int32} (hO : SOK S) (hT : roomT S.1 = 0) : SOK (wkV S.1 (goesG S.1 (startP S.1) true x).1, S.2) := by
  unfold roomT at hT
  split at hT
  · rename_i h
    exact hO.V (hO.1.addW h (sok_goes hO.1.n.2 _ (Nat.le_refl _)))
  · omega
theorem SOK.told {S : StT} {x : Int32} (hO : SOK S) (hT : toldT S.1 x = 0) : SOK (wkV S.1 x, S.2) := by
  unfold toldT at hT
  split at hT
  · rename_i h
    split at hT
    · rename_i g
      exact hO.V (hO.1.addW h (isSet_sok hO.1 g))
    · omega
  · omega
theorem SOK.back {S : StT} {n : Nat} (hO : SOK S) : SOK (bkV S.1 n, S.2) := hO.V hO.1.bk
theorem SOK.tray {S : StT} {x y z : Int32} (hO : SOK S) (hT : trayT x y z = 0) : SOK (S.1, layV S.2.1 (tN x) y z, S.2.2) := by
  unfold trayT at hT
  split at hT
  · split at hT
    · rename_i g
      exact hO.T (hO.2.1.lay g.1 g.2)
    · omega
  · omega
theorem SOK.write {S : StT} {t p : Nat} {v : Int64} (hO : SOK S) : SOK (S.1, putV S.2.1 t p v, S.2.2) := hO.T (hO.2.1.same1 rfl rfl)
theorem pourV_1 {T : TT} {V : VT} {t : Nat} : ∀ n, (pourV T V t n).1 = T.1 ∧ (pourV T V t n).2.1 = T.2.1
  | 0 => ⟨rfl, rfl⟩
  | n + 1 => pourV_1 n
theorem SOK.pour {S : StT} {t n : Nat} (hO : SOK S) : SOK (S.1, pourV S.2.1 S.1 t n, S.2.2) := hO.T (hO.2.1.same1 (pourV_1 n).1 (pourV_1 n).2)
theorem SOK.image {S : StT} {t : Nat} (hO : SOK S) : SOK (S.1, S.2.1, imgV S.2.2.1 S.1 t, S.2.2.2) := ⟨hO.1, hO.2.1, fun j hj h => by
  have h : (if j = t then true else S.2.2.1.1 j) = true := h
  show VOK (if j = t then S.1 else S.2.2.1.2 j)
  by_cases e : j = t
  · rw [if_pos e]; exact hO.1
  · rw [if_neg e] at h ⊢
    exact hO.2.2.1 j hj h, hO.2.2.2⟩
theorem SOK.restore {S : StT} {x : Int32} (hO : SOK S) (hT : resT S.2.2.1 x = 0) : SOK (resV S.2.2.1 S.1 (tN x), S.2) := by
  unfold resT at hT
  split at hT
  · rename_i h
    split at hT
    · rename_i g
      exact hO.V ((hO.2.2.1 _ (im_3 h).2 g).congr (fun k hk => if_pos hk))
    · omega
  · omega
theorem SOK.feed {S : StT} {a b c e f : Int32} (hO : SOK S) : SOK (S.1, S.2.1, S.2.2.1, feedV S.2.2.2.1 a b c e f, S.2.2.2.2) := by
  refine ⟨hO.1, hO.2.1, hO.2.2.1, ?_, fun k => ?_⟩
  · show (feedV S.2.2.2.1 a b c e f).2 ≤ 700
    unfold feedV
    split
    · assumption
    · exact hO.2.2.2.1
  · show (feedV S.2.2.2.1 a b c e f).1 k < 256
    unfold feedV
    split
    · unfold fedV
      show (if _ then _ else _) < 256
      split
      · exact byN_lt _ _
      · exact hO.2.2.2.2 k
    · exact hO.2.2.2.2 k
