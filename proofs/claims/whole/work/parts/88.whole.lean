/-! ===== from the law's entry to its end ===== -/
theorem xRel_nil {D : va_G} {cA : Nat → ClassId} {A : Nat → Prop} {H : Heap} : xRel D cA A (fun _ => none) H := ⟨[], fun a => ⟨fun h => absurd rfl h, fun h => nomatch h⟩, fun k q h => by simp [cwK] at h, fun i j p q h => by simp [cwK] at h, fun k q h => by simp [cwK] at h⟩
set_option maxHeartbeats 4000000 in
theorem whole_start {p : Program} {e : Env} {s : State} {m : MethodId} {below : List Frame} {meth : Method} {c : Code} (l : Launch) (hflags : l.flags = flags0) {b L : Nat} {xs : Nat → Int32} (hL : L ≤ 3072) (C0 : lw_At p s m meth c b L xs) : W p l e room_1 s m #[Value.ref b] below meth c s.heap [] 0 0 (lw_Z below #[Value.ref b] s) (entryFrame m ([Value.ref b] : List Value).toArray 8) := by
  have hlt : l.stackTraces = false := by
    unfold Launch.stackTraces
    rw [hflags]
    decide +kernel
  obtain ⟨D, cA, ga, adV, g0, hG⟩ := start_GB C0
  obtain ⟨hx, hb, hr, hml, hown, hts0, -, -, hlocks, hgv⟩ := id C0
  clear C0
  subst g0
  have hts : ∀ w ∈ WG, w.before #[Value.ref (ga 0)] s = true := fun w h9 => hts0 w (List.mem_filter.mp h9).1
  have hno : ∀ (k : Nat) (h : ac_H), ¬ LQ (.inr k) h := fun k h q => by cases (show (Sum.inr k : _ ⊕ Nat) = Sum.inl _ from q)
  have hall := xB_all (p := p) (l := l) (e := e) (R := room_1) (s := s) (m := m) (args := #[Value.ref (ga 0)]) (below := below) (meth := meth) (c := c) (Z := lw_Z below #[Value.ref (ga 0)] s) (D := D) (cA := cA) (A := fun q : Nat => s.heap.size ≤ q) (cc := code) (own := 8) (isI := false) (tr := 0) (nL := 8) (sp := stLw) (call := WP ga L xs (0 + 16)) (ga := ga) (L := L) (xs := xs) (mb := LMB) (hands := []) (rt := ret) (Q := LQ) (adV := adV)
    (J := fun b ls st h bg => ∃ t, stLw[b]? = some t ∧ xR p l e room_1 s m #[Value.ref (ga 0)] below meth c (lw_Z below #[Value.ref (ga 0)] s) D cA (fun q : Nat => s.heap.size ≤ q) 8 LMB t ls st h bg)
    hx hb hts hown hG.1 hG.2.1.1 hG.2.1.2.1 hG.2.1.2.2 hG.2.2.1.1 hG.2.2.1.2 hG.2.2.2.1 hG.2.2.2.2.1 hG.2.2.2.2.2.1 hG.2.2.2.2.2.2.1 hG.2.2.2.2.2.2.2.1.1 hG.2.2.2.2.2.2.2.1.2.1 hG.2.2.2.2.2.2.2.1.2.2 hG.2.2.2.2.2.2.2.2.1
    (fun hi => by cases hi) (show 200 ≤ 84000 by decide) (show 8 ≤ 2048 by decide)
    (GB := GBt D cA (fun q : Nat => s.heap.size ≤ q) ga adV L xs) (F := 8 + (0 + 16)) (Lc := 200 + 64 * (0 + 16))
    (fun H locs U hS hU hW => hG.moved hW (by rw [hU]; exact hS.1) (fun a h1 h2 => by rw [hU]; exact hS.2.1 a h1 h2)) (fun a U g mk hU => hU.calling)
    ⟨show 8 + (0 + 16) + 1 ≤ 2048 by decide, fun md9 hm9 => by have := (m_own md9 hm9).2.1; show 8 + (mL md9 + 11) + (200 + 64 * (0 + 16)) ≤ 84000; omega⟩ ⟨Nat.le_refl _, Nat.le_refl _⟩ hml hG.2.2.2.2.2.2.2.2.2.1
    (fun k9 md9 as9 h9 P9 e9 w9 => sound hlt (0 + 16) k9 md9 as9 h9 P9 e9 w9)
    (fun k pc h bg H locs la rest q ce hk htr hP hR hS hbb hla hce hcv hcl => (hno k h hP).elim)
    (fun k ik ic i pc h bg H locs la st hq d0 d3 d4 d7 htr hbb hst hk hP hR hS hla => (hno k h hP).elim)
    (fun pc h bg H locs la v ri hd hv hP hR hS hbb => by
      have hP : (Sum.inl v : Option Value ⊕ Nat) = .inl (some (.int (kI 1))) := hP
      cases hP
      rcases hv with ⟨rfl, -⟩ | ⟨-, x, h9, -⟩ | ⟨-, x, h9, -⟩ | ⟨-, h9, -⟩
      · exact W.widen hbb.1 hbb.2 (va_forget hS.2.2 (lw_ret hx hb hr hlocks hd))
      · cases h9
      · cases h9
      · cases h9)
    (fun b t hb ls st h bg hJ => by
      obtain ⟨t9, e9, hX⟩ := hJ
      cases Option.some.inj (hb.symm.trans e9)
      exact hX)
  obtain ⟨t, ht, hX⟩ := law_abs (ga := ga) (L := L) (xs := xs) (d := 0) (J := fun b ls st h bg => ∃ t, stLw[b]? = some t ∧ xR p l e room_1 s m #[Value.ref (ga 0)] below meth c (lw_Z below #[Value.ref (ga 0)] s) D cA (fun q : Nat => s.heap.size ≤ q) 8 LMB t ls st h bg)
    (fun b pb is hb ls st h bg hxb => ⟨pb, starts_at hb, hall is pb ls st h bg (ckLaw _ (List.mem_of_getElem? hb)) hxb⟩) hL
  have ht0 : stLw[0]? = some 0 := by decide +kernel
  cases Option.some.inj (ht.symm.trans ht0)
  have hl := lv_entry [Value.ref (ga 0)] (n := 8) (Nat.le_of_ble_eq_true rfl)
  rw [lg_entry_eq]
  exact hX ⟨Nat.zero_le _, Nat.zero_le _⟩ s.heap [] _ xRel_nil va_S.rf (lv_ent hl)
