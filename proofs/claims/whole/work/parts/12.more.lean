/-! ===== steps: constants of the old heap, making, returns, switches ===== -/
theorem RA_one {s : State} {a b : ClassId} {ty : FieldType} (h1 : va_RA s a ty) (h2 : va_RA s b ty) : a = b := by
  cases ty with
  | object C =>
    obtain ⟨_, _, -, -, -, h1⟩ := h1
    obtain ⟨_, _, -, -, -, h2⟩ := h2
    exact Option.some.inj (h1.symm.trans h2)
  | _ => exact Option.some.inj (Eq.trans (Eq.symm h1) h2)
theorem K_last {D : va_G} {cA : Nat → ClassId} {s : State} {c : ClassId} {t : Nat} (ht : t < 7) (hK : va_K D vwCl (tysK cA) s) (h : va_K D vwCl (tysK cA ++ [(c, aty t)]) s) : c = cA t := by
  have hl : (tysK cA).length = 7 := by unfold tysK; simp
  have h1 := (h.2 7 (c, aty t) (by rw [List.getElem?_append_right (by omega), hl]; rfl)).2
  exact RA_one h1 (hK.2 t _ (tysK_at cA ht)).2
def retOK (rt : Option FieldType) (ri : Instr) (v : Option Value) : Prop := (ri = .ireturn ∧ ∃ x, v = some (.int x) ∧ nrw rt x) ∨ (ri = .lreturn ∧ ∃ x, v = some (.long x) ∧ rt = some .long) ∨ (ri = .areturn ∧ ∃ a, v = some (.ref a) ∧ isR rt) ∨ (ri = .return_ ∧ v = none ∧ rt = none)
theorem dflt_at {k j : Nat} (hj : j < nfl.getD k 0) : vp_V (dflt k) j = defaultValue (fty (32 * k + j)) := by
  unfold vp_V dflt
  rw [List.getD_eq_getElem?_getD, List.getElem?_map, List.getElem?_range hj]
  rfl
section SNM
variable {p : Program} {l : Launch} {e : Env} {R : Room} {s : State} {m : MethodId} {args : Array Value} {below : List Frame} {meth : Method} {c : Code} {Z : State → Prop} {D : va_G} {cA : Nat → ClassId} {A : Nat → Prop}
variable {cc : ByteArray} {own : Nat} {isI : Bool} {tr : Nat} {nL : Nat} {sp : List Nat}
variable {call : Nat → List Value → ac_H → ac_P → Prop} {cs : Nat → Nat × Nat} {ga : Nat → Nat} {L : Nat} {xs : Nat → Int32} {sl : Nat → List Int32} {mb : Nat × Nat} {hands : List (Nat × Int)} {rt : Option FieldType} {Q : ac_P} {J : Nat → ac_X}
variable {is : ac_I} {ls : ac_L} {st : List Value} {h : ac_H} {bg : Nat × Nat} {pc n : Nat}

theorem s_faload (hx : p.tables.exec = Jvm.exec) (hb : c.code = cc) (hts : ∀ w ∈ WG, w.before args s = true) (hown : s.vm.findClass (oR own) = some m.cls) (hK : va_K D vwCl (tysK cA) s) (hX : va_X (ga 0) L xs s s.heap) (hbl : ga 0 < s.heap.size) (hbA : ¬ A (ga 0)) (ih : ∀ (pc : Nat) (ls : ac_L) (st : List Value) (h : ac_H) (bg : Nat × Nat), rowOK own isI tr nL sp cc pc is = true → xB call cs ga L xs sl mb hands rt Q J is ls st h bg → xR p l e R s m args below meth c Z D cA A nL mb pc ls st h bg) (hrow : rowOK own isI tr nL sp cc pc ((.faload, n) :: is) = true) (hxb : xB call cs ga L xs sl mb hands rt Q J ((.faload, n) :: is) ls st h bg) : xR p l e R s m args below meth c Z D cA A nL mb pc ls st h bg := by
  obtain ⟨ci, hd, hr, hw⟩ := row_step (ai := .faload) hrow
  simp only [xB] at hxb
  split at hxb
  · obtain ⟨rfl, hin, hxb⟩ := hxb
    intro hbg H locs la hR hS hl
    simp only [rel] at hr
    split at hr
    · rw [beq_iff_eq] at hr
      subst hr
      exact va_sld hx hb hX hbl hbA hS hin hd (ih _ _ _ _ _ hw hxb hbg H locs la hR hS hl)
    · cases hr
  · exact hxb.elim
theorem s_caload (hx : p.tables.exec = Jvm.exec) (hb : c.code = cc) (hts : ∀ w ∈ WG, w.before args s = true) (hown : s.vm.findClass (oR own) = some m.cls) (hK : va_K D vwCl (tysK cA) s) (hX : va_X (ga 0) L xs s s.heap) (hbl : ga 0 < s.heap.size) (hbA : ¬ A (ga 0)) (ih : ∀ (pc : Nat) (ls : ac_L) (st : List Value) (h : ac_H) (bg : Nat × Nat), rowOK own isI tr nL sp cc pc is = true → xB call cs ga L xs sl mb hands rt Q J is ls st h bg → xR p l e R s m args below meth c Z D cA A nL mb pc ls st h bg) (hrow : rowOK own isI tr nL sp cc pc ((.caload, n) :: is) = true) (hxb : xB call cs ga L xs sl mb hands rt Q J ((.caload, n) :: is) ls st h bg) : xR p l e R s m args below meth c Z D cA A nL mb pc ls st h bg := by
  obtain ⟨ci, hd, hr, hw⟩ := row_step (ai := .caload) hrow
  simp only [xB] at hxb
  split at hxb
  · obtain ⟨rfl, hxb⟩ := hxb
    intro hbg H locs la hR hS hl
    simp only [rel] at hr
    split at hr
    · rw [beq_iff_eq] at hr
      subst hr
      exact va_slen hx hb hX hbl hbA hS hd (ih _ _ _ _ _ hw hxb hbg H locs la hR hS hl)
    · cases hr
  · exact hxb.elim
theorem s_daload (hx : p.tables.exec = Jvm.exec) (hb : c.code = cc) (hts : ∀ w ∈ WG, w.before args s = true) (hown : s.vm.findClass (oR own) = some m.cls) (hK : va_K D vwCl (tysK cA) s) (hT : va_T .int (ga 1) 11 (fun j => .int (leastN.getD j 0)) A s s.heap) (ih : ∀ (pc : Nat) (ls : ac_L) (st : List Value) (h : ac_H) (bg : Nat × Nat), rowOK own isI tr nL sp cc pc is = true → xB call cs ga L xs sl mb hands rt Q J is ls st h bg → xR p l e R s m args below meth c Z D cA A nL mb pc ls st h bg) (hrow : rowOK own isI tr nL sp cc pc ((.daload, n) :: is) = true) (hxb : xB call cs ga L xs sl mb hands rt Q J ((.daload, n) :: is) ls st h bg) : xR p l e R s m args below meth c Z D cA A nL mb pc ls st h bg := by
  obtain ⟨ci, hd, hr, hw⟩ := row_step (ai := .daload) hrow
  simp only [xB] at hxb
  split at hxb
  · obtain ⟨rfl, hin, hxb⟩ := hxb
    intro hbg H locs la hR hS hl
    simp only [rel] at hr
    split at hr
    · rw [beq_iff_eq] at hr
      subst hr
      exact va_ti hx hb hT hS hin rfl hd (ih _ _ _ _ _ hw hxb hbg H locs la hR hS hl)
    · cases hr
  · exact hxb.elim
theorem s_saload (hx : p.tables.exec = Jvm.exec) (hb : c.code = cc) (hts : ∀ w ∈ WG, w.before args s = true) (hown : s.vm.findClass (oR own) = some m.cls) (hK : va_K D vwCl (tysK cA) s) (hT : va_T .int (ga 2) 11 (fun j => .int (mostN.getD j 0)) A s s.heap) (ih : ∀ (pc : Nat) (ls : ac_L) (st : List Value) (h : ac_H) (bg : Nat × Nat), rowOK own isI tr nL sp cc pc is = true → xB call cs ga L xs sl mb hands rt Q J is ls st h bg → xR p l e R s m args below meth c Z D cA A nL mb pc ls st h bg) (hrow : rowOK own isI tr nL sp cc pc ((.saload, n) :: is) = true) (hxb : xB call cs ga L xs sl mb hands rt Q J ((.saload, n) :: is) ls st h bg) : xR p l e R s m args below meth c Z D cA A nL mb pc ls st h bg := by
  obtain ⟨ci, hd, hr, hw⟩ := row_step (ai := .saload) hrow
  simp only [xB] at hxb
  split at hxb
  · obtain ⟨rfl, hin, hxb⟩ := hxb
    intro hbg H locs la hR hS hl
    simp only [rel] at hr
    split at hr
    · rw [beq_iff_eq] at hr
      subst hr
      exact va_ti hx hb hT hS hin rfl hd (ih _ _ _ _ _ hw hxb hbg H locs la hR hS hl)
    · cases hr
  · exact hxb.elim
theorem s_getstatic (hx : p.tables.exec = Jvm.exec) (hb : c.code = cc) (hts : ∀ w ∈ WG, w.before args s = true) (hown : s.vm.findClass (oR own) = some m.cls) (hK : va_K D vwCl (tysK cA) s) {k : Nat} (hZ : ∀ k, k < 2 → va_Z RX6 (["LEAST_N", "MOST_N"].getD k "") "[I" (.ref (ga (1 + k))) A s s.heap) (hN : ∀ q ∈ statN, q.2.1 < 2 ∧ va_Nw (.fieldLinkNest (oR q.1) q.2.2 RX6 (["LEAST_N", "MOST_N"].getD q.2.1 "") "[I" RX6) s) (ih : ∀ (pc : Nat) (ls : ac_L) (st : List Value) (h : ac_H) (bg : Nat × Nat), rowOK own isI tr nL sp cc pc is = true → xB call cs ga L xs sl mb hands rt Q J is ls st h bg → xR p l e R s m args below meth c Z D cA A nL mb pc ls st h bg) (hrow : rowOK own isI tr nL sp cc pc ((.getstatic k, n) :: is) = true) (hxb : xB call cs ga L xs sl mb hands rt Q J ((.getstatic k, n) :: is) ls st h bg) : xR p l e R s m args below meth c Z D cA A nL mb pc ls st h bg := by
  obtain ⟨ci, hd, hr, hw⟩ := row_step (ai := .getstatic k) hrow
  simp only [xB] at hxb
  intro hbg H locs la hR hS hl
  simp only [rel] at hr
  split at hr
  · rw [Bool.and_eq_true, beq_iff_eq, Bool.or_eq_true] at hr
    obtain ⟨rfl, hr | hr⟩ := hr
    · obtain ⟨i9, hq⟩ := any3 hr
      have hf := stat_ok _ hq
      exact va_gets hx hb (hZ _ hf.1) hS hown (wg hts hf.2 rfl) (fun _ h => h) hd (ih _ _ _ _ _ hw hxb hbg H locs la hR hS hl)
    · obtain ⟨q, hq, h1⟩ := List.any_eq_true.mp hr
      simp only [Bool.and_eq_true, beq_iff_eq] at h1
      obtain ⟨⟨rfl, rfl⟩, rfl⟩ := h1
      have hf := hN _ hq
      exact va_getsN hx hb (hZ _ hf.1) hS hown (va_Nw.use rfl hf.2) (fun _ h => h) hd (ih _ _ _ _ _ hw hxb hbg H locs la hR hS hl)
  · cases hr
theorem s_ldc (hx : p.tables.exec = Jvm.exec) (hb : c.code = cc) (hts : ∀ w ∈ WG, w.before args s = true) (hown : s.vm.findClass (oR own) = some m.cls) (hK : va_K D vwCl (tysK cA) s) {k : Nat} {tx : Nat → String} (hStr : ∀ q ∈ strTab, vk_R (oR q.1) q.2.1 (tx q.2.2) (ga (3 + q.2.2)) s) (ih : ∀ (pc : Nat) (ls : ac_L) (st : List Value) (h : ac_H) (bg : Nat × Nat), rowOK own isI tr nL sp cc pc is = true → xB call cs ga L xs sl mb hands rt Q J is ls st h bg → xR p l e R s m args below meth c Z D cA A nL mb pc ls st h bg) (hrow : rowOK own isI tr nL sp cc pc ((.ldc k, n) :: is) = true) (hxb : xB call cs ga L xs sl mb hands rt Q J ((.ldc k, n) :: is) ls st h bg) : xR p l e R s m args below meth c Z D cA A nL mb pc ls st h bg := by
  obtain ⟨ci, hd, hr, hw⟩ := row_step (ai := .ldc k) hrow
  simp only [xB] at hxb
  intro hbg H locs la hR hS hl
  simp only [rel] at hr
  split at hr
  · rw [Bool.and_eq_true, beq_iff_eq] at hr
    obtain ⟨rfl, hr⟩ := hr
    obtain ⟨q, hq, h1⟩ := List.any_eq_true.mp hr
    simp only [Bool.and_eq_true, beq_iff_eq] at h1
    obtain ⟨⟨rfl, rfl⟩, rfl⟩ := h1
    exact va_ldcS hx hb hown (hStr _ hq) hd (ih _ _ _ _ _ hw hxb hbg H locs la hR hS hl)
  · cases hr
theorem s_new (hx : p.tables.exec = Jvm.exec) (hb : c.code = cc) (hts : ∀ w ∈ WG, w.before args s = true) (hown : s.vm.findClass (oR own) = some m.cls) (hK : va_K D vwCl (tysK cA) s) {k : Nat} (hRC : mb.1 ≤ R.cells ∧ mb.2 ≤ R.slots) (hA : ∀ q, s.heap.size ≤ q → A q) (ih : ∀ (pc : Nat) (ls : ac_L) (st : List Value) (h : ac_H) (bg : Nat × Nat), rowOK own isI tr nL sp cc pc is = true → xB call cs ga L xs sl mb hands rt Q J is ls st h bg → xR p l e R s m args below meth c Z D cA A nL mb pc ls st h bg) (hrow : rowOK own isI tr nL sp cc pc ((.new k, n) :: is) = true) (hxb : xB call cs ga L xs sl mb hands rt Q J ((.new k, n) :: is) ls st h bg) : xR p l e R s m args below meth c Z D cA A nL mb pc ls st h bg := by
  obtain ⟨ci, hd, hr, hw⟩ := row_step (ai := .new k) hrow
  simp only [xB] at hxb
  obtain ⟨hbb, hxb⟩ := hxb
  intro hbg H locs la hR hS hl
  simp only [rel] at hr
  split at hr
  · rw [Bool.and_eq_true, beq_iff_eq] at hr
    obtain ⟨rfl, hr⟩ := hr
    obtain ⟨i9, hq⟩ := any3 hr
    obtain ⟨hk8, hf⟩ := new_ok _ hq
    obtain ⟨dom, hd1, hP, hD⟩ := id hR
    obtain ⟨C, T, N, ty, c1, c2, c3, c4, c5, c6, c7, c8, c9, c10⟩ := clAll hk8
    subst c2
    have c3 : N = nfl.getD k 0 := c3
    subst c3
    exact va_new hx hb hts c4 ty c7 hown (wg hts hf rfl) (hts _ c9) (hts _ c10) hK hP hD hS hA c1 (fs := dflt k) (fun j hj => by rw [dflt_at hj, c6 j hj]) (Nat.le_trans hbb.1 hRC.1) (Nat.le_trans hbb.2 hRC.2) hd (fun q H1 hP1 hD1 hS1 => by
      obtain ⟨hn, hR1⟩ := xRel.push (c := .inr (k, dflt k)) hd1 rfl hP1 hD1
      exact ih _ _ _ _ _ hw (hxb q hn) hbb H1 locs la hR1 hS1 hl)
  · cases hr

theorem xRel_fresh {h : ac_H} {H : Heap} (hR : xRel D cA A h H) : ∃ q, h q = none := by
  obtain ⟨dom, hd1, hP, hD⟩ := hR
  refine ⟨H.size, ?_⟩
  cases e : h H.size with
  | none => rfl
  | some c =>
    obtain ⟨i, hi⟩ := xRel.at (D := D) (cA := cA) (A := A) (H := H) hd1 e
    exact absurd (hP i _ (cwK_at hi)).lt (Nat.lt_irrefl _)
theorem s_newarray (hx : p.tables.exec = Jvm.exec) (hb : c.code = cc) (hts : ∀ w ∈ WG, w.before args s = true) (hown : s.vm.findClass (oR own) = some m.cls) (hK : va_K D vwCl (tysK cA) s) {ty : ArrayType} (hRC : mb.1 ≤ R.cells ∧ mb.2 ≤ R.slots) (hA : ∀ q, s.heap.size ≤ q → A q) (ih : ∀ (pc : Nat) (ls : ac_L) (st : List Value) (h : ac_H) (bg : Nat × Nat), rowOK own isI tr nL sp cc pc is = true → xB call cs ga L xs sl mb hands rt Q J is ls st h bg → xR p l e R s m args below meth c Z D cA A nL mb pc ls st h bg) (hrow : rowOK own isI tr nL sp cc pc ((.newarray ty, n) :: is) = true) (hxb : xB call cs ga L xs sl mb hands rt Q J ((.newarray ty, n) :: is) ls st h bg) : xR p l e R s m args below meth c Z D cA A nL mb pc ls st h bg := by
  obtain ⟨ci, hd, hr, hw⟩ := row_step (ai := .newarray ty) hrow
  simp only [xB] at hxb
  split at hxb
  · rename_i n0 s1
    obtain ⟨hn0, hn1, hbb, hxb⟩ := hxb
    intro hbg H locs la hR hS hl
    simp only [rel] at hr
    split at hr
    · simp only [Bool.and_eq_true, beq_iff_eq, decide_eq_true_eq] at hr
      obtain ⟨rfl, rfl⟩ := hr
      obtain ⟨dom, hd1, hP, hD⟩ := id hR
      cases ty
      · refine va_newa (atype := .boolean) hx hb (hts _ arC_boolean) rfl hK hP hD hS hA (a0 := (n0.toNatClampNeg, .inl (fun _ => 0))) (fun _ => rfl) hn0 rfl (by show n0.toNatClampNeg * 1 ≤ 536870912; omega) (Nat.le_trans hbb.1 hRC.1) (Nat.le_trans hbb.2 hRC.2) hd (fun q c9 H1 hK1 hP1 hD1 hS1 => ?_)
        have e9 := K_last (t := 2) (by decide) hK hK1
        subst e9
        obtain ⟨hn, hR1⟩ := xRel.push (c := .inl (2, n0.toNatClampNeg, .inl (fun _ => 0))) hd1 rfl hP1 hD1
        exact ih _ _ _ _ _ hw (hxb q hn) hbb H1 locs la hR1 hS1 hl
      · obtain ⟨q, hq⟩ := xRel_fresh hR
        exact (hxb q hq).elim
      · obtain ⟨q, hq⟩ := xRel_fresh hR
        exact (hxb q hq).elim
      · obtain ⟨q, hq⟩ := xRel_fresh hR
        exact (hxb q hq).elim
      · refine va_newa (atype := .byte) hx hb (hts _ arC_byte) rfl hK hP hD hS hA (a0 := (n0.toNatClampNeg, .inl (fun _ => 0))) (fun _ => rfl) hn0 rfl (by show n0.toNatClampNeg * 1 ≤ 536870912; omega) (Nat.le_trans hbb.1 hRC.1) (Nat.le_trans hbb.2 hRC.2) hd (fun q c9 H1 hK1 hP1 hD1 hS1 => ?_)
        have e9 := K_last (t := 3) (by decide) hK hK1
        subst e9
        obtain ⟨hn, hR1⟩ := xRel.push (c := .inl (3, n0.toNatClampNeg, .inl (fun _ => 0))) hd1 rfl hP1 hD1
        exact ih _ _ _ _ _ hw (hxb q hn) hbb H1 locs la hR1 hS1 hl
      · obtain ⟨q, hq⟩ := xRel_fresh hR
        exact (hxb q hq).elim
      · refine va_newa (atype := .int) hx hb (hts _ arC_int) rfl hK hP hD hS hA (a0 := (n0.toNatClampNeg, .inl (fun _ => 0))) (fun _ => rfl) hn0 rfl (by show n0.toNatClampNeg * 4 ≤ 536870912; omega) (Nat.le_trans hbb.1 hRC.1) (Nat.le_trans hbb.2 hRC.2) hd (fun q c9 H1 hK1 hP1 hD1 hS1 => ?_)
        have e9 := K_last (t := 0) (by decide) hK hK1
        subst e9
        obtain ⟨hn, hR1⟩ := xRel.push (c := .inl (0, n0.toNatClampNeg, .inl (fun _ => 0))) hd1 rfl hP1 hD1
        exact ih _ _ _ _ _ hw (hxb q hn) hbb H1 locs la hR1 hS1 hl
      · refine va_newa (atype := .long) hx hb (hts _ arC_long) rfl hK hP hD hS hA (a0 := (n0.toNatClampNeg, .inr (.inl (fun _ => 0)))) (fun _ => rfl) hn0 rfl (by show n0.toNatClampNeg * 8 ≤ 536870912; omega) (Nat.le_trans hbb.1 hRC.1) (Nat.le_trans hbb.2 hRC.2) hd (fun q c9 H1 hK1 hP1 hD1 hS1 => ?_)
        have e9 := K_last (t := 1) (by decide) hK hK1
        subst e9
        obtain ⟨hn, hR1⟩ := xRel.push (c := .inl (1, n0.toNatClampNeg, .inr (.inl (fun _ => 0)))) hd1 rfl hP1 hD1
        exact ih _ _ _ _ _ hw (hxb q hn) hbb H1 locs la hR1 hS1 hl
    · cases hr
  · exact hxb.elim
theorem s_anewarray (hx : p.tables.exec = Jvm.exec) (hb : c.code = cc) (hts : ∀ w ∈ WG, w.before args s = true) (hown : s.vm.findClass (oR own) = some m.cls) (hK : va_K D vwCl (tysK cA) s) {t : Nat} (hO3 : va_AO RX3 s) (hO0 : va_AO RX0 s) (hRC : mb.1 ≤ R.cells ∧ mb.2 ≤ R.slots) (hA : ∀ q, s.heap.size ≤ q → A q) (ih : ∀ (pc : Nat) (ls : ac_L) (st : List Value) (h : ac_H) (bg : Nat × Nat), rowOK own isI tr nL sp cc pc is = true → xB call cs ga L xs sl mb hands rt Q J is ls st h bg → xR p l e R s m args below meth c Z D cA A nL mb pc ls st h bg) (hrow : rowOK own isI tr nL sp cc pc ((.anewarray t, n) :: is) = true) (hxb : xB call cs ga L xs sl mb hands rt Q J ((.anewarray t, n) :: is) ls st h bg) : xR p l e R s m args below meth c Z D cA A nL mb pc ls st h bg := by
  obtain ⟨ci, hd, hr, hw⟩ := row_step (ai := .anewarray t) hrow
  simp only [xB] at hxb
  split at hxb
  · rename_i n0 s1
    obtain ⟨ht, hn0, hn1, hbb, hxb⟩ := hxb
    intro hbg H locs la hR hS hl
    simp only [rel] at hr
    split at hr
    · rw [Bool.and_eq_true, beq_iff_eq] at hr
      obtain ⟨rfl, hr⟩ := hr
      obtain ⟨i9, hq⟩ := any3 hr
      have hf := ana_ok _ hq
      obtain ⟨dom, hd1, hP, hD⟩ := id hR
      rcases ht with rfl | rfl
      · refine va_newq (C := RX3) hx hb hown (wg hts hf rfl) hO3 hK hP hD hS hA hn0 rfl (by omega) (Nat.le_trans hbb.1 hRC.1) (Nat.le_trans hbb.2 hRC.2) hd (fun q c9 H1 hK1 hP1 hD1 hS1 => ?_)
        have e9 := K_last (t := 5) (by decide) hK hK1
        subst e9
        obtain ⟨hn, hR1⟩ := xRel.push (c := .inl (5, n0.toNatClampNeg, .inr (.inr (.inr (.inr (fun _ => none)))))) hd1 rfl hP1 hD1
        exact ih _ _ _ _ _ hw (hxb q hn) hbb H1 locs la hR1 hS1 hl
      · refine va_newq (C := RX0) hx hb hown (wg hts hf rfl) hO0 hK hP hD hS hA hn0 rfl (by omega) (Nat.le_trans hbb.1 hRC.1) (Nat.le_trans hbb.2 hRC.2) hd (fun q c9 H1 hK1 hP1 hD1 hS1 => ?_)
        have e9 := K_last (t := 6) (by decide) hK hK1
        subst e9
        obtain ⟨hn, hR1⟩ := xRel.push (c := .inl (6, n0.toNatClampNeg, .inr (.inr (.inr (.inr (fun _ => none)))))) hd1 rfl hP1 hD1
        exact ih _ _ _ _ _ hw (hxb q hn) hbb H1 locs la hR1 hS1 hl
    · cases hr
  · exact hxb.elim
theorem s_monitorexit (hx : p.tables.exec = Jvm.exec) (hb : c.code = cc) (hts : ∀ w ∈ WG, w.before args s = true) (hown : s.vm.findClass (oR own) = some m.cls) (hK : va_K D vwCl (tysK cA) s) (hRL : 100 ≤ R.locals) (hRF : 1 ≤ R.frames) (hml : c.maxLocals = nL) (ih : ∀ (pc : Nat) (ls : ac_L) (st : List Value) (h : ac_H) (bg : Nat × Nat), rowOK own isI tr nL sp cc pc is = true → xB call cs ga L xs sl mb hands rt Q J is ls st h bg → xR p l e R s m args below meth c Z D cA A nL mb pc ls st h bg) (hrow : rowOK own isI tr nL sp cc pc ((.monitorexit, n) :: is) = true) (hxb : xB call cs ga L xs sl mb hands rt Q J ((.monitorexit, n) :: is) ls st h bg) : xR p l e R s m args below meth c Z D cA A nL mb pc ls st h bg := by
  obtain ⟨ci, hd, hr, hw⟩ := row_step (ai := .monitorexit) hrow
  simp only [xB] at hxb
  split at hxb
  · rename_i a s1
    obtain ⟨hle, hxb⟩ := hxb
    intro hbg H locs la hR hS hl
    simp only [rel] at hr
    split at hr
    · rw [Bool.and_eq_true, beq_iff_eq] at hr
      obtain ⟨rfl, hr⟩ := hr
      obtain ⟨q, hq, h1⟩ := List.any_eq_true.mp hr
      simp only [Bool.and_eq_true, beq_iff_eq] at h1
      obtain ⟨rfl, rfl⟩ := h1
      have hcs := catsum s1
      exact W.objInit hx hb hown (wg hts (obj_ok _ hq) rfl) (hts _ objI) (hts _ objC) rfl (by rw [hml]; exact hl.1) rfl hd hRF (by show 2 * 0 + _ + 12 ≤ _; omega) (ih _ _ _ _ _ hw hxb hbg H locs la hR hS hl)
    · cases hr
  · exact hxb.elim
theorem s_monitorenter (hx : p.tables.exec = Jvm.exec) (hb : c.code = cc) (hts : ∀ w ∈ WG, w.before args s = true) (hown : s.vm.findClass (oR own) = some m.cls) (hK : va_K D vwCl (tysK cA) s) (hRL : 100 ≤ R.locals) (hRF : 1 ≤ R.frames) (hml : c.maxLocals = nL) (ih : ∀ (pc : Nat) (ls : ac_L) (st : List Value) (h : ac_H) (bg : Nat × Nat), rowOK own isI tr nL sp cc pc is = true → xB call cs ga L xs sl mb hands rt Q J is ls st h bg → xR p l e R s m args below meth c Z D cA A nL mb pc ls st h bg) (hrow : rowOK own isI tr nL sp cc pc ((.monitorenter, n) :: is) = true) (hxb : xB call cs ga L xs sl mb hands rt Q J ((.monitorenter, n) :: is) ls st h bg) : xR p l e R s m args below meth c Z D cA A nL mb pc ls st h bg := by
  obtain ⟨ci, hd, hr, hw⟩ := row_step (ai := .monitorenter) hrow
  simp only [xB] at hxb
  split at hxb
  · rename_i n0 dp b0 sp0 a0 s1
    split at hxb
    · rename_i n1 f1 n2 f2 hh1 hh2
      obtain ⟨hle, q1, q2, q3, q4, q5, hxb⟩ := hxb
      intro hbg H locs la hR hS hl
      simp only [rel] at hr
      split at hr
      · rw [Bool.and_eq_true, beq_iff_eq] at hr
        obtain ⟨rfl, hr⟩ := hr
        obtain ⟨q, hq, h1⟩ := List.any_eq_true.mp hr
        simp only [Bool.and_eq_true, beq_iff_eq] at h1
        obtain ⟨rfl, rfl⟩ := h1
        have hcs := catsum s1
        have hnf : nativeFrameWords "java/lang/System" "arraycopy" 5 ≤ 70 := by decide +kernel
        obtain ⟨dom, hd1, hP, hD⟩ := id hR
        obtain ⟨i1, hi1⟩ := xRel.at (D := D) (cA := cA) (A := A) (H := H) hd1 hh1
        obtain ⟨i2, hi2⟩ := xRel.at (D := D) (cA := cA) (A := A) (H := H) hd1 hh2
        exact va_copyi hx hb (by rw [hml]; exact hl.1.symm) hown (wg hts (cpy_ok _ hq) rfl) (hts _ cpyN) (hts _ cpyS) (hts _ cpyI) hK hP hD hS i1 i2 0 0 (by rw [cwK_at hi1, hh1]; rfl) (by rw [cwK_at hi2, hh2]; rfl) (tysK_at cA (by decide)) (tysK_at cA (by decide)) rfl q1 q2 q3 q4 q5 (fun _ _ => rfl) hRF (by omega) hd (fun H1 locs1 hP1 hD1 hS1 => ih _ _ _ _ _ hw hxb hbg H1 locs1 la (xRel.put hd1 hh2 ((cwK_set hD hi2 (.inl (0, n2, .inl _))) ▸ hP1) ((cwK_set hD hi2 (.inl (0, n2, .inl _))) ▸ hD1)) hS1 hl)
      · cases hr
    · exact hxb.elim
  · exact hxb.elim
theorem s_ireturn (hx : p.tables.exec = Jvm.exec) (hb : c.code = cc) (hts : ∀ w ∈ WG, w.before args s = true) (hown : s.vm.findClass (oR own) = some m.cls) (hK : va_K D vwCl (tysK cA) s) (hRet : ∀ (pc : Nat) (h : ac_H) (bg : Nat × Nat) (H : Heap) (locs : List Loc) (la : Array Slot) (v : Option Value) (ri : Instr), decode cc pc = .ok (ri, 1) → retOK rt ri v → Q (.inl v) h → xRel D cA A h H → va_S A s.heap H locs → bgle bg mb → W p l e R s m args below meth c H locs bg.1 bg.2 Z (F0 m pc la v.toList))  (hrow : rowOK own isI tr nL sp cc pc ((.ireturn, n) :: is) = true) (hxb : xB call cs ga L xs sl mb hands rt Q J ((.ireturn, n) :: is) ls st h bg) : xR p l e R s m args below meth c Z D cA A nL mb pc ls st h bg := by
  obtain ⟨ci, hd, hr, hw⟩ := row_step (ai := .ireturn) hrow
  simp only [xB] at hxb
  split at hxb
  · intro hbg H locs la hR hS hl
    obtain ⟨rfl, rfl⟩ := rel_simple hr
    exact hRet pc h bg H locs la (some (.int _)) _ hd (Or.inl ⟨rfl, _, rfl, hxb.1⟩) hxb.2 hR hS hbg
  · exact hxb.elim
theorem s_lreturn (hx : p.tables.exec = Jvm.exec) (hb : c.code = cc) (hts : ∀ w ∈ WG, w.before args s = true) (hown : s.vm.findClass (oR own) = some m.cls) (hK : va_K D vwCl (tysK cA) s) (hRet : ∀ (pc : Nat) (h : ac_H) (bg : Nat × Nat) (H : Heap) (locs : List Loc) (la : Array Slot) (v : Option Value) (ri : Instr), decode cc pc = .ok (ri, 1) → retOK rt ri v → Q (.inl v) h → xRel D cA A h H → va_S A s.heap H locs → bgle bg mb → W p l e R s m args below meth c H locs bg.1 bg.2 Z (F0 m pc la v.toList))  (hrow : rowOK own isI tr nL sp cc pc ((.lreturn, n) :: is) = true) (hxb : xB call cs ga L xs sl mb hands rt Q J ((.lreturn, n) :: is) ls st h bg) : xR p l e R s m args below meth c Z D cA A nL mb pc ls st h bg := by
  obtain ⟨ci, hd, hr, hw⟩ := row_step (ai := .lreturn) hrow
  simp only [xB] at hxb
  split at hxb
  · intro hbg H locs la hR hS hl
    obtain ⟨rfl, rfl⟩ := rel_simple hr
    exact hRet pc h bg H locs la (some (.long _)) _ hd (Or.inr (Or.inl ⟨rfl, _, rfl, hxb.1⟩)) hxb.2 hR hS hbg
  · exact hxb.elim
theorem s_areturn (hx : p.tables.exec = Jvm.exec) (hb : c.code = cc) (hts : ∀ w ∈ WG, w.before args s = true) (hown : s.vm.findClass (oR own) = some m.cls) (hK : va_K D vwCl (tysK cA) s) (hRet : ∀ (pc : Nat) (h : ac_H) (bg : Nat × Nat) (H : Heap) (locs : List Loc) (la : Array Slot) (v : Option Value) (ri : Instr), decode cc pc = .ok (ri, 1) → retOK rt ri v → Q (.inl v) h → xRel D cA A h H → va_S A s.heap H locs → bgle bg mb → W p l e R s m args below meth c H locs bg.1 bg.2 Z (F0 m pc la v.toList))  (hrow : rowOK own isI tr nL sp cc pc ((.areturn, n) :: is) = true) (hxb : xB call cs ga L xs sl mb hands rt Q J ((.areturn, n) :: is) ls st h bg) : xR p l e R s m args below meth c Z D cA A nL mb pc ls st h bg := by
  obtain ⟨ci, hd, hr, hw⟩ := row_step (ai := .areturn) hrow
  simp only [xB] at hxb
  split at hxb
  · intro hbg H locs la hR hS hl
    obtain ⟨rfl, rfl⟩ := rel_simple hr
    exact hRet pc h bg H locs la (some (.ref _)) _ hd (Or.inr (Or.inr (Or.inl ⟨rfl, _, rfl, hxb.1⟩))) hxb.2 hR hS hbg
  · exact hxb.elim
theorem s_return_ (hx : p.tables.exec = Jvm.exec) (hb : c.code = cc) (hts : ∀ w ∈ WG, w.before args s = true) (hown : s.vm.findClass (oR own) = some m.cls) (hK : va_K D vwCl (tysK cA) s) (hRet : ∀ (pc : Nat) (h : ac_H) (bg : Nat × Nat) (H : Heap) (locs : List Loc) (la : Array Slot) (v : Option Value) (ri : Instr), decode cc pc = .ok (ri, 1) → retOK rt ri v → Q (.inl v) h → xRel D cA A h H → va_S A s.heap H locs → bgle bg mb → W p l e R s m args below meth c H locs bg.1 bg.2 Z (F0 m pc la v.toList))  (hrow : rowOK own isI tr nL sp cc pc ((.return_, n) :: is) = true) (hxb : xB call cs ga L xs sl mb hands rt Q J ((.return_, n) :: is) ls st h bg) : xR p l e R s m args below meth c Z D cA A nL mb pc ls st h bg := by
  obtain ⟨ci, hd, hr, hw⟩ := row_step (ai := .return_) hrow
  simp only [xB] at hxb
  split at hxb
  · intro hbg H locs la hR hS hl
    obtain ⟨rfl, rfl⟩ := rel_simple hr
    exact hRet pc h bg H locs la (none) _ hd (Or.inr (Or.inr (Or.inr ⟨rfl, rfl, hxb.1⟩))) hxb.2 hR hS hbg
  · exact hxb.elim
theorem zip_at {α : Type} {P : α × α → Bool} : ∀ (a b : List α), (a.zip b).all P = true → ∀ (j : Nat) (x y : α), a[j]? = some x → b[j]? = some y → P (x, y) = true
  | [], _, _, j, x, y, h, _ => by simp at h
  | _ :: _, [], _, j, x, y, _, h => by simp at h
  | u :: a, v :: b, hz, 0, x, y, h1, h2 => by
    simp only [List.zip_cons_cons, List.all_cons, Bool.and_eq_true] at hz
    cases h1; cases h2
    exact hz.1
  | u :: a, v :: b, hz, j + 1, x, y, h1, h2 => by
    simp only [List.zip_cons_cons, List.all_cons, Bool.and_eq_true] at hz
    exact zip_at a b hz.2 j x y h1 h2
theorem s_tableswitch (hx : p.tables.exec = Jvm.exec) (hb : c.code = cc) (hts : ∀ w ∈ WG, w.before args s = true) (hown : s.vm.findClass (oR own) = some m.cls) (hK : va_K D vwCl (tysK cA) s) {d lo hi : Int} {os : Array Int} (hJ : ∀ (b t : Nat), sp[b]? = some t → ∀ ls st h bg, J b ls st h bg → xR p l e R s m args below meth c Z D cA A nL mb t ls st h bg)  (hrow : rowOK own isI tr nL sp cc pc ((.tableswitch d lo hi os, n) :: is) = true) (hxb : xB call cs ga L xs sl mb hands rt Q J ((.tableswitch d lo hi os, n) :: is) ls st h bg) : xR p l e R s m args below meth c Z D cA A nL mb pc ls st h bg := by
  obtain ⟨ci, hd, hr, hw⟩ := row_step (ai := .tableswitch d lo hi os) hrow
  simp only [xB] at hxb
  split at hxb
  · rename_i x s1
    split at hxb
    · rename_i b9 hb9
      intro hbg H locs la hR hS hl
      simp only [rel] at hr
      split at hr
      · rename_i d2 lo2 hi2 os2
        simp only [Bool.and_eq_true, beq_iff_eq] at hr
        obtain ⟨⟨⟨⟨rfl, rfl⟩, hjd⟩, hsz⟩, hz⟩ := hr
        unfold tsel at hb9
        split at hb9
        · rename_i hout
          cases hb9
          obtain ⟨t, ht, hto⟩ := jOK_at hjd
          exact lv_tableOut hx hb hd hout hto (hJ _ _ ht _ _ _ _ hxb hbg H locs la hR hS hl)
        · rename_i hin
          have h1 : ¬ x.toInt < lo := fun q => hin (Or.inl q)
          have h2 : ¬ hi < x.toInt := fun q => hin (Or.inr q)
          have hlt : (x.toInt - lo).toNat < os2.size := by
            rw [← hsz]
            exact (Array.getElem?_eq_some_iff.mp hb9).1
          have ho2 : os2[(x.toInt - lo).toNat]? = some os2[(x.toInt - lo).toNat] := Array.getElem?_eq_getElem hlt
          have hj := zip_at os.toList os2.toList hz _ _ _ (by rw [Array.getElem?_toList]; exact hb9) (by rw [Array.getElem?_toList]; exact ho2)
          obtain ⟨t, ht, hto⟩ := jOK_at hj
          exact lv_tableIn hx hb hd h1 h2 ho2 hto (hJ _ _ ht _ _ _ _ hxb hbg H locs la hR hS hl)
      · cases hr
    · exact hxb.elim
  · exact hxb.elim
theorem look_at {sp : List Nat} {pc : Nat} {d d2 : Int} (hd : jOK sp pc d d2 = true) (x : Int) : ∀ (a b : List (Int × Int)), a.length = b.length → (a.zip b).all (fun q => q.1.1 == q.2.1 && jOK sp pc q.1.2 q.2.2) = true → jOK sp pc (Op.lookupswitch.offset a d x) (Op.lookupswitch.offset b d2 x) = true
  | [], [], _, _ => hd
  | [], _ :: _, h, _ => by simp at h
  | _ :: _, [], h, _ => by simp at h
  | (u, v) :: a, (u2, v2) :: b, hl, hz => by
    simp only [List.zip_cons_cons, List.all_cons, Bool.and_eq_true, beq_iff_eq] at hz
    obtain ⟨⟨e, hv⟩, hz⟩ := hz
    subst e
    rw [Op.lookupswitch.offset_cons, Op.lookupswitch.offset_cons]
    split
    · exact hv
    · exact look_at hd x a b (by simpa using hl) hz
theorem s_lookupswitch (hx : p.tables.exec = Jvm.exec) (hb : c.code = cc) (hts : ∀ w ∈ WG, w.before args s = true) (hown : s.vm.findClass (oR own) = some m.cls) (hK : va_K D vwCl (tysK cA) s) {d : Int} {ps : Array (Int × Int)} (hJ : ∀ (b t : Nat), sp[b]? = some t → ∀ ls st h bg, J b ls st h bg → xR p l e R s m args below meth c Z D cA A nL mb t ls st h bg)  (hrow : rowOK own isI tr nL sp cc pc ((.lookupswitch d ps, n) :: is) = true) (hxb : xB call cs ga L xs sl mb hands rt Q J ((.lookupswitch d ps, n) :: is) ls st h bg) : xR p l e R s m args below meth c Z D cA A nL mb pc ls st h bg := by
  obtain ⟨ci, hd, hr, hw⟩ := row_step (ai := .lookupswitch d ps) hrow
  simp only [xB] at hxb
  split at hxb
  · rename_i x s1
    intro hbg H locs la hR hS hl
    simp only [rel] at hr
    split at hr
    · rename_i d2 ps2
      simp only [Bool.and_eq_true, beq_iff_eq] at hr
      obtain ⟨⟨⟨hjd, hso⟩, hsz⟩, hz⟩ := hr
      have hj := look_at hjd x.toInt ps.toList ps2.toList (by simpa using hsz) (by simpa using hz)
      obtain ⟨t, ht, hto⟩ := jOK_at hj
      exact lv_lookup hx hb hd hso rfl hto (hJ _ _ ht _ _ _ _ hxb hbg H locs la hR hS hl)
    · cases hr
  · exact hxb.elim
end SNM
