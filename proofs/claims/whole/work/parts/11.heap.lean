/-! ===== steps that look at the heap ===== -/
theorem gF_at {k : Nat} {h : ac_H} {a : Nat} {v : Value} (hg : gF k h a = some v) : ∃ fs, h a = some (.inr (k / 32, fs)) ∧ fs[k % 32]? = some v := by
  unfold gF at hg
  split at hg
  · rename_i c fs hh
    split at hg
    · rename_i e
      subst e
      exact ⟨fs, hh, hg⟩
    · cases hg
  · cases hg
theorem pF_at {k : Nat} {h h1 : ac_H} {a : Nat} {v : Value} (hg : pF k h a v = some h1) : ∃ fs, h a = some (.inr (k / 32, fs)) ∧ k % 32 < fs.length ∧ h1 = hup h a (.inr (k / 32, fs.set (k % 32) v)) := by
  unfold pF at hg
  split at hg
  · rename_i c fs hh
    split at hg
    · rename_i e
      obtain ⟨e, hl⟩ := e
      subst e
      exact ⟨fs, hh, hl, (Option.some.inj hg).symm⟩
    · cases hg
  · cases hg
theorem catsum : ∀ l : List Value, (l.map fun v => v.category).sum ≤ 2 * l.length
  | [] => by simp
  | v :: l => by
    have h1 := catsum l
    have h2 : v.category ≤ 2 := by rcases lv_cat v with h | h <;> omega
    simp only [List.map_cons, List.sum_cons, List.length_cons]
    omega
theorem any3 {own k j : Nat} {T : List (Nat × Nat × Nat × Nat)} (h : (T.any (fun q => q.1 == own && q.2.1 == k && q.2.2.1 == j)) = true) : ∃ i, (own, k, j, i) ∈ T := by
  obtain ⟨q, hq, h1⟩ := List.any_eq_true.mp h
  simp only [Bool.and_eq_true, beq_iff_eq] at h1
  obtain ⟨⟨rfl, rfl⟩, rfl⟩ := h1
  exact ⟨_, hq⟩
section SNH
variable {p : Program} {l : Launch} {e : Env} {R : Room} {s : State} {m : MethodId} {args : Array Value} {below : List Frame} {meth : Method} {c : Code} {Z : State → Prop} {D : va_G} {cA : Nat → ClassId} {A : Nat → Prop}
variable {cc : ByteArray} {own : Nat} {isI : Bool} {tr : Nat} {nL : Nat} {sp : List Nat}
variable {call : Nat → List Value → ac_H → ac_P → Prop} {cs : Nat → Nat × Nat} {ga : Nat → Nat} {L : Nat} {xs : Nat → Int32} {sl : Nat → List Int32} {mb : Nat × Nat} {hands : List (Nat × Int)} {rt : Option FieldType} {Q : ac_P} {J : Nat → ac_X}
variable {is : ac_I} {ls : ac_L} {st : List Value} {h : ac_H} {bg : Nat × Nat} {pc n : Nat}

theorem s_getfield (hx : p.tables.exec = Jvm.exec) (hb : c.code = cc) (hts : ∀ w ∈ WG, w.before args s = true) (hown : s.vm.findClass (oR own) = some m.cls) (hK : va_K D vwCl (tysK cA) s) {k : Nat} (ih : ∀ (pc : Nat) (ls : ac_L) (st : List Value) (h : ac_H) (bg : Nat × Nat), rowOK own isI tr nL sp cc pc is = true → xB call cs ga L xs sl mb hands rt Q J is ls st h bg → xR p l e R s m args below meth c Z D cA A nL mb pc ls st h bg) (hrow : rowOK own isI tr nL sp cc pc ((.getfield k, n) :: is) = true) (hxb : xB call cs ga L xs sl mb hands rt Q J ((.getfield k, n) :: is) ls st h bg) : xR p l e R s m args below meth c Z D cA A nL mb pc ls st h bg := by
  obtain ⟨ci, hd, hr, hw⟩ := row_step (ai := .getfield k) hrow
  simp only [xB] at hxb
  split at hxb
  · split at hxb
    · rename_i v hg
      intro hbg H locs la hR hS hl
      simp only [rel] at hr
      split at hr
      · rw [Bool.and_eq_true, beq_iff_eq] at hr
        obtain ⟨rfl, hr⟩ := hr
        obtain ⟨i9, hq⟩ := any3 hr
        have hf := fld_ok _ hq
        have hf2 := fld_ok2 _ hq
        obtain ⟨fs, hh, hv⟩ := gF_at hg
        obtain ⟨dom, hd1, hP, hD⟩ := id hR
        obtain ⟨i, hi⟩ := xRel.at (D := D) (cA := cA) (A := A) (H := H) hd1 hh
        obtain ⟨C, T, N, ty, c1, c2, c3, c4, c5, c6, c7, c8, c9, c10⟩ := clAll hf2.1
        have hk : k % 32 < N := by rw [c3]; exact hf2.2.1
        have eT : T (k % 32) = fT k := by rw [c5 _ hk, Nat.div_add_mod]
        exact va_get (ref := (fT k).1) hx hb hts c4 hown hK hP i (by rw [cwK_at hi, hh]; rfl) c1 (k % 32) hk (by rw [eT]; exact wg hts hf rfl) (by rw [eT]; exact fun _ h => h) hv hd (ih _ _ _ _ _ hw hxb hbg H locs la hR hS hl)
      · cases hr
    · exact hxb.elim
  · exact hxb.elim
theorem s_putfield (hx : p.tables.exec = Jvm.exec) (hb : c.code = cc) (hts : ∀ w ∈ WG, w.before args s = true) (hown : s.vm.findClass (oR own) = some m.cls) (hK : va_K D vwCl (tysK cA) s) {k : Nat} (hI : isI = true → meth.name = "<init>") (ih : ∀ (pc : Nat) (ls : ac_L) (st : List Value) (h : ac_H) (bg : Nat × Nat), rowOK own isI tr nL sp cc pc is = true → xB call cs ga L xs sl mb hands rt Q J is ls st h bg → xR p l e R s m args below meth c Z D cA A nL mb pc ls st h bg) (hrow : rowOK own isI tr nL sp cc pc ((.putfield k, n) :: is) = true) (hxb : xB call cs ga L xs sl mb hands rt Q J ((.putfield k, n) :: is) ls st h bg) : xR p l e R s m args below meth c Z D cA A nL mb pc ls st h bg := by
  obtain ⟨ci, hd, hr, hw⟩ := row_step (ai := .putfield k) hrow
  simp only [xB] at hxb
  split at hxb
  · rename_i v a s1
    obtain ⟨hok, hxb⟩ := hxb
    split at hxb
    · rename_i h1 hp
      intro hbg H locs la hR hS hl
      simp only [rel] at hr
      split at hr
      · rw [Bool.and_eq_true, Bool.and_eq_true, beq_iff_eq] at hr
        obtain ⟨⟨rfl, hr⟩, hfi⟩ := hr
        obtain ⟨i9, hq⟩ := any3 hr
        have hf := fld_ok _ hq
        have hf2 := fld_ok2 _ hq
        obtain ⟨fs, hh, hlen, rfl⟩ := pF_at hp
        obtain ⟨dom, hd1, hP, hD⟩ := id hR
        obtain ⟨i, hi⟩ := xRel.at (D := D) (cA := cA) (A := A) (H := H) hd1 hh
        obtain ⟨C, T, N, ty, c1, c2, c3, c4, c5, c6, c7, c8, c9, c10⟩ := clAll hf2.1
        have hk : k % 32 < N := by rw [c3]; exact hf2.2.1
        have eT : T (k % 32) = fT k := by rw [c5 _ hk, Nat.div_add_mod]
        have eY : ty (k % 32) = fty k := by rw [c6 _ hk, Nat.div_add_mod]
        have hgo : ∀ (H1 : Heap) (locs1 : List Loc), va_P D vwCl ((cwK cA h dom).set i (a, .inr (k / 32, fs.set (k % 32) v))) H1 → va_D A ((cwK cA h dom).set i (a, .inr (k / 32, fs.set (k % 32) v))) → va_S A s.heap H1 locs1 → W p l e R s m args below meth c H1 locs1 bg.1 bg.2 Z (F0 m (pc + 3) la s1) := by
          intro H1 locs1 hP1 hD1 hS1
          have e := cwK_set hD hi (.inr (k / 32, fs.set (k % 32) v))
          exact ih _ _ _ _ _ hw hxb hbg H1 locs1 la (xRel.put hd1 hh (e ▸ hP1) (e ▸ hD1)) hS1 hl
        cases hfin : (fT k).2.2.2 with
        | false => exact va_put (ref := (fT k).1) hx hb hts c4 ty c7 c8 hown hK hP hD hS i (by rw [cwK_at hi, hh]; rfl) c1 (k % 32) hk (by rw [eT]; exact wg hts hf rfl) (by rw [eT]; exact fun _ h => h) (by rw [eT]; exact hfin) (ty := ty (k % 32)) (c7 _ hk) (by rw [eY]; exact hok.1) (by rw [eY]; exact hok.2) hlen hd hgo
        | true =>
          rw [hfin] at hfi
          simp only [Bool.not_true, Bool.false_or, Bool.and_eq_true, beq_iff_eq] at hfi
          exact va_putF (ref := (fT k).1) hx hb hts c4 ty c7 c8 hown hK hP hD hS i (by rw [cwK_at hi, hh]; rfl) c1 (k % 32) hk (by rw [eT]; exact wg hts hf rfl) (by rw [eT]; exact fun _ h => h) (by rw [eT]; exact hfin) (hI hfi.1) (by rw [eT, hf2.2.2, hfi.2]) (ty := ty (k % 32)) (c7 _ hk) (by rw [eY]; exact hok.1) (by rw [eY]; exact hok.2) hlen hd hgo
      · cases hr
    · exact hxb.elim
  · exact hxb.elim
theorem s_iaload (hx : p.tables.exec = Jvm.exec) (hb : c.code = cc) (hts : ∀ w ∈ WG, w.before args s = true) (hown : s.vm.findClass (oR own) = some m.cls) (hK : va_K D vwCl (tysK cA) s)  (ih : ∀ (pc : Nat) (ls : ac_L) (st : List Value) (h : ac_H) (bg : Nat × Nat), rowOK own isI tr nL sp cc pc is = true → xB call cs ga L xs sl mb hands rt Q J is ls st h bg → xR p l e R s m args below meth c Z D cA A nL mb pc ls st h bg) (hrow : rowOK own isI tr nL sp cc pc ((.iaload, n) :: is) = true) (hxb : xB call cs ga L xs sl mb hands rt Q J ((.iaload, n) :: is) ls st h bg) : xR p l e R s m args below meth c Z D cA A nL mb pc ls st h bg := by
  obtain ⟨ci, hd, hr, hw⟩ := row_step (ai := .iaload) hrow
  simp only [xB] at hxb
  split at hxb
  · split at hxb
    · rename_i hh
      intro hbg H locs la hR hS hl
      obtain ⟨rfl, rfl⟩ := rel_simple hr
      obtain ⟨dom, hd1, hP, hD⟩ := id hR
      obtain ⟨i9, hi⟩ := xRel.at (D := D) (cA := cA) (A := A) (H := H) hd1 hh
      exact va_iald hx hb hK hP i9 0 (by rw [cwK_at hi, hh]; rfl) (tysK_at cA (by decide)) hxb.1 hd (ih _ _ _ _ _ hw hxb.2 hbg H locs la hR hS hl)
    · exact hxb.elim
  · exact hxb.elim
theorem s_laload (hx : p.tables.exec = Jvm.exec) (hb : c.code = cc) (hts : ∀ w ∈ WG, w.before args s = true) (hown : s.vm.findClass (oR own) = some m.cls) (hK : va_K D vwCl (tysK cA) s)  (ih : ∀ (pc : Nat) (ls : ac_L) (st : List Value) (h : ac_H) (bg : Nat × Nat), rowOK own isI tr nL sp cc pc is = true → xB call cs ga L xs sl mb hands rt Q J is ls st h bg → xR p l e R s m args below meth c Z D cA A nL mb pc ls st h bg) (hrow : rowOK own isI tr nL sp cc pc ((.laload, n) :: is) = true) (hxb : xB call cs ga L xs sl mb hands rt Q J ((.laload, n) :: is) ls st h bg) : xR p l e R s m args below meth c Z D cA A nL mb pc ls st h bg := by
  obtain ⟨ci, hd, hr, hw⟩ := row_step (ai := .laload) hrow
  simp only [xB] at hxb
  split at hxb
  · split at hxb
    · rename_i hh
      intro hbg H locs la hR hS hl
      obtain ⟨rfl, rfl⟩ := rel_simple hr
      obtain ⟨dom, hd1, hP, hD⟩ := id hR
      obtain ⟨i9, hi⟩ := xRel.at (D := D) (cA := cA) (A := A) (H := H) hd1 hh
      exact va_lald hx hb hK hP i9 1 (by rw [cwK_at hi, hh]; rfl) (tysK_at cA (by decide)) hxb.1 hd (ih _ _ _ _ _ hw hxb.2 hbg H locs la hR hS hl)
    · exact hxb.elim
  · exact hxb.elim
theorem s_baload (hx : p.tables.exec = Jvm.exec) (hb : c.code = cc) (hts : ∀ w ∈ WG, w.before args s = true) (hown : s.vm.findClass (oR own) = some m.cls) (hK : va_K D vwCl (tysK cA) s)  (ih : ∀ (pc : Nat) (ls : ac_L) (st : List Value) (h : ac_H) (bg : Nat × Nat), rowOK own isI tr nL sp cc pc is = true → xB call cs ga L xs sl mb hands rt Q J is ls st h bg → xR p l e R s m args below meth c Z D cA A nL mb pc ls st h bg) (hrow : rowOK own isI tr nL sp cc pc ((.baload, n) :: is) = true) (hxb : xB call cs ga L xs sl mb hands rt Q J ((.baload, n) :: is) ls st h bg) : xR p l e R s m args below meth c Z D cA A nL mb pc ls st h bg := by
  obtain ⟨ci, hd, hr, hw⟩ := row_step (ai := .baload) hrow
  simp only [xB] at hxb
  split at hxb
  · split at hxb
    · rename_i hh
      intro hbg H locs la hR hS hl
      obtain ⟨rfl, rfl⟩ := rel_simple hr
      obtain ⟨dom, hd1, hP, hD⟩ := id hR
      obtain ⟨i9, hi⟩ := xRel.at (D := D) (cA := cA) (A := A) (H := H) hd1 hh
      exact va_zald hx hb hK hP i9 2 (by rw [cwK_at hi, hh]; rfl) (tysK_at cA (by decide)) hxb.1 hd (ih _ _ _ _ _ hw hxb.2 hbg H locs la hR hS hl)
    · rename_i hh
      intro hbg H locs la hR hS hl
      obtain ⟨rfl, rfl⟩ := rel_simple hr
      obtain ⟨dom, hd1, hP, hD⟩ := id hR
      obtain ⟨i9, hi⟩ := xRel.at (D := D) (cA := cA) (A := A) (H := H) hd1 hh
      exact va_bald hx hb hK hP i9 3 (by rw [cwK_at hi, hh]; rfl) (tysK_at cA (by decide)) hxb.1 hd (ih _ _ _ _ _ hw hxb.2 hbg H locs la hR hS hl)
    · exact hxb.elim
  · exact hxb.elim
theorem s_iastore (hx : p.tables.exec = Jvm.exec) (hb : c.code = cc) (hts : ∀ w ∈ WG, w.before args s = true) (hown : s.vm.findClass (oR own) = some m.cls) (hK : va_K D vwCl (tysK cA) s)  (ih : ∀ (pc : Nat) (ls : ac_L) (st : List Value) (h : ac_H) (bg : Nat × Nat), rowOK own isI tr nL sp cc pc is = true → xB call cs ga L xs sl mb hands rt Q J is ls st h bg → xR p l e R s m args below meth c Z D cA A nL mb pc ls st h bg) (hrow : rowOK own isI tr nL sp cc pc ((.iastore, n) :: is) = true) (hxb : xB call cs ga L xs sl mb hands rt Q J ((.iastore, n) :: is) ls st h bg) : xR p l e R s m args below meth c Z D cA A nL mb pc ls st h bg := by
  obtain ⟨ci, hd, hr, hw⟩ := row_step (ai := .iastore) hrow
  simp only [xB] at hxb
  split at hxb
  · split at hxb
    · rename_i hh
      intro hbg H locs la hR hS hl
      obtain ⟨rfl, rfl⟩ := rel_simple hr
      obtain ⟨dom, hd1, hP, hD⟩ := id hR
      obtain ⟨i9, hi⟩ := xRel.at (D := D) (cA := cA) (A := A) (H := H) hd1 hh
      exact va_iast hx hb hK hP hD hS i9 0 (by rw [cwK_at hi, hh]; rfl) (tysK_at cA (by decide)) hxb.1 hd (fun H1 locs1 hP1 hD1 hS1 => ih _ _ _ _ _ hw hxb.2 hbg H1 locs1 la (xRel.put hd1 hh ((cwK_set hD hi _) ▸ hP1) ((cwK_set hD hi _) ▸ hD1)) hS1 hl)
    · exact hxb.elim
  · exact hxb.elim
theorem s_lastore (hx : p.tables.exec = Jvm.exec) (hb : c.code = cc) (hts : ∀ w ∈ WG, w.before args s = true) (hown : s.vm.findClass (oR own) = some m.cls) (hK : va_K D vwCl (tysK cA) s)  (ih : ∀ (pc : Nat) (ls : ac_L) (st : List Value) (h : ac_H) (bg : Nat × Nat), rowOK own isI tr nL sp cc pc is = true → xB call cs ga L xs sl mb hands rt Q J is ls st h bg → xR p l e R s m args below meth c Z D cA A nL mb pc ls st h bg) (hrow : rowOK own isI tr nL sp cc pc ((.lastore, n) :: is) = true) (hxb : xB call cs ga L xs sl mb hands rt Q J ((.lastore, n) :: is) ls st h bg) : xR p l e R s m args below meth c Z D cA A nL mb pc ls st h bg := by
  obtain ⟨ci, hd, hr, hw⟩ := row_step (ai := .lastore) hrow
  simp only [xB] at hxb
  split at hxb
  · split at hxb
    · rename_i hh
      intro hbg H locs la hR hS hl
      obtain ⟨rfl, rfl⟩ := rel_simple hr
      obtain ⟨dom, hd1, hP, hD⟩ := id hR
      obtain ⟨i9, hi⟩ := xRel.at (D := D) (cA := cA) (A := A) (H := H) hd1 hh
      exact va_last hx hb hK hP hD hS i9 1 (by rw [cwK_at hi, hh]; rfl) (tysK_at cA (by decide)) hxb.1 hd (fun H1 locs1 hP1 hD1 hS1 => ih _ _ _ _ _ hw hxb.2 hbg H1 locs1 la (xRel.put hd1 hh ((cwK_set hD hi _) ▸ hP1) ((cwK_set hD hi _) ▸ hD1)) hS1 hl)
    · exact hxb.elim
  · exact hxb.elim
theorem s_bastore (hx : p.tables.exec = Jvm.exec) (hb : c.code = cc) (hts : ∀ w ∈ WG, w.before args s = true) (hown : s.vm.findClass (oR own) = some m.cls) (hK : va_K D vwCl (tysK cA) s)  (ih : ∀ (pc : Nat) (ls : ac_L) (st : List Value) (h : ac_H) (bg : Nat × Nat), rowOK own isI tr nL sp cc pc is = true → xB call cs ga L xs sl mb hands rt Q J is ls st h bg → xR p l e R s m args below meth c Z D cA A nL mb pc ls st h bg) (hrow : rowOK own isI tr nL sp cc pc ((.bastore, n) :: is) = true) (hxb : xB call cs ga L xs sl mb hands rt Q J ((.bastore, n) :: is) ls st h bg) : xR p l e R s m args below meth c Z D cA A nL mb pc ls st h bg := by
  obtain ⟨ci, hd, hr, hw⟩ := row_step (ai := .bastore) hrow
  simp only [xB] at hxb
  split at hxb
  · split at hxb
    · rename_i hh
      intro hbg H locs la hR hS hl
      obtain ⟨rfl, rfl⟩ := rel_simple hr
      obtain ⟨dom, hd1, hP, hD⟩ := id hR
      obtain ⟨i9, hi⟩ := xRel.at (D := D) (cA := cA) (A := A) (H := H) hd1 hh
      exact va_zast hx hb hK hP hD hS i9 2 (by rw [cwK_at hi, hh]; rfl) (tysK_at cA (by decide)) hxb.1 hd (fun H1 locs1 hP1 hD1 hS1 => ih _ _ _ _ _ hw hxb.2 hbg H1 locs1 la (xRel.put hd1 hh ((cwK_set hD hi _) ▸ hP1) ((cwK_set hD hi _) ▸ hD1)) hS1 hl)
    · rename_i hh
      intro hbg H locs la hR hS hl
      obtain ⟨rfl, rfl⟩ := rel_simple hr
      obtain ⟨dom, hd1, hP, hD⟩ := id hR
      obtain ⟨i9, hi⟩ := xRel.at (D := D) (cA := cA) (A := A) (H := H) hd1 hh
      exact va_bast hx hb hK hP hD hS i9 3 (by rw [cwK_at hi, hh]; rfl) (tysK_at cA (by decide)) hxb.1 hd (fun H1 locs1 hP1 hD1 hS1 => ih _ _ _ _ _ hw hxb.2 hbg H1 locs1 la (xRel.put hd1 hh ((cwK_set hD hi _) ▸ hP1) ((cwK_set hD hi _) ▸ hD1)) hS1 hl)
    · exact hxb.elim
  · exact hxb.elim
theorem s_aaload (hx : p.tables.exec = Jvm.exec) (hb : c.code = cc) (hts : ∀ w ∈ WG, w.before args s = true) (hown : s.vm.findClass (oR own) = some m.cls) (hK : va_K D vwCl (tysK cA) s)  (ih : ∀ (pc : Nat) (ls : ac_L) (st : List Value) (h : ac_H) (bg : Nat × Nat), rowOK own isI tr nL sp cc pc is = true → xB call cs ga L xs sl mb hands rt Q J is ls st h bg → xR p l e R s m args below meth c Z D cA A nL mb pc ls st h bg) (hrow : rowOK own isI tr nL sp cc pc ((.aaload, n) :: is) = true) (hxb : xB call cs ga L xs sl mb hands rt Q J ((.aaload, n) :: is) ls st h bg) : xR p l e R s m args below meth c Z D cA A nL mb pc ls st h bg := by
  obtain ⟨ci, hd, hr, hw⟩ := row_step (ai := .aaload) hrow
  simp only [xB] at hxb
  split at hxb
  · rename_i i0 a0 s0
    split at hxb
    · rename_i t n f hh
      obtain ⟨⟨ht1, ht2⟩, hin, hxb⟩ := hxb
      split at hxb
      · rename_i q hq
        intro hbg H locs la hR hS hl
        have hr := rel_simple hr
        obtain ⟨rfl, rfl⟩ := hr
        obtain ⟨dom, hd1, hP, hD⟩ := id hR
        obtain ⟨i9, hi⟩ := xRel.at (D := D) (cA := cA) (A := A) (H := H) hd1 hh
        have hat : (cwK cA h dom)[i9]? = some (a0, .inl (cA t, n, .inr (.inr (.inr (.inr f))))) := by rw [cwK_at hi, hh]; rfl
        have hlt : i0.toNatClampNeg < n := Nat.not_le.mp fun q => hin (Or.inr q)
        have hre : (aty t).isReference = true := by
          match t, ht1, ht2 with
          | 4, _, _ => rfl
          | 5, _, _ => rfl
          | 6, _, _ => rfl
          | t + 7, _, h => omega
        refine W.aald (v := .ref q) (ty := aty t) hx hb (hP i9 _ hat) ((hK.2 t _ (tysK_at cA ht2)).1 n (fun j => va_rf (f j))) hre (fun q => by cases q) (by show ¬ (i0 < 0 ∨ (arrV _ _ _).slots.size ≤ _); rw [arrV_size]; exact hin) (by show (arrV _ _ _).slots[_]? = _; rw [arrV_read _ _ hlt, hq]; rfl) rfl rfl hd (ih _ _ _ _ _ hw hxb hbg H locs la hR hS hl)
      · exact hxb.elim
    · exact hxb.elim
  · exact hxb.elim
theorem s_arraylength (hx : p.tables.exec = Jvm.exec) (hb : c.code = cc) (hts : ∀ w ∈ WG, w.before args s = true) (hown : s.vm.findClass (oR own) = some m.cls) (hK : va_K D vwCl (tysK cA) s)  (ih : ∀ (pc : Nat) (ls : ac_L) (st : List Value) (h : ac_H) (bg : Nat × Nat), rowOK own isI tr nL sp cc pc is = true → xB call cs ga L xs sl mb hands rt Q J is ls st h bg → xR p l e R s m args below meth c Z D cA A nL mb pc ls st h bg) (hrow : rowOK own isI tr nL sp cc pc ((.arraylength, n) :: is) = true) (hxb : xB call cs ga L xs sl mb hands rt Q J ((.arraylength, n) :: is) ls st h bg) : xR p l e R s m args below meth c Z D cA A nL mb pc ls st h bg := by
  obtain ⟨ci, hd, hr, hw⟩ := row_step (ai := .arraylength) hrow
  simp only [xB] at hxb
  split at hxb
  · split at hxb
    · rename_i t x hh
      intro hbg H locs la hR hS hl
      have hr := rel_simple hr
      obtain ⟨rfl, rfl⟩ := hr
      obtain ⟨dom, hd1, hP, hD⟩ := id hR
      obtain ⟨i9, hi⟩ := xRel.at (D := D) (cA := cA) (A := A) (H := H) hd1 hh
      exact va_alen hx hb hK hP i9 t (cA := cA t) (x := x) (by rw [cwK_at hi, hh]; rfl) (tysK_at cA hxb.1) rfl hd (ih _ _ _ _ _ hw hxb.2 hbg H locs la hR hS hl)
    · exact hxb.elim
  · exact hxb.elim
theorem s_aastore (hx : p.tables.exec = Jvm.exec) (hb : c.code = cc) (hts : ∀ w ∈ WG, w.before args s = true) (hown : s.vm.findClass (oR own) = some m.cls) (hK : va_K D vwCl (tysK cA) s)  (ih : ∀ (pc : Nat) (ls : ac_L) (st : List Value) (h : ac_H) (bg : Nat × Nat), rowOK own isI tr nL sp cc pc is = true → xB call cs ga L xs sl mb hands rt Q J is ls st h bg → xR p l e R s m args below meth c Z D cA A nL mb pc ls st h bg) (hrow : rowOK own isI tr nL sp cc pc ((.aastore, n) :: is) = true) (hxb : xB call cs ga L xs sl mb hands rt Q J ((.aastore, n) :: is) ls st h bg) : xR p l e R s m args below meth c Z D cA A nL mb pc ls st h bg := by
  obtain ⟨ci, hd, hr, hw⟩ := row_step (ai := .aastore) hrow
  simp only [xB] at hxb
  split at hxb
  · rename_i v i a s1
    split at hxb
    · rename_i t n9 f hh
      obtain ⟨ht, hin, hxb⟩ := hxb
      intro hbg H locs la hR hS hl
      have hr := rel_simple hr
      obtain ⟨rfl, rfl⟩ := hr
      obtain ⟨dom, hd1, hP, hD⟩ := id hR
      obtain ⟨i9, hi⟩ := xRel.at (D := D) (cA := cA) (A := A) (H := H) hd1 hh
      rcases ht with ⟨rfl, fs, hv⟩ | ⟨rfl, fs, hv⟩
      · obtain ⟨j9, hj⟩ := xRel.at (D := D) (cA := cA) (A := A) (H := H) hd1 hv
        exact va_astq hx hb hK hP hD hS i9 5 j9 3 (r := (RX3, TX3, 4)) (by rw [cwK_at hi, hh]; rfl) (tysK_at cA (by decide)) (by rw [cwK_at hj, hv]; rfl) rfl hin hd (fun H1 locs1 hP1 hD1 hS1 => ih _ _ _ _ _ hw hxb hbg H1 locs1 la (xRel.put hd1 hh ((cwK_set hD hi (.inl (5, n9, .inr (.inr (.inr (.inr _)))))) ▸ hP1) ((cwK_set hD hi (.inl (5, n9, .inr (.inr (.inr (.inr _)))))) ▸ hD1)) hS1 hl)
      · obtain ⟨j9, hj⟩ := xRel.at (D := D) (cA := cA) (A := A) (H := H) hd1 hv
        exact va_astq hx hb hK hP hD hS i9 6 j9 0 (r := (RX0, TX0, 14)) (by rw [cwK_at hi, hh]; rfl) (tysK_at cA (by decide)) (by rw [cwK_at hj, hv]; rfl) rfl hin hd (fun H1 locs1 hP1 hD1 hS1 => ih _ _ _ _ _ hw hxb hbg H1 locs1 la (xRel.put hd1 hh ((cwK_set hD hi (.inl (6, n9, .inr (.inr (.inr (.inr _)))))) ▸ hP1) ((cwK_set hD hi (.inl (6, n9, .inr (.inr (.inr (.inr _)))))) ▸ hD1)) hS1 hl)
    · exact hxb.elim
  · exact hxb.elim
theorem s_sipush (hx : p.tables.exec = Jvm.exec) (hb : c.code = cc) (hts : ∀ w ∈ WG, w.before args s = true) (hown : s.vm.findClass (oR own) = some m.cls) (hK : va_K D vwCl (tysK cA) s) {k : Int} (ih : ∀ (pc : Nat) (ls : ac_L) (st : List Value) (h : ac_H) (bg : Nat × Nat), rowOK own isI tr nL sp cc pc is = true → xB call cs ga L xs sl mb hands rt Q J is ls st h bg → xR p l e R s m args below meth c Z D cA A nL mb pc ls st h bg) (hrow : rowOK own isI tr nL sp cc pc ((.sipush k, n) :: is) = true) (hxb : xB call cs ga L xs sl mb hands rt Q J ((.sipush k, n) :: is) ls st h bg) : xR p l e R s m args below meth c Z D cA A nL mb pc ls st h bg := by
  obtain ⟨ci, hd, hr, hw⟩ := row_step (ai := .sipush k) hrow
  simp only [xB] at hxb
  intro hbg H locs la hR hS hl
  simp only [rel] at hr
  split at hr
  · simp only [Bool.and_eq_true, beq_iff_eq] at hr
    obtain ⟨rfl, rfl⟩ := hr
    exact lv_iconst hx hb hd rfl (ih _ _ _ _ _ hw hxb hbg H locs la hR hS hl)
  · simp only [Bool.and_eq_true, beq_iff_eq, decide_eq_true_eq] at hr
    obtain ⟨⟨rfl, rfl⟩, hv⟩ := hr
    exact lv_bipush hx hb hd hv (ih _ _ _ _ _ hw hxb hbg H locs la hR hS hl)
  · simp only [Bool.and_eq_true, beq_iff_eq, decide_eq_true_eq] at hr
    obtain ⟨⟨rfl, rfl⟩, hv⟩ := hr
    exact lv_sipush hx hb hd hv (ih _ _ _ _ _ hw hxb hbg H locs la hR hS hl)
  · simp only [Bool.and_eq_true, beq_iff_eq, List.any_eq_true] at hr
    obtain ⟨rfl, q, hq, ⟨⟨rfl, rfl⟩, rfl⟩⟩ := hr
    exact lv_ldc hx hb hown (wg hts (con_ok q hq) rfl) hd (ih _ _ _ _ _ hw hxb hbg H locs la hR hS hl)
  · simp only [Bool.and_eq_true, beq_iff_eq, List.any_eq_true] at hr
    obtain ⟨rfl, q, hq, ⟨⟨rfl, rfl⟩, rfl⟩⟩ := hr
    exact lv_ldcw hx hb hown (wg hts (con_ok q hq) rfl) hd (ih _ _ _ _ _ hw hxb hbg H locs la hR hS hl)
  · cases hr
theorem s_ldc2_w (hx : p.tables.exec = Jvm.exec) (hb : c.code = cc) (hts : ∀ w ∈ WG, w.before args s = true) (hown : s.vm.findClass (oR own) = some m.cls) (hK : va_K D vwCl (tysK cA) s) {k : Nat} (ih : ∀ (pc : Nat) (ls : ac_L) (st : List Value) (h : ac_H) (bg : Nat × Nat), rowOK own isI tr nL sp cc pc is = true → xB call cs ga L xs sl mb hands rt Q J is ls st h bg → xR p l e R s m args below meth c Z D cA A nL mb pc ls st h bg) (hrow : rowOK own isI tr nL sp cc pc ((.ldc2_w k, n) :: is) = true) (hxb : xB call cs ga L xs sl mb hands rt Q J ((.ldc2_w k, n) :: is) ls st h bg) : xR p l e R s m args below meth c Z D cA A nL mb pc ls st h bg := by
  obtain ⟨ci, hd, hr, hw⟩ := row_step (ai := .ldc2_w k) hrow
  simp only [xB] at hxb
  intro hbg H locs la hR hS hl
  simp only [rel] at hr
  split at hr
  · simp only [Bool.and_eq_true, beq_iff_eq] at hr
    obtain ⟨rfl, rfl⟩ := hr
    exact lv_lconst hx hb hd rfl (ih _ _ _ _ _ hw hxb hbg H locs la hR hS hl)
  · simp only [Bool.and_eq_true, beq_iff_eq, List.any_eq_true] at hr
    obtain ⟨rfl, q, hq, ⟨⟨rfl, rfl⟩, rfl⟩⟩ := hr
    exact lv_ldc2 hx hb hown (wg hts (conL_ok q hq) rfl) hd (ih _ _ _ _ _ hw hxb hbg H locs la hR hS hl)
  · cases hr
end SNH
