/-! ===== calls: the six kinds ===== -/
theorem popn_at : ∀ (n : Nat) (st acc as rest : List Value), popn n st acc = some (as, rest) → ∃ xs, xs.length = n ∧ st = xs ++ rest ∧ as = xs.reverse ++ acc
  | 0, st, acc, as, rest, h => by
    cases h
    exact ⟨[], rfl, rfl, rfl⟩
  | n + 1, [], acc, as, rest, h => by cases h
  | n + 1, v :: st, acc, as, rest, h => by
    obtain ⟨xs, h1, h2, h3⟩ := popn_at n st (v :: acc) as rest h
    exact ⟨v :: xs, by simp [h1], by simp [h2], by simp [h3]⟩
theorem popn_as {n : Nat} {st as rest : List Value} (h : popn n st [] = some (as, rest)) : as.length = n ∧ st = as.reverse ++ rest := by
  obtain ⟨xs, h1, h2, h3⟩ := popn_at n st [] as rest h
  rw [List.append_nil] at h3
  subst h3
  exact ⟨by simp [h1], by simp [h2]⟩
theorem cst_of {k : Nat} {md : ac_M} (h : methods[k]? = some md) : mB md = cst k := by
  have hk : k < 297 := by
    have := (List.getElem?_eq_some_iff.mp h).1
    rw [methods_len] at this
    exact this
  have h1 := List.all_eq_true.mp cst_eq k (List.mem_range.mpr hk)
  rw [h] at h1
  exact of_decide_eq_true h1
theorem zc_of {k : Nat} (h : zc k = true) : cst k = (0, 0) := by
  unfold zc at h
  unfold cst
  cases e : costTab.find? (fun q => q.1 == k) with
  | none => rfl
  | some q =>
    have h1 := List.find?_some e
    have h2 := List.mem_of_find?_eq_some e
    rw [Bool.not_eq_true', List.any_eq_false] at h
    exact absurd h1 (h q h2)
theorem any4 {own kd k j : Nat} {T : List (Nat × Nat × Nat × Nat × Nat)} (h : (T.any (fun q => q.1 == own && q.2.1 == kd && q.2.2.1 == k && q.2.2.2.1 == j)) = true) : ∃ i, (own, kd, k, j, i) ∈ T := by
  obtain ⟨q, hq, h1⟩ := List.any_eq_true.mp h
  simp only [Bool.and_eq_true, beq_iff_eq] at h1
  obtain ⟨⟨⟨rfl, rfl⟩, rfl⟩, rfl⟩ := h1
  exact ⟨_, hq⟩
theorem any4o {own k1 k2 k j : Nat} {T : List (Nat × Nat × Nat × Nat × Nat)} (h : (T.any (fun q => q.1 == own && (q.2.1 == k1 || q.2.1 == k2) && q.2.2.1 == k && q.2.2.2.1 == j)) = true) : ∃ kd i, (kd = k1 ∨ kd = k2) ∧ (own, kd, k, j, i) ∈ T := by
  obtain ⟨q, hq, h1⟩ := List.any_eq_true.mp h
  simp only [Bool.and_eq_true, beq_iff_eq, Bool.or_eq_true] at h1
  obtain ⟨⟨⟨rfl, hk⟩, rfl⟩, rfl⟩ := h1
  exact ⟨_, _, hk, hq⟩
theorem mth_at {q : Nat × Nat × Nat × Nat × Nat} (hq : q ∈ mthTab) : ∃ md, methods[q.2.2.1]? = some md ∧ (¬ (q.2.1 = 4 ∨ q.2.1 = 5) → Cond.methodLink (oR q.1) q.2.2.2.1 (mY md) ∈ WG) ∧ (q.2.1 = 4 → mK md = 1) ∧ (q.2.1 = 5 → mK md = 2) ∧ (¬ (q.2.1 = 4 ∨ q.2.1 = 5) → mK md = q.2.1) := by
  have h := mth_ok q hq
  unfold mthOKb at h
  split at h
  · cases h
  · rename_i md hm
    rw [Bool.and_eq_true] at h
    obtain ⟨h1, h2⟩ := h
    refine ⟨md, hm, fun e => ?_, fun e => ?_, fun e => ?_, fun e => ?_⟩
    · rw [if_neg e, decide_eq_true_eq] at h1; exact wg_in h1 rfl
    · rw [if_pos e, decide_eq_true_eq] at h2; exact h2
    · rw [if_neg (by omega), if_pos e, decide_eq_true_eq] at h2; exact h2
    · rw [if_neg (fun z => e (Or.inl z)), if_neg (fun z => e (Or.inr z)), decide_eq_true_eq] at h2; exact h2
theorem isO_head {h : ac_H} {as : List Value} {ci : Nat} (hio : isO h as.head? ci) : ∃ b As fs, as = .ref b :: As ∧ h b = some (.inr (ci, fs)) := by
  match as, hio with
  | .ref b :: As, hio =>
    obtain ⟨fs, hfs⟩ := hio
    exact ⟨b, As, fs, rfl, hfs⟩
section SNV
variable {p : Program} {l : Launch} {e : Env} {R : Room} {s : State} {m : MethodId} {args : Array Value} {below : List Frame} {meth : Method} {c : Code} {Z : State → Prop} {D : va_G} {cA : Nat → ClassId} {A : Nat → Prop}
variable {cc : ByteArray} {own : Nat} {isI : Bool} {tr : Nat} {nL : Nat} {sp : List Nat}
variable {call : Nat → List Value → ac_H → ac_P → Prop} {cs : Nat → Nat × Nat} {ga : Nat → Nat} {L : Nat} {xs : Nat → Int32} {sl : Nat → List Int32} {mb : Nat × Nat} {hands : List (Nat × Int)} {rt : Option FieldType} {Q : ac_P} {J : Nat → ac_X}
variable {is : ac_I} {ls : ac_L} {st : List Value} {h : ac_H} {bg : Nat × Nat} {pc n : Nat}

/-- a call, whatever its kind: what vx_Run says of it -/
theorem inv_run (hx : p.tables.exec = Jvm.exec) (hb : c.code = cc) (hts : ∀ w ∈ WG, w.before args s = true) (hown : s.vm.findClass (oR own) = some m.cls) (hK : va_K D vwCl (tysK cA) s) {GB : State → Prop} {F Lc : Nat} (hGB : ∀ (H : Heap) (locs : List Loc) (U : State), va_S A s.heap H locs → U.heap = H → s.WarmedH U.vm → GB U) (hGBb : ∀ (a : Array Value) (U : State) (g : JFrame) (mk : MethodId), GB U → GB (U.calling g mk a)) (hRm : F + 1 ≤ R.frames ∧ ∀ md ∈ methods, 8 + (mL md + 11) + Lc ≤ R.locals) (hRC : mb.1 ≤ R.cells ∧ mb.2 ≤ R.slots) (hml : c.maxLocals = nL) (hNest : ∀ q ∈ mthTab, ∀ md, methods[q.2.2.1]? = some md → (q.2.1 = 4 ∨ q.2.1 = 5) → va_Nw (.methodLinkNest (oR q.1) q.2.2.2.1 (mY md) RX6) s) (hM : ∀ (k : Nat) (md : ac_M) (as : List Value) (h : ac_H) (P : ac_P), methods[k]? = some md → call k as h P → xMet l D cA A GB F Lc md as h P)
    {kd k j i9 : Nat} {md : ac_M} (hq : (own, kd, k, j, i9) ∈ mthTab) (hmd : methods[k]? = some md) {as rest st0 : List Value} {P : ac_P} {H : Heap} {locs : List Loc} {la : Array Slot} (hc : call k as h P) (hR : xRel D cA A h H) (hS : va_S A s.heap H locs) (hla : la.size = nL) (hst : st0 = as.reverse ++ rest) (hlen : as.length = mN md + (if kd = 1 ∨ kd = 4 ∨ kd = 6 then 0 else 1)) (hrl : rest.length ≤ 4) (hbb : bgle (bgad bg (mB md)) mb)
    (hsp : (kd = 2 ∨ kd = 5) → ∃ b As, as = .ref b :: As)
    (hrc : kd = 0 → ∃ ci, isO h as.head? ci ∧ oR ci = (mY md).cls ∧ ci < 8)
    (hd : (kd = 0 ∧ decode cc pc = .ok (.invokevirtual j, 3)) ∨ ((kd = 1 ∨ kd = 4 ∨ kd = 6) ∧ decode cc pc = .ok (.invokestatic j, 3)) ∨ ((kd = 2 ∨ kd = 5) ∧ decode cc pc = .ok (.invokespecial j, 3))) :
    vx_Run p l e R s m args below meth c H locs bg.1 bg.2 (mB md).1 (mB md).2 (F0 m pc la st0) rest (QcP D cA A P as.toArray) (XcP D cA A P) A := by
  have hmem : md ∈ methods := List.mem_of_getElem? hmd
  obtain ⟨md2, hmd2, w1, w2, w3, w4⟩ := mth_at hq
  cases Option.some.inj (hmd.symm.trans hmd2)
  have w1 : ¬ (kd = 4 ∨ kd = 5) → Cond.methodLink (oR own) j (mY md) ∈ WG := w1
  have w2 : kd = 4 → mK md = 1 := w2
  have w3 : kd = 5 → mK md = 2 := w3
  have w4 : ¬ (kd = 4 ∨ kd = 5) → mK md = kd := w4
  obtain ⟨f1, f2, f3, f4, f5, f6, f7, f8, f9, f10, f11⟩ := mFacts_of hmem
  have hMet := hM k md as h P hmd hc
  have hfc : bg.1 + (mB md).1 ≤ R.cells ∧ bg.2 + (mB md).2 ≤ R.slots := ⟨Nat.le_trans hbb.1 hRC.1, Nat.le_trans hbb.2 hRC.2⟩
  have hcs := catsum rest
  have hro : 2 * (F0 m pc la st0).monitorRoom + (rest.map fun v => v.category).sum ≤ 8 := by show 2 * 0 + _ ≤ 8; omega
  have hrr : (rmK F Lc md).frames + 1 ≤ R.frames ∧ 8 + (mL md + 11) + (rmK F Lc md).locals ≤ R.locals := ⟨hRm.1, hRm.2 md hmem⟩
  have hFix : CallFix p m c cc nL s args WG (oR own) := ⟨hx, hb, hml, hown, hts⟩
  have hblind : FrameBlind (va_Pc as (fun U => GB U ∧ xRel D cA A h U.heap)) := fun a U g mk q => ⟨q.1, hGBb a U g mk q.2.1, q.2.2⟩
  have hPre : ∀ U : State, U.heap = H → s.WarmedH U.vm → va_Pc as (fun U => GB U ∧ xRel D cA A h U.heap) as.toArray U := fun U hU hW => ⟨rfl, hGB H locs U hS hU hW, by rw [hU]; exact hR⟩
  have hgood : GoodIn WG (wsK md) := good_WG (wsK_WG ⟨f1, f2, f3, f4, f5, f6, f7, f8, f9, f10, f11⟩)
  subst hst
  rcases hd with ⟨rfl, hd⟩ | ⟨hkd, hd⟩ | ⟨hkd, hd⟩
  · have hk0 : mK md = 0 := w4 (by omega)
    have hT0 : mT md = [] := f10 (by omega)
    have hw : wsK md = Cond.code (mY md) (mC md) (mL md) (mR md) :: WG := by unfold wsK; rw [if_pos hT0]
    obtain ⟨ci, hio, hcn, hc8⟩ := hrc rfl
    obtain ⟨b, As, fs, rfl, hfs⟩ := isO_head hio
    · have hl1 : As.length = mN md := by rw [if_neg (by omega), List.length_cons] at hlen; omega
      obtain ⟨dom, hd1, hP9, hD9⟩ := id hR
      obtain ⟨i, hi⟩ := xRel.at (D := D) (cA := cA) (A := A) (H := H) hd1 hfs
      obtain ⟨C, T, N, ty, c1, c2, -⟩ := clAll hc8
      have hrecv := va_recv hK hP9 (ci := ci) (q0 := i) (fs := fs) c1 (by rw [cwK_at hi, hfs]; rfl)
      have hcw : CallW R s args (oR own) (mY md).cls j (mY md) (mC md) (mL md) (mR md) (wsK md) (rmK F Lc md) (mB md).1 (mB md).2 (mN md) := ⟨callB_of (mN md) hts hgood hw rfl rfl (hts _ f3) (hts _ (w1 (by omega))) f2 hrr, hts _ (f7 (by omega)), hts _ (f8 hk0)⟩
      exact vx_runV (b := b) (As := As) (rest := rest) hFix hMet hcw ⟨hblind, by rw [← hcn, ← c2]; exact hrecv, hPre⟩ rfl hl1 hla (by simp) hro hd hfc
  · rcases hkd with rfl | rfl | rfl
    · have hk0 : mK md = 1 := w4 (by omega)
      have hT0 : mT md = [] := f10 (by omega)
      have hw : wsK md = Cond.code (mY md) (mC md) (mL md) (mR md) :: WG := by unfold wsK; rw [if_pos hT0]
      exact vx_runS (As := as) (rest := rest) hFix hMet ⟨callB_of (mN md) hts hgood hw rfl rfl (hts _ f3) (hts _ (w1 (by omega))) f2 hrr, hts _ (f6 (Or.inl hk0))⟩ ⟨hblind, hPre⟩ rfl (by simpa using hlen) hla rfl hro hd hfc
    · have hk0 : mK md = 1 := w2 rfl
      have hT0 : mT md = [] := f10 (by omega)
      have hw : wsK md = Cond.code (mY md) (mC md) (mL md) (mR md) :: WG := by unfold wsK; rw [if_pos hT0]
      exact vx_runSN (host := RX6) (As := as) (rest := rest) hFix hMet ⟨va_cnB (mN md) hts hgood hw rfl rfl (hNest _ hq md hmd (Or.inl rfl)) (hts _ f3) f2 hrr, hts _ (f6 (Or.inl hk0)), trivial⟩ ⟨hblind, hPre⟩ rfl (by simpa using hlen) hla rfl hro hd hfc
    · have hk0 : mK md = 6 := w4 (by omega)
      by_cases hT0 : mT md = []
      · have hw : wsK md = Cond.code (mY md) (mC md) (mL md) (mR md) :: WG := by unfold wsK; rw [if_pos hT0]
        exact vx_runS (As := as) (rest := rest) hFix hMet ⟨callB_of (mN md) hts hgood hw rfl rfl (hts _ f3) (hts _ (w1 (by omega))) f2 hrr, hts _ (f6 (Or.inr hk0))⟩ ⟨hblind, hPre⟩ rfl (by simpa using hlen) hla rfl hro hd hfc
      · have hw : wsK md = Cond.codeWith (mY md) (mC md) (mL md) (mR md) (mT md) :: WG := by unfold wsK; rw [if_neg hT0]
        exact vx_runSX (hh := mT md) (As := as) (rest := rest) hFix hMet (vx_cwSW (mN md) hts (good_WG (fun w hw9 => by
          rcases List.mem_append.mp hw9 with h9 | h9
          · simp only [List.mem_cons, List.not_mem_nil, or_false] at h9
            rcases h9 with rfl | rfl | rfl
            · exact w1 (by omega)
            · exact f6 (Or.inr hk0)
            · exact f3
          · exact (hgood w h9).1)) hw rfl rfl f2 hrr) ⟨hblind, hPre⟩ rfl (by simpa using hlen) hla rfl hro hd hfc
  · rcases hkd with rfl | rfl
    · have hk0 : mK md = 2 := w4 (by omega)
      have hT0 : mT md = [] := f10 (by omega)
      have hw : wsK md = Cond.code (mY md) (mC md) (mL md) none :: WG := by unfold wsK; rw [if_pos hT0, (f9 hk0).2]
      obtain ⟨b, As, rfl⟩ := hsp (Or.inl rfl)
      exact vx_runI (b := b) (As := As) (rest := rest) hFix hMet ⟨callB_of (mN md) hts hgood hw rfl rfl (hts _ f3) (hts _ (w1 (by omega))) f2 hrr, (f9 hk0).1, hts _ (f7 (by omega))⟩ ⟨hblind, hPre⟩ rfl (by simpa using hlen) hla (by simp) hro hd hfc
    · have hk0 : mK md = 2 := w3 rfl
      have hT0 : mT md = [] := f10 (by omega)
      have hw : wsK md = Cond.code (mY md) (mC md) (mL md) none :: WG := by unfold wsK; rw [if_pos hT0, (f9 hk0).2]
      obtain ⟨b, As, rfl⟩ := hsp (Or.inr rfl)
      exact vx_runIN (host := RX6) (b := b) (As := As) (rest := rest) hFix hMet ⟨va_cnB (mN md) hts hgood hw rfl rfl (hNest _ hq md hmd (Or.inr rfl)) (hts _ f3) f2 hrr, (f9 hk0).1, hts _ (f7 (by omega))⟩ ⟨hblind, hPre⟩ rfl (by simpa using hlen) hla (by simp) hro hd hfc
end SNV
