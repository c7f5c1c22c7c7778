/-! ===== the abstract program: methods by depth ===== -/
def hndD : List (Nat × List (Nat × Nat × Nat)) := [(256, [(3, 1, 506)]), (257, [(4, 2, 711), (4, 2, 506)]), (258, [(3, 1, 506)]), (259, [(3, 1, 749)]), (260, [(3, 1, 749), (3, 1, 506)]), (261, [(3, 1, 506)]), (262, [(3, 1, 711)]), (263, [(3, 1, 711)]), (264, [(3, 1, 711)]), (265, [(4, 2, 711), (4, 2, 506)]), (266, [(4, 2, 711), (4, 2, 749), (4, 2, 506)]), (267, [(4, 2, 711), (4, 2, 506)]), (268, [(3, 1, 506)]), (269, [(3, 1, 506)]), (270, [(4, 2, 711), (4, 2, 749), (4, 2, 506)]), (271, [(5, 2, 506), (5, 2, 749)]), (272, [(3, 1, 506)]), (273, [(3, 1, 506)]), (274, [(4, 2, 506)]), (275, [(3, 1, 506)]), (276, [(3, 1, 506)]), (277, [(3, 1, 506)]), (278, [(5, 2, 506)]), (279, [(3, 1, 506)]), (280, [(5, 2, 711), (5, 2, 749), (5, 2, 506)]), (281, [(6, 2, 711), (6, 2, 506)]), (282, [(4, 2, 506)]), (283, [(3, 1, 506)]), (284, [(4, 2, 711), (4, 2, 506)]), (285, [(3, 1, 506)]), (286, [(5, 2, 711), (5, 2, 506)]), (287, [(3, 1, 506)]), (288, [(4, 2, 711)]), (289, [(4, 2, 711)]), (290, [(3, 1, 506)]), (291, [(3, 1, 506)]), (292, [(4, 2, 711), (4, 2, 506)]), (293, [(6, 2, 711), (6, 2, 749), (6, 2, 1162)]), (294, [(3, 1, 711), (3, 1, 749)]), (295, [(2, 1, 711)]), (296, [(2, 1, 711), (2, 1, 749)])]
def hndE (m : ac_M) (i : Nat) (x : Nat × Nat × Nat) : Bool := match (mT m)[i]?, (mH m)[i]? with
  | some (s, e, t, ct), some (kk, c) => decide (s = 0) && decide (e = trE m) && decide (kk < 4) && decide (¬ ct = 0) && decide (lw_tbl[x.2.2]? = some (.classLink (oR (mO m)) ct (exN kk))) && rowOK (mO m) (decide ((mY m).name = "<init>")) (trE m) (mL m) (starts m) (mC m) t [(.astore x.1, x.2.1), (.sipush c, 1), (.ireturn, 1)]
  | _, _ => false
def hndOK (k : Nat) (m : ac_M) : Bool := match hndD.lookup k with
  | none => decide (mT m = [])
  | some l => decide (l.length = (mT m).length) && decide ((mH m).length = (mT m).length) && decide (0 < trE m) && decide (mR m = some .int) && (List.range l.length).all (fun i => match l[i]? with | some x => hndE m i x | none => false)
set_option maxRecDepth 100000 in
theorem hnd_ok : ((List.range 297).all (fun k => match methods[k]? with | some m => hndOK k m | none => true)) = true := by decide +kernel
set_option maxRecDepth 100000 in
theorem m_own : ∀ m ∈ methods, oR (mO m) = (mY m).cls ∧ mL m ≤ 30 ∧ (starts m)[0]? = some 0 := by decide +kernel
section WPS
variable (ga : Nat → Nat) (L : Nat) (xs : Nat → Int32)
/-- what a method's blocks make of a jump predicate -/
def xBody (call : Nat → List Value → ac_H → ac_P → Prop) (md : ac_M) (P : ac_P) (J : Nat → ac_X) : Prop := ∀ (b pb : Nat) (is : ac_I), (mS md)[b]? = some (pb, is) → ∀ (ls : ac_L) (st : List Value) (h : ac_H) (bg : Nat × Nat), xB call cst ga L xs sl (mB md) (mH md) (mR md) P J is ls st h bg → J b ls st h bg
def WP : Nat → Nat → List Value → ac_H → ac_P → Prop
  | 0, _, _, _, _ => False
  | d + 1, k, as, h, P => ∃ md, methods[k]? = some md ∧ (entA as).length ≤ mL md ∧ ∀ J : Nat → ac_X, xBody ga L xs (WP d) md P J → J 0 (entL as (mL md)) [] h (0, 0)
end WPS
theorem lg_len : ∀ as : List Value, (lg_sl as).length = (entA as).length
  | [] => rfl
  | v :: as => by
    have h := lg_len as
    unfold lg_sl at h ⊢
    rw [List.flatMap_cons, List.length_append, h, entA]
    by_cases hc : cat2 (some v) = true
    · rw [if_pos hc, if_pos ((cat2_iff v).mp hc)]
      simp
      omega
    · rw [if_neg hc, if_neg (fun e => hc ((cat2_iff v).mpr e))]
      simp
      omega
theorem of_both {l : Launch} {md : ac_M} {rm : Room} {Pc : Array Value → State → Prop} {Qc : Array Value → State → Outcome → State → Prop} {XC : String → State → State → Prop} {mc ms : Nat} {free : Addr → Prop} (hf : mFacts md)
    (body : ∀ p e s m args below meth c s₁, BodyLoose p l (mY md) (headSpec (wsK md) rm) (mC md) (mL md) (mR md) e s m args below meth c s₁ → c.maxLocals = mL md → c.exceptionTable.toList = tableOf (mT md) → Pc args s →
      W p l e (headSpec (wsK md) rm).room s m args below meth c s.heap [] 0 0 (vx_MQ below Qc XC args s mc ms free) (entryFrame m args (mL md))) : vx_Met l (mY md) (wsK md) rm Pc Qc XC mc ms free := by
  by_cases hT : mT md = []
  · have hw : wsK md = Cond.code (mY md) (mC md) (mL md) (mR md) :: WG := by unfold wsK; rw [if_pos hT]
    refine MetFree.of_bodySF (code := mC md) (maxLocals := mL md) (ret := mR md) hf.1 ?_ ?_
    · intro args s m h hn
      obtain ⟨meth, c, h1, h2, h3, h4, h5, h6, -, -⟩ := Cond.code_spec hn (atoms_spec (ws := wsK md) h _ (by rw [hw]; exact List.mem_cons_self))
      exact ⟨meth, c, h1, h2, h3, h4, h5, h6⟩
    · intro p e s m args below meth c s₁ B hml hP _
      have hh0 : s₁.heap = s.heap := by rw [B.state]; rfl
      have ht : c.exceptionTable.toList = tableOf (mT md) := by
        obtain ⟨meth9, c9, h1, h2, -, -, -, -, h7, -⟩ := Cond.code_spec B.named (atoms_spec (ws := wsK md) B.pre _ (by rw [hw]; exact List.mem_cons_self))
        cases Option.some.inj (h1.symm.trans B.method)
        cases Option.some.inj (h2.symm.trans (Stand.of_body B).code)
        rw [Array.isEmpty_iff.mp h7, hT]
        rfl
      obtain ⟨t, a1, o, b1, b2, b3⟩ := body p e s m args below meth c s₁ B hml ht hP s₁ hh0 (Stand.of_body B)
      exact ⟨t, o, a1, b1, b2, b3⟩
  · have hw : wsK md = Cond.codeWith (mY md) (mC md) (mL md) (mR md) (mT md) :: WG := by unfold wsK; rw [if_neg hT]
    refine MetFree.of_bodySF (code := mC md) (maxLocals := mL md) (ret := mR md) hf.1 ?_ ?_
    · intro args s m h hn
      obtain ⟨m9, meth, c, hn9, h1, h2, h3, h4, -, h5, h6, -⟩ := Cond.codeWith_spec (atoms_spec (ws := wsK md) h _ (by rw [hw]; exact List.mem_cons_self))
      cases hn.symm.trans hn9
      exact ⟨meth, c, h1, h2, h3, h4, h5, h6⟩
    · intro p e s m args below meth c s₁ B hml hP _
      have hh0 : s₁.heap = s.heap := by rw [B.state]; rfl
      have ht : c.exceptionTable.toList = tableOf (mT md) := vx_table (x := mY md) B (atoms_spec (ws := wsK md) B.pre _ (by rw [hw]; exact List.mem_cons_self))
      obtain ⟨t, a1, o, b1, b2, b3⟩ := body p e s m args below meth c s₁ B hml ht hP s₁ hh0 (Stand.of_body B)
      exact ⟨t, o, a1, b1, b2, b3⟩
section RET
variable {p : Program} {l : Launch} {e : Env} {R : Room} {s : State} {m : MethodId} {args : Array Value} {below : List Frame} {meth : Method} {c : Code} {D : va_G} {cA : Nat → ClassId} {A : Nat → Prop} {P : ac_P}
variable {cc : ByteArray} {own : Nat} {isI : Bool} {tr : Nat} {nL : Nat} {sp : List Nat} {ga adV : Nat → Nat} {L : Nat} {xs : Nat → Int32} {mb : Nat × Nat} {rt : Option FieldType}
theorem ret_all (hx : p.tables.exec = Jvm.exec) (hb : c.code = cc) (hr : meth.sig.returnType = rt) (hlocks : meth.locks = false) (pc : Nat) (h : ac_H) (bg : Nat × Nat) (H : Heap) (locs : List Loc) (la : Array Slot) (v : Option Value) (ri : Instr) (hd : decode cc pc = .ok (ri, 1)) (hv : retOK rt ri v) (hP : P (.inl v) h) (hR : xRel D cA A h H) (hS : va_S A s.heap H locs) (hbb : bgle bg mb) : W p l e R s m args below meth c H locs bg.1 bg.2 (vx_MQ below (QcP D cA A P) (XcP D cA A P) args s mb.1 mb.2 A) (F0 m pc la v.toList) := by
  have hq : ∀ t : State, t.heap = H → QcP D cA A P args s (.returned v) t := fun t ht => ⟨⟨v, h, rfl, hP, by rw [ht]; exact hR⟩, F_of_S hS (by rw [ht]; exact Nat.le_refl _) (fun q _ => by rw [ht])⟩
  refine W.widen hbb.1 hbb.2 (vx_ret ?_)
  rcases hv with ⟨rfl, x, rfl, hn⟩ | ⟨rfl, x, rfl, hn⟩ | ⟨rfl, x, rfl, hn⟩ | ⟨rfl, rfl, hn⟩
  · cases rt with
    | none => exact False.elim hn
    | some ty => exact W.zret hx hb hr hn (fun t ht _ => hq t ht) hS.2.2 hd hlocks
  · subst hn
    exact W.lret hx hb hr (fun t ht _ => hq t ht) hS.2.2 hd hlocks
  · rcases hn with ⟨n, rfl⟩ | ⟨n, rfl⟩
    · exact W.aret hx hb hr (Or.inl ⟨n, rfl⟩) (Or.inr ⟨x, rfl⟩) (fun t ht _ => hq t ht) hS.2.2 hd hlocks
    · exact W.aret hx hb hr (Or.inr ⟨n, rfl⟩) (Or.inr ⟨x, rfl⟩) (fun t ht _ => hq t ht) hS.2.2 hd hlocks
  · subst hn
    exact W.vret hx hb hr (fun t ht _ => hq t ht) hS.2.2 hd hlocks
theorem split_at {α : Type} : ∀ (l : List α) (i : Nat) (x : α), l[i]? = some x → ∃ suf, l = l.take i ++ x :: suf
  | [], i, x, h => by simp at h
  | a :: l, 0, x, h => by
    cases h
    exact ⟨l, rfl⟩
  | a :: l, i + 1, x, h => by
    obtain ⟨suf, hs⟩ := split_at l i x h
    exact ⟨suf, by rw [List.take_succ_cons, List.cons_append, ← hs]⟩
theorem lookup_at {β : Type} : ∀ (l : List (Nat × β)) (k : Nat), (∀ b, l.lookup k = some b → ∃ i, l[i]? = some (k, b) ∧ ∀ (j : Nat) (q : Nat × β), j < i → l[j]? = some q → ¬ q.1 = k) ∧ (l.lookup k = none → ∀ (j : Nat) (q : Nat × β), l[j]? = some q → ¬ q.1 = k)
  | [], k => ⟨fun b h => (nomatch h), fun _ j q h => (nomatch h)⟩
  | (k0, b0) :: l, k => by
    obtain ⟨h1, h2⟩ := lookup_at l k
    by_cases e : k = k0
    · subst e
      refine ⟨fun b h => ⟨0, ?_, fun j q hj _ => by omega⟩, fun h => ?_⟩
      · simp [List.lookup] at h
        rw [h]; rfl
      · simp [List.lookup] at h
    · have e1 : (k == k0) = false := by simpa using e
      refine ⟨fun b h => ?_, fun h j q hj => ?_⟩
      · rw [List.lookup, e1] at h
        obtain ⟨i, hi, hn⟩ := h1 b h
        refine ⟨i + 1, hi, fun j q hj hq => ?_⟩
        cases j with
        | zero =>
          cases hq
          exact fun z => e z.symm
        | succ j => exact hn j q (by omega) hq
      · rw [List.lookup, e1] at h
        cases j with
        | zero =>
          cases hj
          exact fun z => e z.symm
        | succ j => exact h2 h j q hj
theorem hnd_at {k : Nat} {md : ac_M} (hm : methods[k]? = some md) (hT : ¬ mT md = []) : (mH md).length = (mT md).length ∧ 0 < trE md ∧ mR md = some .int ∧ ∀ i, i < (mT md).length → ∃ s e t ct kk c x, (mT md)[i]? = some (s, e, t, ct) ∧ (mH md)[i]? = some (kk, c) ∧ s = 0 ∧ e = trE md ∧ kk < 4 ∧ ¬ ct = 0 ∧ Cond.classLink (oR (mO md)) ct (exN kk) ∈ WG ∧ ∃ y, rowOK (mO md) (decide ((mY md).name = "<init>")) (trE md) (mL md) (starts md) (mC md) t [(.astore x, y), (.sipush c, 1), (.ireturn, 1)] = true := by
  have hk : k < 297 := by
    have := (List.getElem?_eq_some_iff.mp hm).1
    rw [methods_len] at this
    exact this
  have h1 := List.all_eq_true.mp hnd_ok k (List.mem_range.mpr hk)
  rw [hm] at h1
  have h1 : hndOK k md = true := h1
  unfold hndOK at h1
  split at h1
  · exact absurd (of_decide_eq_true h1) hT
  · rename_i l _
    simp only [Bool.and_eq_true, decide_eq_true_eq] at h1
    obtain ⟨⟨⟨⟨a1, a2⟩, a3⟩, a4⟩, a5⟩ := h1
    refine ⟨a2, a3, a4, fun i hi => ?_⟩
    have h2 := List.all_eq_true.mp a5 i (List.mem_range.mpr (by omega))
    split at h2
    · rename_i x _
      unfold hndE at h2
      split at h2
      · rename_i s e t ct kk c9 e1 e2
        simp only [Bool.and_eq_true, decide_eq_true_eq] at h2
        obtain ⟨⟨⟨⟨⟨b1, b2⟩, b3⟩, b4⟩, b5⟩, b6⟩ := h2
        exact ⟨s, e, t, ct, kk, c9, x.1, e1, e2, b1, b2, b3, b4, wg_in b5 rfl, _, b6⟩
      · cases h2
    · cases h2
theorem thr_all {k0 : Nat} {md : ac_M} (hm : methods[k0]? = some md) (hx : p.tables.exec = Jvm.exec) (hb : c.code = mC md) (hr : meth.sig.returnType = mR md) (hts : ∀ w ∈ WG, w.before args s = true) (hown : s.vm.findClass (oR (mO md)) = some m.cls) (hG : GBt D cA A ga adV L xs s) (hlocks : meth.locks = false) (htab : c.exceptionTable.toList = tableOf (mT md)) (hH : mT md = [] → mH md = [])
    (k pc : Nat) (h : ac_H) (bg : Nat × Nat) (H : Heap) (locs : List Loc) (la : Array Slot) (rest : List Value) (q : Addr) (ce : Cell) (hk : k < 4) (htr : trE md = 0 ∨ pc < trE md) (hP : match (mH md).lookup k with | some c9 => P (.inl (some (.int (kI c9)))) h | none => P (.inr k) h) (hR : xRel D cA A h H) (hS : va_S A s.heap H locs) (hbb : bgle bg (mB md)) (hla : lv_has la (mL md) []) (hce : H[q]? = some ce) (hcv : ce.vm = .none) (hcl : s.vm.findClass (exN k) = some ce.cls) :
    vx_W p l e R s m args below meth c H locs bg.1 bg.2 (vx_MQ below (QcP D cA A P) (XcP D cA A P) args s (mB md).1 (mB md).2 A) (F0 m pc la rest) q := by
  have hXC : ∀ (t : State), P (.inr k) h → t.heap = H → XcP D cA A P (exN k) s t := fun t hp ht => ⟨⟨k, h, hk, rfl, hp, by rw [ht]; exact hR⟩, F_of_S hS (by rw [ht]; exact Nat.le_refl _) (fun q _ => by rw [ht])⟩
  by_cases hT : mT md = []
  · rw [hH hT] at hP
    have hP : P (.inr k) h := hP
    refine vx_out (E := exN k) (ce := ce) (fun x hx9 => ?_) hlocks hce hcv hcl (fun t ht _ => hXC t hP ht) hS.2.2 hbb.1 hbb.2
    rw [htab, hT] at hx9
    cases hx9
  · obtain ⟨hlen, h0, hrt, hent⟩ := hnd_at hm hT
    have hpc : pc < trE md := by omega
    obtain ⟨hl1, hl2⟩ := lookup_at (mH md) k
    have htl : ∀ (j : Nat) (z : ExceptionTableEntry), (tableOf (mT md))[j]? = some z → ∃ kk c9, (mH md)[j]? = some (kk, c9) ∧ kk < 4 ∧ ¬ z.catchType = 0 ∧ (Cond.classLink (oR (mO md)) z.catchType (exN kk)).before args s = true := by
      intro j z hz
      unfold tableOf at hz
      rw [List.getElem?_map] at hz
      cases hj : (mT md)[j]? with
      | none => rw [hj] at hz; cases hz
      | some y =>
        rw [hj] at hz
        cases hz
        have hjl := (List.getElem?_eq_some_iff.mp hj).1
        obtain ⟨s1, e1, t1, ct1, kk, c9, x9, f1, f2, f3, f4, f5, f6, f7, f8⟩ := hent j hjl
        cases Option.some.inj (hj.symm.trans f1)
        exact ⟨kk, c9, f2, f5, f6, hts _ f7⟩
    obtain ⟨g1, -, -, -, -, -, -, -, -, -, -, g13, -, g15⟩ := hG
    cases hlk : (mH md).lookup k with
    | none =>
      rw [hlk] at hP
      refine vx_outP (own := oR (mO md)) (E := exN k) (ce := ce) hown hlocks (fun z hz => ?_) hce hcv hcl (fun t ht _ => hXC t hP ht) hS.2.2 hbb.1 hbb.2
      rw [htab] at hz
      obtain ⟨j, hj⟩ := List.getElem?_of_mem hz
      obtain ⟨kk, c9, f2, f5, f6, f7⟩ := htl j z hj
      exact Or.inr ⟨f6, exN kk, f7, g15 k kk hk f5 (fun e => hl2 hlk j _ f2 e.symm)⟩
    | some c9 =>
      rw [hlk] at hP
      have hP : P (.inl (some (.int (kI c9)))) h := hP
      obtain ⟨i, hi, hn⟩ := hl1 c9 hlk
      have hil : i < (mT md).length := by
        have := (List.getElem?_eq_some_iff.mp hi).1
        omega
      obtain ⟨s1, e1, t1, ct1, kk, c8, x9, f1, f2, rfl, rfl, f5, f6, f7, y9, f8⟩ := hent i hil
      cases Option.some.inj (hi.symm.trans f2)
      have hxi : (tableOf (mT md))[i]? = some ⟨0, trE md, t1, ct1⟩ := by
        unfold tableOf
        rw [List.getElem?_map, f1]
        rfl
      obtain ⟨suf, hsuf⟩ := split_at _ i _ hxi
      refine vx_catch (own := oR (mO md)) (name := exN k) (E := exN k) (ce := ce) hown ((tableOf (mT md)).take i) ⟨0, trE md, t1, ct1⟩ suf (by rw [htab]; exact hsuf) (fun z hz => ?_) ?_ f6 (hts _ f7) (va_Nw.use rfl (g13 k hk)) hce hcv hcl ?_
      · obtain ⟨j, hj⟩ := List.getElem?_of_mem hz
        rw [List.getElem?_take] at hj
        split at hj
        · rename_i hji
          obtain ⟨kk, c7, e2, e5, e6, e7⟩ := htl j z hj
          exact Or.inr ⟨e6, exN kk, e7, g15 k kk hk e5 (fun e => hn j _ hji e2 e.symm)⟩
        · cases hj
      · show (decide (0 ≤ pc) && decide (pc < trE md)) = true
        simp [hpc]
      · have hX : xR p l e R s m args below meth c (vx_MQ below (QcP D cA A P) (XcP D cA A P) args s (mB md).1 (mB md).2 A) D cA A (mL md) (mB md) t1 [] [.ref q] h bg := by
          refine s_astore (call := fun _ _ _ _ => False) (cs := cst) (ga := ga) (L := L) (xs := xs) (sl := sl) (hands := mH md) (rt := mR md) (Q := P) (J := fun _ _ _ _ _ => False) hx hb (fun pc1 ls1 st1 h1 bg1 hw1 hx1 => s_sipush hx hb hts hown g1 (fun pc2 ls2 st2 h2 bg2 hw2 hx2 => s_ireturn hx hb hts hown g1 (fun pc3 h3 bg3 H3 locs3 la3 v3 ri3 hd3 hv3 hp3 hr3 hs3 hb3 => ret_all hx hb hr hlocks pc3 h3 bg3 H3 locs3 la3 v3 ri3 hd3 hv3 hp3 hr3 hs3 hb3) hw2 hx2) hw1 hx1) f8 ?_
          simp only [xB]
          refine ⟨?_, ?_, hP⟩
          · cases x9 <;> rfl
          · rw [hrt]; rfl
        exact hX hbb H locs la hR hS hla
end RET
