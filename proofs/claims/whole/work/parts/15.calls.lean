/-! ===== the call instructions ===== -/
theorem inf_at {k : Nat} {md : ac_M} (h : methods[k]? = some md) : ∃ q, infTab[k]? = some q ∧ q.1 = mN md + (if mK md = 1 ∨ mK md = 6 then 0 else 1) ∧ (mK md = 0 → oR q.2 = (mY md).cls ∧ q.2 < 8) := by
  have hk : k < 297 := by
    have := (List.getElem?_eq_some_iff.mp h).1
    rw [methods_len] at this
    exact this
  have h1 := List.all_eq_true.mp inf_eq k (List.mem_range.mpr hk)
  rw [h] at h1
  cases e : infTab[k]? with
  | none => rw [e] at h1; cases h1
  | some q =>
    rw [e] at h1
    simp only [Bool.and_eq_true, decide_eq_true_eq] at h1
    refine ⟨q, rfl, h1.1, fun h0 => ?_⟩
    have h2 := h1.2
    rw [if_pos h0] at h2
    simpa using h2
section SNW
variable {p : Program} {l : Launch} {e : Env} {R : Room} {s : State} {m : MethodId} {args : Array Value} {below : List Frame} {meth : Method} {c : Code} {Z : State → Prop} {D : va_G} {cA : Nat → ClassId} {A : Nat → Prop}
variable {cc : ByteArray} {own : Nat} {isI : Bool} {tr : Nat} {nL : Nat} {sp : List Nat}
variable {call : Nat → List Value → ac_H → ac_P → Prop} {cs : Nat → Nat × Nat} {ga : Nat → Nat} {L : Nat} {xs : Nat → Int32} {sl : Nat → List Int32} {mb : Nat × Nat} {hands : List (Nat × Int)} {rt : Option FieldType} {Q : ac_P} {J : Nat → ac_X}
variable {is : ac_I} {ls : ac_L} {st : List Value} {h : ac_H} {bg : Nat × Nat} {pc n : Nat}

theorem s_multianewarray (hx : p.tables.exec = Jvm.exec) (hb : c.code = cc) (hts : ∀ w ∈ WG, w.before args s = true) (hown : s.vm.findClass (oR own) = some m.cls) (hK : va_K D vwCl (tysK cA) s) {GB : State → Prop} {F Lc : Nat} (hGB : ∀ (H : Heap) (locs : List Loc) (U : State), va_S A s.heap H locs → U.heap = H → s.WarmedH U.vm → GB U) (hGBb : ∀ (a : Array Value) (U : State) (g : JFrame) (mk : MethodId), GB U → GB (U.calling g mk a)) (hRm : F + 1 ≤ R.frames ∧ ∀ md ∈ methods, 8 + (mL md + 11) + Lc ≤ R.locals) (hRC : mb.1 ≤ R.cells ∧ mb.2 ≤ R.slots) (hml : c.maxLocals = nL) (hNest : ∀ q ∈ mthTab, ∀ md, methods[q.2.2.1]? = some md → (q.2.1 = 4 ∨ q.2.1 = 5) → va_Nw (.methodLinkNest (oR q.1) q.2.2.2.1 (mY md) RX6) s) (hM : ∀ (k : Nat) (md : ac_M) (as : List Value) (h : ac_H) (P : ac_P), methods[k]? = some md → call k as h P → xMet l D cA A GB F Lc md as h P) (hThr : ∀ (k pc : Nat) (h : ac_H) (bg : Nat × Nat) (H : Heap) (locs : List Loc) (la : Array Slot) (rest : List Value) (q : Addr) (ce : Cell), k < 4 → (tr = 0 ∨ pc < tr) → (match hands.lookup k with | some c9 => Q (.inl (some (.int (kI c9)))) h | none => Q (.inr k) h) → xRel D cA A h H → va_S A s.heap H locs → bgle bg mb → lv_has la nL [] → H[q]? = some ce → ce.vm = .none → s.vm.findClass (exN k) = some ce.cls → vx_W p l e R s m args below meth c H locs bg.1 bg.2 Z (F0 m pc la rest) q) {k d : Nat} (ih : ∀ (pc : Nat) (ls : ac_L) (st : List Value) (h : ac_H) (bg : Nat × Nat), rowOK own isI tr nL sp cc pc is = true → xB call cst ga L xs sl mb hands rt Q J is ls st h bg → xR p l e R s m args below meth c Z D cA A nL mb pc ls st h bg) (hrow : rowOK own isI tr nL sp cc pc ((.multianewarray k d, n) :: is) = true) (hxb : xB call cst ga L xs sl mb hands rt Q J ((.multianewarray k d, n) :: is) ls st h bg) : xR p l e R s m args below meth c Z D cA A nL mb pc ls st h bg := by
  obtain ⟨ci, hd, hr, hw⟩ := row_step (ai := .multianewarray k d) hrow
  simp only [xB] at hxb
  split at hxb
  · rename_i as s1 hpop
    obtain ⟨hrl, hio, hcall⟩ := hxb
    intro hbg H locs la hR hS hl
    obtain ⟨hal, hst⟩ := popn_as hpop
    simp only [rel] at hr
    split at hr
    · rename_i j
      simp only [Bool.and_eq_true, beq_iff_eq, Bool.or_eq_true, decide_eq_true_eq] at hr
      obtain ⟨⟨⟨⟨rfl, hinf⟩, hz⟩, htr⟩, hany⟩ := hr
      obtain ⟨i9, hq⟩ := any4 hany
      obtain ⟨md, hmd, -, w2, w3, w4⟩ := mth_at hq
      have hmd : methods[k]? = some md := hmd
      have hk0 : mK md = 0 := w4 (by simp)
      obtain ⟨q9, hq9, hn9, hv9⟩ := inf_at hmd
      have e9 : q9 = (d / 16, d % 16) := Option.some.inj (hq9.symm.trans hinf)
      subst e9
      have hB : mB md = (0, 0) := (cst_of hmd).trans (zc_of hz)
      have hrun := inv_run (e := e) (below := below) (meth := meth) (kd := 0) (j := j) (i9 := i9) (md := md) (as := as) (rest := s1) (P := xK Q hands (xB call cst ga L xs sl mb hands rt Q J is) ls s1 bg) (bg := bg) (pc := pc) hx hb hts hown hK (GB := GB) (F := F) (Lc := Lc) hGB hGBb hRm hRC hml hNest hM hq hmd hcall hR hS hl.1 hst (by rw [hal]; rw [if_neg (by omega)] at hn9; simpa using hn9) hrl (by rw [hB]; exact hbg) (fun z => by omega) (fun _ => ⟨d % 16, hio, hv9 hk0⟩) (Or.inl ⟨rfl, hd⟩)
      rw [hB] at hrun
      exact run_go hrun hS rfl hbg hl hw htr ih hThr
    · cases hr
  · exact hxb.elim
theorem s_putstatic (hx : p.tables.exec = Jvm.exec) (hb : c.code = cc) (hts : ∀ w ∈ WG, w.before args s = true) (hown : s.vm.findClass (oR own) = some m.cls) (hK : va_K D vwCl (tysK cA) s) {GB : State → Prop} {F Lc : Nat} (hGB : ∀ (H : Heap) (locs : List Loc) (U : State), va_S A s.heap H locs → U.heap = H → s.WarmedH U.vm → GB U) (hGBb : ∀ (a : Array Value) (U : State) (g : JFrame) (mk : MethodId), GB U → GB (U.calling g mk a)) (hRm : F + 1 ≤ R.frames ∧ ∀ md ∈ methods, 8 + (mL md + 11) + Lc ≤ R.locals) (hRC : mb.1 ≤ R.cells ∧ mb.2 ≤ R.slots) (hml : c.maxLocals = nL) (hNest : ∀ q ∈ mthTab, ∀ md, methods[q.2.2.1]? = some md → (q.2.1 = 4 ∨ q.2.1 = 5) → va_Nw (.methodLinkNest (oR q.1) q.2.2.2.1 (mY md) RX6) s) (hM : ∀ (k : Nat) (md : ac_M) (as : List Value) (h : ac_H) (P : ac_P), methods[k]? = some md → call k as h P → xMet l D cA A GB F Lc md as h P) (hThr : ∀ (k pc : Nat) (h : ac_H) (bg : Nat × Nat) (H : Heap) (locs : List Loc) (la : Array Slot) (rest : List Value) (q : Addr) (ce : Cell), k < 4 → (tr = 0 ∨ pc < tr) → (match hands.lookup k with | some c9 => Q (.inl (some (.int (kI c9)))) h | none => Q (.inr k) h) → xRel D cA A h H → va_S A s.heap H locs → bgle bg mb → lv_has la nL [] → H[q]? = some ce → ce.vm = .none → s.vm.findClass (exN k) = some ce.cls → vx_W p l e R s m args below meth c H locs bg.1 bg.2 Z (F0 m pc la rest) q) {k : Nat} (ih : ∀ (pc : Nat) (ls : ac_L) (st : List Value) (h : ac_H) (bg : Nat × Nat), rowOK own isI tr nL sp cc pc is = true → xB call cst ga L xs sl mb hands rt Q J is ls st h bg → xR p l e R s m args below meth c Z D cA A nL mb pc ls st h bg) (hrow : rowOK own isI tr nL sp cc pc ((.putstatic k, n) :: is) = true) (hxb : xB call cst ga L xs sl mb hands rt Q J ((.putstatic k, n) :: is) ls st h bg) : xR p l e R s m args below meth c Z D cA A nL mb pc ls st h bg := by
  obtain ⟨ci, hd, hr, hw⟩ := row_step (ai := .putstatic k) hrow
  simp only [xB] at hxb
  split at hxb
  · rename_i as s1 hpop
    obtain ⟨hrl, hio, hbb, hcall⟩ := hxb
    intro hbg H locs la hR hS hl
    obtain ⟨hal, hst⟩ := popn_as hpop
    simp only [rel] at hr
    split at hr
    · rename_i j
      simp only [Bool.and_eq_true, beq_iff_eq, Bool.or_eq_true, decide_eq_true_eq] at hr
      obtain ⟨⟨⟨rfl, hinf⟩, htr⟩, hany⟩ := hr
      obtain ⟨i9, hq⟩ := any4 hany
      obtain ⟨md, hmd, -, w2, w3, w4⟩ := mth_at hq
      have hmd : methods[k / 256]? = some md := hmd
      have hk0 : mK md = 0 := w4 (by simp)
      obtain ⟨q9, hq9, hn9, hv9⟩ := inf_at hmd
      have e9 : q9 = (k / 16 % 16, k % 16) := Option.some.inj (hq9.symm.trans hinf)
      subst e9
      have hB : mB md = cst (k / 256) := cst_of hmd
      have hrun := inv_run (e := e) (below := below) (meth := meth) (kd := 0) (j := j) (i9 := i9) (md := md) (as := as) (rest := s1) (P := xK Q hands (xB call cst ga L xs sl mb hands rt Q J is) ls s1 (bgad bg (cst (k / 256)))) (bg := bg) (pc := pc) hx hb hts hown hK (GB := GB) (F := F) (Lc := Lc) hGB hGBb hRm hRC hml hNest hM hq hmd hcall hR hS hl.1 hst (by rw [hal]; rw [if_neg (by omega)] at hn9; simpa using hn9) hrl (by rw [hB]; exact hbb) (fun z => by omega) (fun _ => ⟨k % 16, hio, hv9 hk0⟩) (Or.inl ⟨rfl, hd⟩)
      rw [hB] at hrun
      exact run_go hrun hS rfl hbb hl hw htr ih hThr
    · cases hr
  · exact hxb.elim
theorem s_invokeinterface (hx : p.tables.exec = Jvm.exec) (hb : c.code = cc) (hts : ∀ w ∈ WG, w.before args s = true) (hown : s.vm.findClass (oR own) = some m.cls) (hK : va_K D vwCl (tysK cA) s) {GB : State → Prop} {F Lc : Nat} (hGB : ∀ (H : Heap) (locs : List Loc) (U : State), va_S A s.heap H locs → U.heap = H → s.WarmedH U.vm → GB U) (hGBb : ∀ (a : Array Value) (U : State) (g : JFrame) (mk : MethodId), GB U → GB (U.calling g mk a)) (hRm : F + 1 ≤ R.frames ∧ ∀ md ∈ methods, 8 + (mL md + 11) + Lc ≤ R.locals) (hRC : mb.1 ≤ R.cells ∧ mb.2 ≤ R.slots) (hml : c.maxLocals = nL) (hNest : ∀ q ∈ mthTab, ∀ md, methods[q.2.2.1]? = some md → (q.2.1 = 4 ∨ q.2.1 = 5) → va_Nw (.methodLinkNest (oR q.1) q.2.2.2.1 (mY md) RX6) s) (hM : ∀ (k : Nat) (md : ac_M) (as : List Value) (h : ac_H) (P : ac_P), methods[k]? = some md → call k as h P → xMet l D cA A GB F Lc md as h P) (hThr : ∀ (k pc : Nat) (h : ac_H) (bg : Nat × Nat) (H : Heap) (locs : List Loc) (la : Array Slot) (rest : List Value) (q : Addr) (ce : Cell), k < 4 → (tr = 0 ∨ pc < tr) → (match hands.lookup k with | some c9 => Q (.inl (some (.int (kI c9)))) h | none => Q (.inr k) h) → xRel D cA A h H → va_S A s.heap H locs → bgle bg mb → lv_has la nL [] → H[q]? = some ce → ce.vm = .none → s.vm.findClass (exN k) = some ce.cls → vx_W p l e R s m args below meth c H locs bg.1 bg.2 Z (F0 m pc la rest) q) {k d : Nat} (ih : ∀ (pc : Nat) (ls : ac_L) (st : List Value) (h : ac_H) (bg : Nat × Nat), rowOK own isI tr nL sp cc pc is = true → xB call cst ga L xs sl mb hands rt Q J is ls st h bg → xR p l e R s m args below meth c Z D cA A nL mb pc ls st h bg) (hrow : rowOK own isI tr nL sp cc pc ((.invokeinterface k d, n) :: is) = true) (hxb : xB call cst ga L xs sl mb hands rt Q J ((.invokeinterface k d, n) :: is) ls st h bg) : xR p l e R s m args below meth c Z D cA A nL mb pc ls st h bg := by
  obtain ⟨ci, hd, hr, hw⟩ := row_step (ai := .invokeinterface k d) hrow
  simp only [xB] at hxb
  split at hxb
  · rename_i as s1 hpop
    obtain ⟨hrl, hcall⟩ := hxb
    intro hbg H locs la hR hS hl
    obtain ⟨hal, hst⟩ := popn_as hpop
    simp only [rel] at hr
    split at hr
    · rename_i j
      simp only [Bool.and_eq_true, beq_iff_eq, decide_eq_true_eq] at hr
      obtain ⟨⟨⟨⟨rfl, hinf⟩, hz⟩, htr⟩, hany⟩ := hr
      simp only [Bool.or_eq_true, beq_iff_eq, decide_eq_true_eq] at htr
      obtain ⟨kd, i9, hkd, hq⟩ := any4o hany
      obtain ⟨md, hmd, -, w2, w3, w4⟩ := mth_at hq
      have hmd : methods[k]? = some md := hmd
      have hk0 : mK md = 1 := by
        rcases hkd with rfl | rfl
        · exact w4 (by simp)
        · exact w2 rfl
      obtain ⟨q9, hq9, hn9, hv9⟩ := inf_at hmd
      rw [hq9] at hinf
      have e9 : q9.1 = d := Option.some.inj hinf
      have hB : mB md = (0, 0) := (cst_of hmd).trans (zc_of hz)
      have hrun := inv_run (e := e) (below := below) (meth := meth) (kd := kd) (j := j) (i9 := i9) (md := md) (as := as) (rest := s1) (P := xK Q hands (xB call cst ga L xs sl mb hands rt Q J is) ls s1 bg) (bg := bg) (pc := pc) hx hb hts hown hK (GB := GB) (F := F) (Lc := Lc) hGB hGBb hRm hRC hml hNest hM hq hmd hcall hR hS hl.1 hst (by rw [hal, ← e9, hn9, if_pos (Or.inl hk0), if_pos (by omega)]) hrl (by rw [hB]; exact hbg) (fun z => by omega) (fun z => by omega) (Or.inr (Or.inl ⟨by omega, hd⟩))
      rw [hB] at hrun
      exact run_go hrun hS rfl hbg hl hw htr ih hThr
    · cases hr
  · exact hxb.elim
theorem s_ret (hx : p.tables.exec = Jvm.exec) (hb : c.code = cc) (hts : ∀ w ∈ WG, w.before args s = true) (hown : s.vm.findClass (oR own) = some m.cls) (hK : va_K D vwCl (tysK cA) s) {GB : State → Prop} {F Lc : Nat} (hGB : ∀ (H : Heap) (locs : List Loc) (U : State), va_S A s.heap H locs → U.heap = H → s.WarmedH U.vm → GB U) (hGBb : ∀ (a : Array Value) (U : State) (g : JFrame) (mk : MethodId), GB U → GB (U.calling g mk a)) (hRm : F + 1 ≤ R.frames ∧ ∀ md ∈ methods, 8 + (mL md + 11) + Lc ≤ R.locals) (hRC : mb.1 ≤ R.cells ∧ mb.2 ≤ R.slots) (hml : c.maxLocals = nL) (hNest : ∀ q ∈ mthTab, ∀ md, methods[q.2.2.1]? = some md → (q.2.1 = 4 ∨ q.2.1 = 5) → va_Nw (.methodLinkNest (oR q.1) q.2.2.2.1 (mY md) RX6) s) (hM : ∀ (k : Nat) (md : ac_M) (as : List Value) (h : ac_H) (P : ac_P), methods[k]? = some md → call k as h P → xMet l D cA A GB F Lc md as h P) (hThr : ∀ (k pc : Nat) (h : ac_H) (bg : Nat × Nat) (H : Heap) (locs : List Loc) (la : Array Slot) (rest : List Value) (q : Addr) (ce : Cell), k < 4 → (tr = 0 ∨ pc < tr) → (match hands.lookup k with | some c9 => Q (.inl (some (.int (kI c9)))) h | none => Q (.inr k) h) → xRel D cA A h H → va_S A s.heap H locs → bgle bg mb → lv_has la nL [] → H[q]? = some ce → ce.vm = .none → s.vm.findClass (exN k) = some ce.cls → vx_W p l e R s m args below meth c H locs bg.1 bg.2 Z (F0 m pc la rest) q) {k : Nat} (ih : ∀ (pc : Nat) (ls : ac_L) (st : List Value) (h : ac_H) (bg : Nat × Nat), rowOK own isI tr nL sp cc pc is = true → xB call cst ga L xs sl mb hands rt Q J is ls st h bg → xR p l e R s m args below meth c Z D cA A nL mb pc ls st h bg) (hrow : rowOK own isI tr nL sp cc pc ((.ret k, n) :: is) = true) (hxb : xB call cst ga L xs sl mb hands rt Q J ((.ret k, n) :: is) ls st h bg) : xR p l e R s m args below meth c Z D cA A nL mb pc ls st h bg := by
  obtain ⟨ci, hd, hr, hw⟩ := row_step (ai := .ret k) hrow
  simp only [xB] at hxb
  split at hxb
  · rename_i as s1 hpop
    obtain ⟨hrl, hbb, hcall⟩ := hxb
    intro hbg H locs la hR hS hl
    obtain ⟨hal, hst⟩ := popn_as hpop
    simp only [rel] at hr
    split at hr
    · rename_i j
      simp only [Bool.and_eq_true, beq_iff_eq, decide_eq_true_eq] at hr
      obtain ⟨⟨⟨rfl, hinf⟩, htr⟩, hany⟩ := hr
      simp only [Bool.or_eq_true, beq_iff_eq, decide_eq_true_eq] at htr
      obtain ⟨kd, i9, hkd, hq⟩ := any4o hany
      obtain ⟨md, hmd, -, w2, w3, w4⟩ := mth_at hq
      have hmd : methods[k / 16]? = some md := hmd
      have hk0 : mK md = kd := w4 (by rcases hkd with rfl | rfl <;> simp)
      obtain ⟨q9, hq9, hn9, hv9⟩ := inf_at hmd
      rw [hq9] at hinf
      have e9 : q9.1 = k % 16 := Option.some.inj hinf
      have hB : mB md = cst (k / 16) := cst_of hmd
      have hrun := inv_run (e := e) (below := below) (meth := meth) (kd := kd) (j := j) (i9 := i9) (md := md) (as := as) (rest := s1) (P := xK Q hands (xB call cst ga L xs sl mb hands rt Q J is) ls s1 (bgad bg (cst (k / 16)))) (bg := bg) (pc := pc) hx hb hts hown hK (GB := GB) (F := F) (Lc := Lc) hGB hGBb hRm hRC hml hNest hM hq hmd hcall hR hS hl.1 hst (by rw [hal, ← e9, hn9, if_pos (by omega), if_pos (by omega)]) hrl (by rw [hB]; exact hbb) (fun z => by omega) (fun z => by omega) (Or.inr (Or.inl ⟨by omega, hd⟩))
      rw [hB] at hrun
      exact run_go hrun hS rfl hbb hl hw htr ih hThr
    · cases hr
  · exact hxb.elim
theorem s_dload (hx : p.tables.exec = Jvm.exec) (hb : c.code = cc) (hts : ∀ w ∈ WG, w.before args s = true) (hown : s.vm.findClass (oR own) = some m.cls) (hK : va_K D vwCl (tysK cA) s) {GB : State → Prop} {F Lc : Nat} (hGB : ∀ (H : Heap) (locs : List Loc) (U : State), va_S A s.heap H locs → U.heap = H → s.WarmedH U.vm → GB U) (hGBb : ∀ (a : Array Value) (U : State) (g : JFrame) (mk : MethodId), GB U → GB (U.calling g mk a)) (hRm : F + 1 ≤ R.frames ∧ ∀ md ∈ methods, 8 + (mL md + 11) + Lc ≤ R.locals) (hRC : mb.1 ≤ R.cells ∧ mb.2 ≤ R.slots) (hml : c.maxLocals = nL) (hNest : ∀ q ∈ mthTab, ∀ md, methods[q.2.2.1]? = some md → (q.2.1 = 4 ∨ q.2.1 = 5) → va_Nw (.methodLinkNest (oR q.1) q.2.2.2.1 (mY md) RX6) s) (hM : ∀ (k : Nat) (md : ac_M) (as : List Value) (h : ac_H) (P : ac_P), methods[k]? = some md → call k as h P → xMet l D cA A GB F Lc md as h P) (hThr : ∀ (k pc : Nat) (h : ac_H) (bg : Nat × Nat) (H : Heap) (locs : List Loc) (la : Array Slot) (rest : List Value) (q : Addr) (ce : Cell), k < 4 → (tr = 0 ∨ pc < tr) → (match hands.lookup k with | some c9 => Q (.inl (some (.int (kI c9)))) h | none => Q (.inr k) h) → xRel D cA A h H → va_S A s.heap H locs → bgle bg mb → lv_has la nL [] → H[q]? = some ce → ce.vm = .none → s.vm.findClass (exN k) = some ce.cls → vx_W p l e R s m args below meth c H locs bg.1 bg.2 Z (F0 m pc la rest) q) {k : Nat} (ih : ∀ (pc : Nat) (ls : ac_L) (st : List Value) (h : ac_H) (bg : Nat × Nat), rowOK own isI tr nL sp cc pc is = true → xB call cst ga L xs sl mb hands rt Q J is ls st h bg → xR p l e R s m args below meth c Z D cA A nL mb pc ls st h bg) (hrow : rowOK own isI tr nL sp cc pc ((.dload k, n) :: is) = true) (hxb : xB call cst ga L xs sl mb hands rt Q J ((.dload k, n) :: is) ls st h bg) : xR p l e R s m args below meth c Z D cA A nL mb pc ls st h bg := by
  obtain ⟨ci, hd, hr, hw⟩ := row_step (ai := .dload k) hrow
  simp only [xB] at hxb
  split at hxb
  · rename_i a0 as s1 hpop
    obtain ⟨hrl, hbb, hcall⟩ := hxb
    intro hbg H locs la hR hS hl
    obtain ⟨hal, hst⟩ := popn_as hpop
    simp only [rel] at hr
    split at hr
    · rename_i j
      simp only [Bool.and_eq_true, beq_iff_eq, decide_eq_true_eq] at hr
      obtain ⟨⟨⟨rfl, hinf⟩, htr⟩, hany⟩ := hr
      simp only [Bool.or_eq_true, beq_iff_eq, decide_eq_true_eq] at htr
      obtain ⟨kd, i9, hkd, hq⟩ := any4o hany
      obtain ⟨md, hmd, -, w2, w3, w4⟩ := mth_at hq
      have hmd : methods[k / 16]? = some md := hmd
      have hk0 : mK md = 2 := by
        rcases hkd with rfl | rfl
        · exact w4 (by simp)
        · exact w3 rfl
      obtain ⟨q9, hq9, hn9, hv9⟩ := inf_at hmd
      rw [hq9] at hinf
      have e9 : q9.1 = k % 16 := Option.some.inj hinf
      have hB : mB md = cst (k / 16) := cst_of hmd
      have hrun := inv_run (e := e) (below := below) (meth := meth) (kd := kd) (j := j) (i9 := i9) (md := md) (as := .ref a0 :: as) (rest := s1) (P := xK Q hands (xB call cst ga L xs sl mb hands rt Q J is) ls s1 (bgad bg (cst (k / 16)))) (bg := bg) (pc := pc) hx hb hts hown hK (GB := GB) (F := F) (Lc := Lc) hGB hGBb hRm hRC hml hNest hM hq hmd hcall hR hS hl.1 hst (by rw [hal, ← e9, hn9, if_neg (by omega), if_neg (by omega)]) hrl (by rw [hB]; exact hbb) (fun _ => ⟨a0, as, rfl⟩) (fun z => by omega) (Or.inr (Or.inr ⟨by omega, hd⟩))
      rw [hB] at hrun
      exact run_go hrun hS rfl hbb hl hw htr ih hThr
    · cases hr
  · exact hxb.elim
end SNW
