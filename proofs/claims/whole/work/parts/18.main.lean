/-! ===== every step ===== -/
section SNZ
variable {p : Program} {l : Launch} {e : Env} {R : Room} {s : State} {m : MethodId} {args : Array Value} {below : List Frame} {meth : Method} {c : Code} {Z : State → Prop} {D : va_G} {cA : Nat → ClassId} {A : Nat → Prop}
variable {cc : ByteArray} {own : Nat} {isI : Bool} {tr : Nat} {nL : Nat} {sp : List Nat}
variable {call : Nat → List Value → ac_H → ac_P → Prop} {ga : Nat → Nat} {L : Nat} {xs : Nat → Int32} {mb : Nat × Nat} {hands : List (Nat × Int)} {rt : Option FieldType} {Q : ac_P} {J : Nat → ac_X}
variable {is : ac_I} {ls : ac_L} {st : List Value} {h : ac_H} {bg : Nat × Nat} {pc n : Nat}

theorem s_instanceof {k : Nat} (hTh : ∀ (k ik ic i pc : Nat) (h : ac_H) (bg : Nat × Nat) (H : Heap) (locs : List Loc) (la : Array Slot) (st : List Value), (own, k, ik, ic, i) ∈ excTab → decode cc pc = .ok (.new ik, 3) → decode cc (pc + 3) = .ok (.dup, 1) → decode cc (pc + 4) = .ok (.invokespecial ic, 3) → decode cc (pc + 7) = .ok (.athrow, 1) → tr = 0 → bgle (bgad bg (1, 6)) mb → st.length ≤ 4 → k < 4 → Q (.inr k) h → xRel D cA A h H → va_S A s.heap H locs → lv_has la nL [] → W p l e R s m args below meth c H locs bg.1 bg.2 Z (F0 m pc la st)) (hrow : rowOK own isI tr nL sp cc pc ((.instanceof k, n) :: is) = true) (hxb : xB call cst ga L xs sl mb hands rt Q J ((.instanceof k, n) :: is) ls st h bg) : xR p l e R s m args below meth c Z D cA A nL mb pc ls st h bg := by
  simp only [xB] at hxb
  obtain ⟨hbb, hle, hk4, hQ⟩ := hxb
  intro hbg H locs la hR hS hl
  have h1 : (n == 8 && is.isEmpty && tr == 0 && (match decode cc pc, decode cc (pc + 3), decode cc (pc + 4), decode cc (pc + 7) with
    | .ok (.new ik, 3), .ok (.dup, 1), .ok (.invokespecial ic, 3), .ok (.athrow, 1) => excTab.any (fun q => q.1 == own && q.2.1 == k && q.2.2.1 == ik && q.2.2.2.1 == ic)
    | _, _, _, _ => false)) = true := hrow
  rw [Bool.and_eq_true, Bool.and_eq_true] at h1
  obtain ⟨⟨-, htr⟩, h2⟩ := h1
  split at h2
  · rename_i ik ic e1 e2 e3 e4
    obtain ⟨i9, hq⟩ := any4 h2
    exact hTh k ik ic i9 pc h bg H locs la st hq e1 e2 e3 e4 (by simpa using htr) hbb hle hk4 hQ hR hS ⟨hl.1, hl.2.1, fun _ h => nomatch h⟩
  · cases h2
theorem s_invokedynamic (hx : p.tables.exec = Jvm.exec) (hb : c.code = cc) (hts : ∀ w ∈ WG, w.before args s = true) (hown : s.vm.findClass (oR own) = some m.cls) (hK : va_K D vwCl (tysK cA) s) {adV : Nat → Nat} (hSB : SB A ga adV s) (hRL : 200 ≤ R.locals) (hRF : 8 ≤ R.frames) (hRC : mb.1 ≤ R.cells ∧ mb.2 ≤ R.slots) (hml : c.maxLocals = nL) {w : Nat} (ih : ∀ (pc : Nat) (ls : ac_L) (st : List Value) (h : ac_H) (bg : Nat × Nat), rowOK own isI tr nL sp cc pc is = true → xB call cst ga L xs sl mb hands rt Q J is ls st h bg → xR p l e R s m args below meth c Z D cA A nL mb pc ls st h bg) (hrow : rowOK own isI tr nL sp cc pc ((.invokedynamic w, n) :: is) = true) (hxb : xB call cst ga L xs sl mb hands rt Q J ((.invokedynamic w, n) :: is) ls st h bg) : xR p l e R s m args below meth c Z D cA A nL mb pc ls st h bg := by
  obtain ⟨ci, hd, hr, hw⟩ := row_step (ai := .invokedynamic w) hrow
  simp only [xB] at hxb
  split at hxb
  · rename_i a s1
    obtain ⟨t, ht, rfl, hle, hxb⟩ := hxb
    intro hbg H locs la hR hS hl
    simp only [rel] at hr
    split at hr
    · rename_i j
      rw [Bool.and_eq_true, beq_iff_eq] at hr
      obtain ⟨rfl, hr⟩ := hr
      obtain ⟨i9, hq⟩ := any3 hr
      have hf := sx_ok _ hq
      have hcs := catsum s1
      refine W.callR (W.runV (C := RJ0) (b := ga (3 + t)) (As := []) (rest := s1) ⟨hx, hb, hml, hown, hts⟩ (j_length l A ga adV ht 0 0) ⟨callB_of 0 hts (jgood jcJ0_length_8abf5) rfl rfl rfl (hts _ jnJ0) (wg hts hf rfl) (by decide +kernel) ⟨by show 0 + 1 + 1 ≤ R.frames; omega, by show 8 + (1 + 11) + (0 + 20) ≤ R.locals; omega⟩, hts _ jiJ0_length_8abf5, hts _ jlJ0_length_8abf5⟩ ⟨fun _ _ _ _ q => ⟨q.1, q.2.calling⟩, vk_recv (adK := fun i => ga (3 + i)) (i := t) hSB.1 ht hS, fun U hU hW => ⟨rfl, hSB.moved hW.alike (fun a h1 h2 => by rw [hU]; exact hS.2.1 a h1 h2)⟩⟩ rfl rfl hl.1 rfl (by show 2 * 0 + _ ≤ 8; omega) hd ⟨Nat.le_trans hbg.1 hRC.1, Nat.le_trans hbg.2 hRC.2⟩) ?_
      exact ih _ _ _ _ _ hw hxb hbg H locs la hR hS hl
    · cases hr
  · rename_i i a s1
    obtain ⟨t, ht, rfl, hin, hle, hxb⟩ := hxb
    intro hbg H locs la hR hS hl
    simp only [rel] at hr
    split at hr
    · rename_i j
      rw [Bool.and_eq_true, beq_iff_eq] at hr
      obtain ⟨rfl, hr⟩ := hr
      obtain ⟨i9, hq⟩ := any3 hr
      have hf := sx_ok _ hq
      have hcs := catsum s1
      refine W.callR (W.runV (C := RJ0) (b := ga (3 + t)) (As := [.int i]) (rest := s1) ⟨hx, hb, hml, hown, hts⟩ (j_charAt l A ga adV ht hin 0 0) ⟨callB_of 1 hts (jgood jcJ0_charAt_5068e) rfl rfl rfl (hts _ jnJ0) (wg hts hf rfl) (by decide +kernel) ⟨by show 0 + 3 + 1 ≤ R.frames; omega, by show 8 + (2 + 11) + (0 + 64) ≤ R.locals; omega⟩, hts _ jiJ0_charAt_5068e, hts _ jlJ0_charAt_5068e⟩ ⟨fun _ _ _ _ q => ⟨q.1, q.2.calling⟩, vk_recv (adK := fun i => ga (3 + i)) (i := t) hSB.1 ht hS, fun U hU hW => ⟨rfl, hSB.moved hW.alike (fun a h1 h2 => by rw [hU]; exact hS.2.1 a h1 h2)⟩⟩ rfl rfl hl.1 rfl (by show 2 * 0 + _ ≤ 8; omega) hd ⟨Nat.le_trans hbg.1 hRC.1, Nat.le_trans hbg.2 hRC.2⟩) ?_
      exact ih _ _ _ _ _ hw hxb hbg H locs la hR hS hl
    · cases hr
  · exact hxb.elim

set_option maxHeartbeats 4000000 in
theorem xB_all (hx : p.tables.exec = Jvm.exec) (hb : c.code = cc) (hts : ∀ w ∈ WG, w.before args s = true) (hown : s.vm.findClass (oR own) = some m.cls) (hK : va_K D vwCl (tysK cA) s) {adV : Nat → Nat} (hX : va_X (ga 0) L xs s s.heap) (hbl : ga 0 < s.heap.size) (hbA : ¬ A (ga 0)) (hT1 : va_T .int (ga 1) 11 (fun j => .int (leastN.getD j 0)) A s s.heap) (hT2 : va_T .int (ga 2) 11 (fun j => .int (mostN.getD j 0)) A s s.heap) (hZ : ∀ k, k < 2 → va_Z RX6 (["LEAST_N", "MOST_N"].getD k "") "[I" (.ref (ga (1 + k))) A s s.heap) (hN : ∀ q ∈ statN, q.2.1 < 2 ∧ va_Nw (.fieldLinkNest (oR q.1) q.2.2 RX6 (["LEAST_N", "MOST_N"].getD q.2.1 "") "[I" RX6) s) (hStr : ∀ q ∈ strTab, vk_R (oR q.1) q.2.1 (stx.getD q.2.2 "") (ga (3 + q.2.2)) s) (hSB : SB A ga adV s) (hO3 : va_AO RX3 s) (hO0 : va_AO RX0 s) (hOA : va_AOA .int s) (hA : ∀ q, s.heap.size ≤ q → A q) (hI : isI = true → meth.name = "<init>") (hRL : 200 ≤ R.locals) (hRF : 8 ≤ R.frames) {GB : State → Prop} {F Lc : Nat} (hGB : ∀ (H : Heap) (locs : List Loc) (U : State), va_S A s.heap H locs → U.heap = H → s.WarmedH U.vm → GB U) (hGBb : ∀ (a : Array Value) (U : State) (g : JFrame) (mk : MethodId), GB U → GB (U.calling g mk a)) (hRm : F + 1 ≤ R.frames ∧ ∀ md ∈ methods, 8 + (mL md + 11) + Lc ≤ R.locals) (hRC : mb.1 ≤ R.cells ∧ mb.2 ≤ R.slots) (hml : c.maxLocals = nL) (hNest : ∀ q ∈ mthTab, ∀ md, methods[q.2.2.1]? = some md → (q.2.1 = 4 ∨ q.2.1 = 5) → va_Nw (.methodLinkNest (oR q.1) q.2.2.2.1 (mY md) RX6) s) (hM : ∀ (k : Nat) (md : ac_M) (as : List Value) (h : ac_H) (P : ac_P), methods[k]? = some md → call k as h P → xMet l D cA A GB F Lc md as h P) (hThr : ∀ (k pc : Nat) (h : ac_H) (bg : Nat × Nat) (H : Heap) (locs : List Loc) (la : Array Slot) (rest : List Value) (q : Addr) (ce : Cell), k < 4 → (tr = 0 ∨ pc < tr) → (match hands.lookup k with | some c9 => Q (.inl (some (.int (kI c9)))) h | none => Q (.inr k) h) → xRel D cA A h H → va_S A s.heap H locs → bgle bg mb → lv_has la nL [] → H[q]? = some ce → ce.vm = .none → s.vm.findClass (exN k) = some ce.cls → vx_W p l e R s m args below meth c H locs bg.1 bg.2 Z (F0 m pc la rest) q) (hTh : ∀ (k ik ic i pc : Nat) (h : ac_H) (bg : Nat × Nat) (H : Heap) (locs : List Loc) (la : Array Slot) (st : List Value), (own, k, ik, ic, i) ∈ excTab → decode cc pc = .ok (.new ik, 3) → decode cc (pc + 3) = .ok (.dup, 1) → decode cc (pc + 4) = .ok (.invokespecial ic, 3) → decode cc (pc + 7) = .ok (.athrow, 1) → tr = 0 → bgle (bgad bg (1, 6)) mb → st.length ≤ 4 → k < 4 → Q (.inr k) h → xRel D cA A h H → va_S A s.heap H locs → lv_has la nL [] → W p l e R s m args below meth c H locs bg.1 bg.2 Z (F0 m pc la st)) (hRet : ∀ (pc : Nat) (h : ac_H) (bg : Nat × Nat) (H : Heap) (locs : List Loc) (la : Array Slot) (v : Option Value) (ri : Instr), decode cc pc = .ok (ri, 1) → retOK rt ri v → Q (.inl v) h → xRel D cA A h H → va_S A s.heap H locs → bgle bg mb → W p l e R s m args below meth c H locs bg.1 bg.2 Z (F0 m pc la v.toList)) (hJ : ∀ (b t : Nat), sp[b]? = some t → ∀ ls st h bg, J b ls st h bg → xR p l e R s m args below meth c Z D cA A nL mb t ls st h bg) : ∀ (is : ac_I) (pc : Nat) (ls : ac_L) (st : List Value) (h : ac_H) (bg : Nat × Nat), rowOK own isI tr nL sp cc pc is = true → xB call cst ga L xs sl mb hands rt Q J is ls st h bg → xR p l e R s m args below meth c Z D cA A nL mb pc ls st h bg := by
  intro is
  induction is with
  | nil => intro pc ls st h bg _ hxb; exact False.elim hxb
  | cons a is ih =>
    obtain ⟨i, n⟩ := a
    intro pc ls st h bg hrow hxb
    cases i with
    | iadd => exact s_iadd hx hb ih hrow hxb
    | isub => exact s_isub hx hb ih hrow hxb
    | imul => exact s_imul hx hb ih hrow hxb
    | iand => exact s_iand hx hb ih hrow hxb
    | ior => exact s_ior hx hb ih hrow hxb
    | ixor => exact s_ixor hx hb ih hrow hxb
    | ineg => exact s_ineg hx hb ih hrow hxb
    | ladd => exact s_ladd hx hb ih hrow hxb
    | lsub => exact s_lsub hx hb ih hrow hxb
    | lmul => exact s_lmul hx hb ih hrow hxb
    | land => exact s_land hx hb ih hrow hxb
    | lor => exact s_lor hx hb ih hrow hxb
    | lxor => exact s_lxor hx hb ih hrow hxb
    | ishl => exact s_ishl hx hb ih hrow hxb
    | ishr => exact s_ishr hx hb ih hrow hxb
    | i2l => exact s_i2l hx hb ih hrow hxb
    | l2i => exact s_l2i hx hb ih hrow hxb
    | i2b => exact s_i2b hx hb ih hrow hxb
    | i2s => exact s_i2s hx hb ih hrow hxb
    | i2c => exact s_i2c hx hb ih hrow hxb
    | iushr => exact s_iushr hx hb ih hrow hxb
    | lshl => exact s_lshl hx hb ih hrow hxb
    | lshr => exact s_lshr hx hb ih hrow hxb
    | lcmp => exact s_lcmp hx hb ih hrow hxb
    | idiv => exact s_idiv hx hb ih hrow hxb
    | irem => exact s_irem hx hb ih hrow hxb
    | ldiv => exact s_ldiv hx hb ih hrow hxb
    | lrem => exact s_lrem hx hb ih hrow hxb
    | dup => exact s_dup hx hb ih hrow hxb
    | pop => exact s_pop hx hb ih hrow hxb
    | pop2 => exact s_pop2 hx hb ih hrow hxb
    | dup2 => exact s_dup2 hx hb ih hrow hxb
    | iload => exact s_iload hx hb ih hrow hxb
    | lload => exact s_lload hx hb ih hrow hxb
    | aload => exact s_aload hx hb ih hrow hxb
    | istore => exact s_istore hx hb ih hrow hxb
    | astore => exact s_astore hx hb ih hrow hxb
    | lstore => exact s_lstore hx hb ih hrow hxb
    | iinc => exact s_iinc hx hb ih hrow hxb
    | getfield => exact s_getfield hx hb hts hown hK ih hrow hxb
    | iaload => exact s_iaload hx hb hts hown hK ih hrow hxb
    | laload => exact s_laload hx hb hts hown hK ih hrow hxb
    | baload => exact s_baload hx hb hts hown hK ih hrow hxb
    | iastore => exact s_iastore hx hb hts hown hK ih hrow hxb
    | lastore => exact s_lastore hx hb hts hown hK ih hrow hxb
    | bastore => exact s_bastore hx hb hts hown hK ih hrow hxb
    | aaload => exact s_aaload hx hb hts hown hK ih hrow hxb
    | arraylength => exact s_arraylength hx hb hts hown hK ih hrow hxb
    | aastore => exact s_aastore hx hb hts hown hK ih hrow hxb
    | sipush => exact s_sipush hx hb hts hown hK ih hrow hxb
    | ldc2_w => exact s_ldc2_w hx hb hts hown hK ih hrow hxb
    | putfield => exact s_putfield hx hb hts hown hK hI ih hrow hxb
    | ifCond => exact s_ifCond hx hb hJ ih hrow hxb
    | if_icmp => exact s_if_icmp hx hb hJ ih hrow hxb
    | goto => exact s_goto hx hb hJ hrow hxb
    | faload => exact s_faload hx hb hts hown hK hX hbl hbA ih hrow hxb
    | caload => exact s_caload hx hb hts hown hK hX hbl hbA ih hrow hxb
    | daload => exact s_daload hx hb hts hown hK hT1 ih hrow hxb
    | saload => exact s_saload hx hb hts hown hK hT2 ih hrow hxb
    | getstatic => exact s_getstatic hx hb hts hown hK hZ hN ih hrow hxb
    | ldc => exact s_ldc (tx := fun t => stx.getD t "") hx hb hts hown hK hStr ih hrow hxb
    | new => exact s_new hx hb hts hown hK hRC hA ih hrow hxb
    | newarray => exact s_newarray hx hb hts hown hK hRC hA ih hrow hxb
    | anewarray => exact s_anewarray hx hb hts hown hK hO3 hO0 hRC hA ih hrow hxb
    | swap => exact s_swap hx hb hts hown hK hOA hRC hA ih hrow hxb
    | monitorexit => exact s_monitorexit hx hb hts hown hK (Nat.le_trans (by decide) hRL) (Nat.le_trans (by decide) hRF) hml ih hrow hxb
    | monitorenter => exact s_monitorenter hx hb hts hown hK (Nat.le_trans (by decide) hRL) (Nat.le_trans (by decide) hRF) hml ih hrow hxb
    | ireturn => exact s_ireturn hx hb hts hown hK hRet hrow hxb
    | lreturn => exact s_lreturn hx hb hts hown hK hRet hrow hxb
    | areturn => exact s_areturn hx hb hts hown hK hRet hrow hxb
    | return_ => exact s_return_ hx hb hts hown hK hRet hrow hxb
    | tableswitch => exact s_tableswitch hx hb hts hown hK hJ hrow hxb
    | lookupswitch => exact s_lookupswitch hx hb hts hown hK hJ hrow hxb
    | instanceof => exact s_instanceof hTh hrow hxb
    | invokedynamic => exact s_invokedynamic hx hb hts hown hK hSB hRL hRF hRC hml ih hrow hxb
    | multianewarray => exact s_multianewarray hx hb hts hown hK hGB hGBb hRm hRC hml hNest hM hThr ih hrow hxb
    | putstatic => exact s_putstatic hx hb hts hown hK hGB hGBb hRm hRC hml hNest hM hThr ih hrow hxb
    | invokeinterface => exact s_invokeinterface hx hb hts hown hK hGB hGBb hRm hRC hml hNest hM hThr ih hrow hxb
    | ret => exact s_ret hx hb hts hown hK hGB hGBb hRm hRC hml hNest hM hThr ih hrow hxb
    | dload => exact s_dload hx hb hts hown hK hGB hGBb hRm hRC hml hNest hM hThr ih hrow hxb
    | _ => exact False.elim hxb
end SNZ
