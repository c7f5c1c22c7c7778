/-! ===== the abstract machine's steps are the machine's ===== -/
def xR (p : Program) (l : Launch) (e : Env) (R : Room) (s : State) (m : MethodId) (args : Array Value) (below : List Frame) (meth : Method) (c : Code) (Z : State → Prop) (D : va_G) (cA : Nat → ClassId) (A : Nat → Prop) (nL : Nat) (mb : Nat × Nat) (pc : Nat) : ac_X := fun ls st h bg => bgle bg mb → ∀ (H : Heap) (locs : List Loc) (la : Array Slot), xRel D cA A h H → va_S A s.heap H locs → lv_has la nL (lvf 0 ls) → W p l e R s m args below meth c H locs bg.1 bg.2 Z (F0 m pc la st)
theorem row_step {own : Nat} {isI : Bool} {tr : Nat} {nL : Nat} {sp : List Nat} {cc : ByteArray} {pc n : Nat} {ai : Instr} {is : ac_I} (h : ((match decode cc pc with | .ok (ci, n2) => n2 == n && rel own isI tr nL sp pc n ai ci | _ => false) && rowOK own isI tr nL sp cc (pc + n) is) = true) : ∃ ci, decode cc pc = .ok (ci, n) ∧ rel own isI tr nL sp pc n ai ci = true ∧ rowOK own isI tr nL sp cc (pc + n) is = true := by
  rw [Bool.and_eq_true] at h
  obtain ⟨h1, h2⟩ := h
  cases hd : decode cc pc with
  | error x => rw [hd] at h1; cases h1
  | ok x =>
    obtain ⟨ci, n2⟩ := x
    rw [hd] at h1
    simp only [Bool.and_eq_true, beq_iff_eq] at h1
    obtain ⟨e, h1⟩ := h1
    subst e
    exact ⟨ci, rfl, h1, h2⟩
theorem rel_simple {ai ci : Instr} {n : Nat} (h : (simpleI ai && decide (ci = ai) && n == 1) = true) : ci = ai ∧ n = 1 := by
  simp only [Bool.and_eq_true, decide_eq_true_eq, beq_iff_eq] at h
  exact ⟨h.1.2, h.2⟩
theorem jOK_at {sp : List Nat} {pc : Nat} {b off : Int} (h : jOK sp pc b off = true) : ∃ t : Nat, sp[b.toNat]? = some t ∧ (pc : Int) + off = (t : Int) := by
  unfold jOK at h
  cases hs : sp[b.toNat]? with
  | none => rw [hs] at h; cases h
  | some t =>
    rw [hs] at h
    exact ⟨t, rfl, of_decide_eq_true h⟩
section SND
variable {p : Program} {l : Launch} {e : Env} {R : Room} {s : State} {m : MethodId} {args : Array Value} {below : List Frame} {meth : Method} {c : Code} {Z : State → Prop} {D : va_G} {cA : Nat → ClassId} {A : Nat → Prop}
variable {cc : ByteArray} {own : Nat} {isI : Bool} {tr : Nat} {nL : Nat} {sp : List Nat}
variable {call : Nat → List Value → ac_H → ac_P → Prop} {cs : Nat → Nat × Nat} {ga : Nat → Nat} {L : Nat} {xs : Nat → Int32} {sl : Nat → List Int32} {mb : Nat × Nat} {hands : List (Nat × Int)} {rt : Option FieldType} {Q : ac_P} {J : Nat → ac_X}
variable {is : ac_I} {ls : ac_L} {st : List Value} {h : ac_H} {bg : Nat × Nat} {pc n : Nat}

theorem s_iadd (hx : p.tables.exec = Jvm.exec) (hb : c.code = cc)  (ih : ∀ (pc : Nat) (ls : ac_L) (st : List Value) (h : ac_H) (bg : Nat × Nat), rowOK own isI tr nL sp cc pc is = true → xB call cs ga L xs sl mb hands rt Q J is ls st h bg → xR p l e R s m args below meth c Z D cA A nL mb pc ls st h bg) (hrow : rowOK own isI tr nL sp cc pc ((.iadd, n) :: is) = true) (hxb : xB call cs ga L xs sl mb hands rt Q J ((.iadd, n) :: is) ls st h bg) : xR p l e R s m args below meth c Z D cA A nL mb pc ls st h bg := by
  obtain ⟨ci, hd, hr, hw⟩ := row_step (ai := .iadd) hrow
  obtain ⟨rfl, rfl⟩ := rel_simple hr
  simp only [xB] at hxb
  split at hxb
  · intro hbg H locs la hR hS hl
    exact lv_iadd hx hb hd (ih _ _ _ _ _ hw hxb hbg H locs la hR hS hl)
  · exact hxb.elim
theorem s_isub (hx : p.tables.exec = Jvm.exec) (hb : c.code = cc)  (ih : ∀ (pc : Nat) (ls : ac_L) (st : List Value) (h : ac_H) (bg : Nat × Nat), rowOK own isI tr nL sp cc pc is = true → xB call cs ga L xs sl mb hands rt Q J is ls st h bg → xR p l e R s m args below meth c Z D cA A nL mb pc ls st h bg) (hrow : rowOK own isI tr nL sp cc pc ((.isub, n) :: is) = true) (hxb : xB call cs ga L xs sl mb hands rt Q J ((.isub, n) :: is) ls st h bg) : xR p l e R s m args below meth c Z D cA A nL mb pc ls st h bg := by
  obtain ⟨ci, hd, hr, hw⟩ := row_step (ai := .isub) hrow
  obtain ⟨rfl, rfl⟩ := rel_simple hr
  simp only [xB] at hxb
  split at hxb
  · intro hbg H locs la hR hS hl
    exact lv_isub hx hb hd (ih _ _ _ _ _ hw hxb hbg H locs la hR hS hl)
  · exact hxb.elim
theorem s_imul (hx : p.tables.exec = Jvm.exec) (hb : c.code = cc)  (ih : ∀ (pc : Nat) (ls : ac_L) (st : List Value) (h : ac_H) (bg : Nat × Nat), rowOK own isI tr nL sp cc pc is = true → xB call cs ga L xs sl mb hands rt Q J is ls st h bg → xR p l e R s m args below meth c Z D cA A nL mb pc ls st h bg) (hrow : rowOK own isI tr nL sp cc pc ((.imul, n) :: is) = true) (hxb : xB call cs ga L xs sl mb hands rt Q J ((.imul, n) :: is) ls st h bg) : xR p l e R s m args below meth c Z D cA A nL mb pc ls st h bg := by
  obtain ⟨ci, hd, hr, hw⟩ := row_step (ai := .imul) hrow
  obtain ⟨rfl, rfl⟩ := rel_simple hr
  simp only [xB] at hxb
  split at hxb
  · intro hbg H locs la hR hS hl
    exact lv_imul hx hb hd (ih _ _ _ _ _ hw hxb hbg H locs la hR hS hl)
  · exact hxb.elim
theorem s_iand (hx : p.tables.exec = Jvm.exec) (hb : c.code = cc)  (ih : ∀ (pc : Nat) (ls : ac_L) (st : List Value) (h : ac_H) (bg : Nat × Nat), rowOK own isI tr nL sp cc pc is = true → xB call cs ga L xs sl mb hands rt Q J is ls st h bg → xR p l e R s m args below meth c Z D cA A nL mb pc ls st h bg) (hrow : rowOK own isI tr nL sp cc pc ((.iand, n) :: is) = true) (hxb : xB call cs ga L xs sl mb hands rt Q J ((.iand, n) :: is) ls st h bg) : xR p l e R s m args below meth c Z D cA A nL mb pc ls st h bg := by
  obtain ⟨ci, hd, hr, hw⟩ := row_step (ai := .iand) hrow
  obtain ⟨rfl, rfl⟩ := rel_simple hr
  simp only [xB] at hxb
  split at hxb
  · intro hbg H locs la hR hS hl
    exact lv_iand hx hb hd (ih _ _ _ _ _ hw hxb hbg H locs la hR hS hl)
  · exact hxb.elim
theorem s_ior (hx : p.tables.exec = Jvm.exec) (hb : c.code = cc)  (ih : ∀ (pc : Nat) (ls : ac_L) (st : List Value) (h : ac_H) (bg : Nat × Nat), rowOK own isI tr nL sp cc pc is = true → xB call cs ga L xs sl mb hands rt Q J is ls st h bg → xR p l e R s m args below meth c Z D cA A nL mb pc ls st h bg) (hrow : rowOK own isI tr nL sp cc pc ((.ior, n) :: is) = true) (hxb : xB call cs ga L xs sl mb hands rt Q J ((.ior, n) :: is) ls st h bg) : xR p l e R s m args below meth c Z D cA A nL mb pc ls st h bg := by
  obtain ⟨ci, hd, hr, hw⟩ := row_step (ai := .ior) hrow
  obtain ⟨rfl, rfl⟩ := rel_simple hr
  simp only [xB] at hxb
  split at hxb
  · intro hbg H locs la hR hS hl
    exact lv_ior hx hb hd (ih _ _ _ _ _ hw hxb hbg H locs la hR hS hl)
  · exact hxb.elim
theorem s_ixor (hx : p.tables.exec = Jvm.exec) (hb : c.code = cc)  (ih : ∀ (pc : Nat) (ls : ac_L) (st : List Value) (h : ac_H) (bg : Nat × Nat), rowOK own isI tr nL sp cc pc is = true → xB call cs ga L xs sl mb hands rt Q J is ls st h bg → xR p l e R s m args below meth c Z D cA A nL mb pc ls st h bg) (hrow : rowOK own isI tr nL sp cc pc ((.ixor, n) :: is) = true) (hxb : xB call cs ga L xs sl mb hands rt Q J ((.ixor, n) :: is) ls st h bg) : xR p l e R s m args below meth c Z D cA A nL mb pc ls st h bg := by
  obtain ⟨ci, hd, hr, hw⟩ := row_step (ai := .ixor) hrow
  obtain ⟨rfl, rfl⟩ := rel_simple hr
  simp only [xB] at hxb
  split at hxb
  · intro hbg H locs la hR hS hl
    exact lv_ixor hx hb hd (ih _ _ _ _ _ hw hxb hbg H locs la hR hS hl)
  · exact hxb.elim
theorem s_ineg (hx : p.tables.exec = Jvm.exec) (hb : c.code = cc)  (ih : ∀ (pc : Nat) (ls : ac_L) (st : List Value) (h : ac_H) (bg : Nat × Nat), rowOK own isI tr nL sp cc pc is = true → xB call cs ga L xs sl mb hands rt Q J is ls st h bg → xR p l e R s m args below meth c Z D cA A nL mb pc ls st h bg) (hrow : rowOK own isI tr nL sp cc pc ((.ineg, n) :: is) = true) (hxb : xB call cs ga L xs sl mb hands rt Q J ((.ineg, n) :: is) ls st h bg) : xR p l e R s m args below meth c Z D cA A nL mb pc ls st h bg := by
  obtain ⟨ci, hd, hr, hw⟩ := row_step (ai := .ineg) hrow
  obtain ⟨rfl, rfl⟩ := rel_simple hr
  simp only [xB] at hxb
  split at hxb
  · intro hbg H locs la hR hS hl
    exact lv_ineg hx hb hd (ih _ _ _ _ _ hw hxb hbg H locs la hR hS hl)
  · exact hxb.elim
theorem s_ladd (hx : p.tables.exec = Jvm.exec) (hb : c.code = cc)  (ih : ∀ (pc : Nat) (ls : ac_L) (st : List Value) (h : ac_H) (bg : Nat × Nat), rowOK own isI tr nL sp cc pc is = true → xB call cs ga L xs sl mb hands rt Q J is ls st h bg → xR p l e R s m args below meth c Z D cA A nL mb pc ls st h bg) (hrow : rowOK own isI tr nL sp cc pc ((.ladd, n) :: is) = true) (hxb : xB call cs ga L xs sl mb hands rt Q J ((.ladd, n) :: is) ls st h bg) : xR p l e R s m args below meth c Z D cA A nL mb pc ls st h bg := by
  obtain ⟨ci, hd, hr, hw⟩ := row_step (ai := .ladd) hrow
  obtain ⟨rfl, rfl⟩ := rel_simple hr
  simp only [xB] at hxb
  split at hxb
  · intro hbg H locs la hR hS hl
    exact lv_ladd hx hb hd (ih _ _ _ _ _ hw hxb hbg H locs la hR hS hl)
  · exact hxb.elim
theorem s_lsub (hx : p.tables.exec = Jvm.exec) (hb : c.code = cc)  (ih : ∀ (pc : Nat) (ls : ac_L) (st : List Value) (h : ac_H) (bg : Nat × Nat), rowOK own isI tr nL sp cc pc is = true → xB call cs ga L xs sl mb hands rt Q J is ls st h bg → xR p l e R s m args below meth c Z D cA A nL mb pc ls st h bg) (hrow : rowOK own isI tr nL sp cc pc ((.lsub, n) :: is) = true) (hxb : xB call cs ga L xs sl mb hands rt Q J ((.lsub, n) :: is) ls st h bg) : xR p l e R s m args below meth c Z D cA A nL mb pc ls st h bg := by
  obtain ⟨ci, hd, hr, hw⟩ := row_step (ai := .lsub) hrow
  obtain ⟨rfl, rfl⟩ := rel_simple hr
  simp only [xB] at hxb
  split at hxb
  · intro hbg H locs la hR hS hl
    exact lv_lsub hx hb hd (ih _ _ _ _ _ hw hxb hbg H locs la hR hS hl)
  · exact hxb.elim
theorem s_lmul (hx : p.tables.exec = Jvm.exec) (hb : c.code = cc)  (ih : ∀ (pc : Nat) (ls : ac_L) (st : List Value) (h : ac_H) (bg : Nat × Nat), rowOK own isI tr nL sp cc pc is = true → xB call cs ga L xs sl mb hands rt Q J is ls st h bg → xR p l e R s m args below meth c Z D cA A nL mb pc ls st h bg) (hrow : rowOK own isI tr nL sp cc pc ((.lmul, n) :: is) = true) (hxb : xB call cs ga L xs sl mb hands rt Q J ((.lmul, n) :: is) ls st h bg) : xR p l e R s m args below meth c Z D cA A nL mb pc ls st h bg := by
  obtain ⟨ci, hd, hr, hw⟩ := row_step (ai := .lmul) hrow
  obtain ⟨rfl, rfl⟩ := rel_simple hr
  simp only [xB] at hxb
  split at hxb
  · intro hbg H locs la hR hS hl
    exact lv_lmul hx hb hd (ih _ _ _ _ _ hw hxb hbg H locs la hR hS hl)
  · exact hxb.elim
theorem s_land (hx : p.tables.exec = Jvm.exec) (hb : c.code = cc)  (ih : ∀ (pc : Nat) (ls : ac_L) (st : List Value) (h : ac_H) (bg : Nat × Nat), rowOK own isI tr nL sp cc pc is = true → xB call cs ga L xs sl mb hands rt Q J is ls st h bg → xR p l e R s m args below meth c Z D cA A nL mb pc ls st h bg) (hrow : rowOK own isI tr nL sp cc pc ((.land, n) :: is) = true) (hxb : xB call cs ga L xs sl mb hands rt Q J ((.land, n) :: is) ls st h bg) : xR p l e R s m args below meth c Z D cA A nL mb pc ls st h bg := by
  obtain ⟨ci, hd, hr, hw⟩ := row_step (ai := .land) hrow
  obtain ⟨rfl, rfl⟩ := rel_simple hr
  simp only [xB] at hxb
  split at hxb
  · intro hbg H locs la hR hS hl
    exact lv_land hx hb hd (ih _ _ _ _ _ hw hxb hbg H locs la hR hS hl)
  · exact hxb.elim
theorem s_lor (hx : p.tables.exec = Jvm.exec) (hb : c.code = cc)  (ih : ∀ (pc : Nat) (ls : ac_L) (st : List Value) (h : ac_H) (bg : Nat × Nat), rowOK own isI tr nL sp cc pc is = true → xB call cs ga L xs sl mb hands rt Q J is ls st h bg → xR p l e R s m args below meth c Z D cA A nL mb pc ls st h bg) (hrow : rowOK own isI tr nL sp cc pc ((.lor, n) :: is) = true) (hxb : xB call cs ga L xs sl mb hands rt Q J ((.lor, n) :: is) ls st h bg) : xR p l e R s m args below meth c Z D cA A nL mb pc ls st h bg := by
  obtain ⟨ci, hd, hr, hw⟩ := row_step (ai := .lor) hrow
  obtain ⟨rfl, rfl⟩ := rel_simple hr
  simp only [xB] at hxb
  split at hxb
  · intro hbg H locs la hR hS hl
    exact lv_lor hx hb hd (ih _ _ _ _ _ hw hxb hbg H locs la hR hS hl)
  · exact hxb.elim
theorem s_lxor (hx : p.tables.exec = Jvm.exec) (hb : c.code = cc)  (ih : ∀ (pc : Nat) (ls : ac_L) (st : List Value) (h : ac_H) (bg : Nat × Nat), rowOK own isI tr nL sp cc pc is = true → xB call cs ga L xs sl mb hands rt Q J is ls st h bg → xR p l e R s m args below meth c Z D cA A nL mb pc ls st h bg) (hrow : rowOK own isI tr nL sp cc pc ((.lxor, n) :: is) = true) (hxb : xB call cs ga L xs sl mb hands rt Q J ((.lxor, n) :: is) ls st h bg) : xR p l e R s m args below meth c Z D cA A nL mb pc ls st h bg := by
  obtain ⟨ci, hd, hr, hw⟩ := row_step (ai := .lxor) hrow
  obtain ⟨rfl, rfl⟩ := rel_simple hr
  simp only [xB] at hxb
  split at hxb
  · intro hbg H locs la hR hS hl
    exact lv_lxor hx hb hd (ih _ _ _ _ _ hw hxb hbg H locs la hR hS hl)
  · exact hxb.elim
theorem s_ishl (hx : p.tables.exec = Jvm.exec) (hb : c.code = cc)  (ih : ∀ (pc : Nat) (ls : ac_L) (st : List Value) (h : ac_H) (bg : Nat × Nat), rowOK own isI tr nL sp cc pc is = true → xB call cs ga L xs sl mb hands rt Q J is ls st h bg → xR p l e R s m args below meth c Z D cA A nL mb pc ls st h bg) (hrow : rowOK own isI tr nL sp cc pc ((.ishl, n) :: is) = true) (hxb : xB call cs ga L xs sl mb hands rt Q J ((.ishl, n) :: is) ls st h bg) : xR p l e R s m args below meth c Z D cA A nL mb pc ls st h bg := by
  obtain ⟨ci, hd, hr, hw⟩ := row_step (ai := .ishl) hrow
  obtain ⟨rfl, rfl⟩ := rel_simple hr
  simp only [xB] at hxb
  split at hxb
  · intro hbg H locs la hR hS hl
    exact lv_ishl hx hb hd (ih _ _ _ _ _ hw hxb hbg H locs la hR hS hl)
  · exact hxb.elim
theorem s_ishr (hx : p.tables.exec = Jvm.exec) (hb : c.code = cc)  (ih : ∀ (pc : Nat) (ls : ac_L) (st : List Value) (h : ac_H) (bg : Nat × Nat), rowOK own isI tr nL sp cc pc is = true → xB call cs ga L xs sl mb hands rt Q J is ls st h bg → xR p l e R s m args below meth c Z D cA A nL mb pc ls st h bg) (hrow : rowOK own isI tr nL sp cc pc ((.ishr, n) :: is) = true) (hxb : xB call cs ga L xs sl mb hands rt Q J ((.ishr, n) :: is) ls st h bg) : xR p l e R s m args below meth c Z D cA A nL mb pc ls st h bg := by
  obtain ⟨ci, hd, hr, hw⟩ := row_step (ai := .ishr) hrow
  obtain ⟨rfl, rfl⟩ := rel_simple hr
  simp only [xB] at hxb
  split at hxb
  · intro hbg H locs la hR hS hl
    exact lv_ishr hx hb hd (ih _ _ _ _ _ hw hxb hbg H locs la hR hS hl)
  · exact hxb.elim
theorem s_i2l (hx : p.tables.exec = Jvm.exec) (hb : c.code = cc)  (ih : ∀ (pc : Nat) (ls : ac_L) (st : List Value) (h : ac_H) (bg : Nat × Nat), rowOK own isI tr nL sp cc pc is = true → xB call cs ga L xs sl mb hands rt Q J is ls st h bg → xR p l e R s m args below meth c Z D cA A nL mb pc ls st h bg) (hrow : rowOK own isI tr nL sp cc pc ((.i2l, n) :: is) = true) (hxb : xB call cs ga L xs sl mb hands rt Q J ((.i2l, n) :: is) ls st h bg) : xR p l e R s m args below meth c Z D cA A nL mb pc ls st h bg := by
  obtain ⟨ci, hd, hr, hw⟩ := row_step (ai := .i2l) hrow
  obtain ⟨rfl, rfl⟩ := rel_simple hr
  simp only [xB] at hxb
  split at hxb
  · intro hbg H locs la hR hS hl
    exact lv_i2l hx hb hd rfl (ih _ _ _ _ _ hw hxb hbg H locs la hR hS hl)
  · exact hxb.elim
theorem s_l2i (hx : p.tables.exec = Jvm.exec) (hb : c.code = cc)  (ih : ∀ (pc : Nat) (ls : ac_L) (st : List Value) (h : ac_H) (bg : Nat × Nat), rowOK own isI tr nL sp cc pc is = true → xB call cs ga L xs sl mb hands rt Q J is ls st h bg → xR p l e R s m args below meth c Z D cA A nL mb pc ls st h bg) (hrow : rowOK own isI tr nL sp cc pc ((.l2i, n) :: is) = true) (hxb : xB call cs ga L xs sl mb hands rt Q J ((.l2i, n) :: is) ls st h bg) : xR p l e R s m args below meth c Z D cA A nL mb pc ls st h bg := by
  obtain ⟨ci, hd, hr, hw⟩ := row_step (ai := .l2i) hrow
  obtain ⟨rfl, rfl⟩ := rel_simple hr
  simp only [xB] at hxb
  split at hxb
  · intro hbg H locs la hR hS hl
    exact lv_l2i hx hb hd rfl (ih _ _ _ _ _ hw hxb hbg H locs la hR hS hl)
  · exact hxb.elim
theorem s_i2b (hx : p.tables.exec = Jvm.exec) (hb : c.code = cc)  (ih : ∀ (pc : Nat) (ls : ac_L) (st : List Value) (h : ac_H) (bg : Nat × Nat), rowOK own isI tr nL sp cc pc is = true → xB call cs ga L xs sl mb hands rt Q J is ls st h bg → xR p l e R s m args below meth c Z D cA A nL mb pc ls st h bg) (hrow : rowOK own isI tr nL sp cc pc ((.i2b, n) :: is) = true) (hxb : xB call cs ga L xs sl mb hands rt Q J ((.i2b, n) :: is) ls st h bg) : xR p l e R s m args below meth c Z D cA A nL mb pc ls st h bg := by
  obtain ⟨ci, hd, hr, hw⟩ := row_step (ai := .i2b) hrow
  obtain ⟨rfl, rfl⟩ := rel_simple hr
  simp only [xB] at hxb
  split at hxb
  · intro hbg H locs la hR hS hl
    exact lv_i2b hx hb hd rfl (ih _ _ _ _ _ hw hxb hbg H locs la hR hS hl)
  · exact hxb.elim
theorem s_i2s (hx : p.tables.exec = Jvm.exec) (hb : c.code = cc)  (ih : ∀ (pc : Nat) (ls : ac_L) (st : List Value) (h : ac_H) (bg : Nat × Nat), rowOK own isI tr nL sp cc pc is = true → xB call cs ga L xs sl mb hands rt Q J is ls st h bg → xR p l e R s m args below meth c Z D cA A nL mb pc ls st h bg) (hrow : rowOK own isI tr nL sp cc pc ((.i2s, n) :: is) = true) (hxb : xB call cs ga L xs sl mb hands rt Q J ((.i2s, n) :: is) ls st h bg) : xR p l e R s m args below meth c Z D cA A nL mb pc ls st h bg := by
  obtain ⟨ci, hd, hr, hw⟩ := row_step (ai := .i2s) hrow
  obtain ⟨rfl, rfl⟩ := rel_simple hr
  simp only [xB] at hxb
  split at hxb
  · intro hbg H locs la hR hS hl
    exact lv_i2s hx hb hd rfl (ih _ _ _ _ _ hw hxb hbg H locs la hR hS hl)
  · exact hxb.elim
theorem s_i2c (hx : p.tables.exec = Jvm.exec) (hb : c.code = cc)  (ih : ∀ (pc : Nat) (ls : ac_L) (st : List Value) (h : ac_H) (bg : Nat × Nat), rowOK own isI tr nL sp cc pc is = true → xB call cs ga L xs sl mb hands rt Q J is ls st h bg → xR p l e R s m args below meth c Z D cA A nL mb pc ls st h bg) (hrow : rowOK own isI tr nL sp cc pc ((.i2c, n) :: is) = true) (hxb : xB call cs ga L xs sl mb hands rt Q J ((.i2c, n) :: is) ls st h bg) : xR p l e R s m args below meth c Z D cA A nL mb pc ls st h bg := by
  obtain ⟨ci, hd, hr, hw⟩ := row_step (ai := .i2c) hrow
  obtain ⟨rfl, rfl⟩ := rel_simple hr
  simp only [xB] at hxb
  split at hxb
  · intro hbg H locs la hR hS hl
    exact lv_i2c hx hb hd rfl (ih _ _ _ _ _ hw hxb hbg H locs la hR hS hl)
  · exact hxb.elim
theorem s_iushr (hx : p.tables.exec = Jvm.exec) (hb : c.code = cc)  (ih : ∀ (pc : Nat) (ls : ac_L) (st : List Value) (h : ac_H) (bg : Nat × Nat), rowOK own isI tr nL sp cc pc is = true → xB call cs ga L xs sl mb hands rt Q J is ls st h bg → xR p l e R s m args below meth c Z D cA A nL mb pc ls st h bg) (hrow : rowOK own isI tr nL sp cc pc ((.iushr, n) :: is) = true) (hxb : xB call cs ga L xs sl mb hands rt Q J ((.iushr, n) :: is) ls st h bg) : xR p l e R s m args below meth c Z D cA A nL mb pc ls st h bg := by
  obtain ⟨ci, hd, hr, hw⟩ := row_step (ai := .iushr) hrow
  obtain ⟨rfl, rfl⟩ := rel_simple hr
  simp only [xB] at hxb
  split at hxb
  · intro hbg H locs la hR hS hl
    exact lv_iushr hx hb hd rfl (ih _ _ _ _ _ hw hxb hbg H locs la hR hS hl)
  · exact hxb.elim
theorem s_lshl (hx : p.tables.exec = Jvm.exec) (hb : c.code = cc)  (ih : ∀ (pc : Nat) (ls : ac_L) (st : List Value) (h : ac_H) (bg : Nat × Nat), rowOK own isI tr nL sp cc pc is = true → xB call cs ga L xs sl mb hands rt Q J is ls st h bg → xR p l e R s m args below meth c Z D cA A nL mb pc ls st h bg) (hrow : rowOK own isI tr nL sp cc pc ((.lshl, n) :: is) = true) (hxb : xB call cs ga L xs sl mb hands rt Q J ((.lshl, n) :: is) ls st h bg) : xR p l e R s m args below meth c Z D cA A nL mb pc ls st h bg := by
  obtain ⟨ci, hd, hr, hw⟩ := row_step (ai := .lshl) hrow
  obtain ⟨rfl, rfl⟩ := rel_simple hr
  simp only [xB] at hxb
  split at hxb
  · intro hbg H locs la hR hS hl
    exact lv_lshl hx hb hd rfl (ih _ _ _ _ _ hw hxb hbg H locs la hR hS hl)
  · exact hxb.elim
theorem s_lshr (hx : p.tables.exec = Jvm.exec) (hb : c.code = cc)  (ih : ∀ (pc : Nat) (ls : ac_L) (st : List Value) (h : ac_H) (bg : Nat × Nat), rowOK own isI tr nL sp cc pc is = true → xB call cs ga L xs sl mb hands rt Q J is ls st h bg → xR p l e R s m args below meth c Z D cA A nL mb pc ls st h bg) (hrow : rowOK own isI tr nL sp cc pc ((.lshr, n) :: is) = true) (hxb : xB call cs ga L xs sl mb hands rt Q J ((.lshr, n) :: is) ls st h bg) : xR p l e R s m args below meth c Z D cA A nL mb pc ls st h bg := by
  obtain ⟨ci, hd, hr, hw⟩ := row_step (ai := .lshr) hrow
  obtain ⟨rfl, rfl⟩ := rel_simple hr
  simp only [xB] at hxb
  split at hxb
  · intro hbg H locs la hR hS hl
    exact lv_lshr hx hb hd rfl (ih _ _ _ _ _ hw hxb hbg H locs la hR hS hl)
  · exact hxb.elim
theorem s_lcmp (hx : p.tables.exec = Jvm.exec) (hb : c.code = cc)  (ih : ∀ (pc : Nat) (ls : ac_L) (st : List Value) (h : ac_H) (bg : Nat × Nat), rowOK own isI tr nL sp cc pc is = true → xB call cs ga L xs sl mb hands rt Q J is ls st h bg → xR p l e R s m args below meth c Z D cA A nL mb pc ls st h bg) (hrow : rowOK own isI tr nL sp cc pc ((.lcmp, n) :: is) = true) (hxb : xB call cs ga L xs sl mb hands rt Q J ((.lcmp, n) :: is) ls st h bg) : xR p l e R s m args below meth c Z D cA A nL mb pc ls st h bg := by
  obtain ⟨ci, hd, hr, hw⟩ := row_step (ai := .lcmp) hrow
  obtain ⟨rfl, rfl⟩ := rel_simple hr
  simp only [xB] at hxb
  split at hxb
  · intro hbg H locs la hR hS hl
    exact W.lcmp hx hb hd (ih _ _ _ _ _ hw hxb hbg H locs la hR hS hl)
  · exact hxb.elim
theorem s_idiv (hx : p.tables.exec = Jvm.exec) (hb : c.code = cc)  (ih : ∀ (pc : Nat) (ls : ac_L) (st : List Value) (h : ac_H) (bg : Nat × Nat), rowOK own isI tr nL sp cc pc is = true → xB call cs ga L xs sl mb hands rt Q J is ls st h bg → xR p l e R s m args below meth c Z D cA A nL mb pc ls st h bg) (hrow : rowOK own isI tr nL sp cc pc ((.idiv, n) :: is) = true) (hxb : xB call cs ga L xs sl mb hands rt Q J ((.idiv, n) :: is) ls st h bg) : xR p l e R s m args below meth c Z D cA A nL mb pc ls st h bg := by
  obtain ⟨ci, hd, hr, hw⟩ := row_step (ai := .idiv) hrow
  obtain ⟨rfl, rfl⟩ := rel_simple hr
  simp only [xB] at hxb
  split at hxb
  · intro hbg H locs la hR hS hl
    exact lv_idiv hx hb hd hxb.1 (ih _ _ _ _ _ hw hxb.2 hbg H locs la hR hS hl)
  · exact hxb.elim
theorem s_irem (hx : p.tables.exec = Jvm.exec) (hb : c.code = cc)  (ih : ∀ (pc : Nat) (ls : ac_L) (st : List Value) (h : ac_H) (bg : Nat × Nat), rowOK own isI tr nL sp cc pc is = true → xB call cs ga L xs sl mb hands rt Q J is ls st h bg → xR p l e R s m args below meth c Z D cA A nL mb pc ls st h bg) (hrow : rowOK own isI tr nL sp cc pc ((.irem, n) :: is) = true) (hxb : xB call cs ga L xs sl mb hands rt Q J ((.irem, n) :: is) ls st h bg) : xR p l e R s m args below meth c Z D cA A nL mb pc ls st h bg := by
  obtain ⟨ci, hd, hr, hw⟩ := row_step (ai := .irem) hrow
  obtain ⟨rfl, rfl⟩ := rel_simple hr
  simp only [xB] at hxb
  split at hxb
  · intro hbg H locs la hR hS hl
    exact lv_irem hx hb hd hxb.1 (ih _ _ _ _ _ hw hxb.2 hbg H locs la hR hS hl)
  · exact hxb.elim
theorem s_ldiv (hx : p.tables.exec = Jvm.exec) (hb : c.code = cc)  (ih : ∀ (pc : Nat) (ls : ac_L) (st : List Value) (h : ac_H) (bg : Nat × Nat), rowOK own isI tr nL sp cc pc is = true → xB call cs ga L xs sl mb hands rt Q J is ls st h bg → xR p l e R s m args below meth c Z D cA A nL mb pc ls st h bg) (hrow : rowOK own isI tr nL sp cc pc ((.ldiv, n) :: is) = true) (hxb : xB call cs ga L xs sl mb hands rt Q J ((.ldiv, n) :: is) ls st h bg) : xR p l e R s m args below meth c Z D cA A nL mb pc ls st h bg := by
  obtain ⟨ci, hd, hr, hw⟩ := row_step (ai := .ldiv) hrow
  obtain ⟨rfl, rfl⟩ := rel_simple hr
  simp only [xB] at hxb
  split at hxb
  · intro hbg H locs la hR hS hl
    exact lv_ldiv hx hb hd hxb.1 (ih _ _ _ _ _ hw hxb.2 hbg H locs la hR hS hl)
  · exact hxb.elim
theorem s_lrem (hx : p.tables.exec = Jvm.exec) (hb : c.code = cc)  (ih : ∀ (pc : Nat) (ls : ac_L) (st : List Value) (h : ac_H) (bg : Nat × Nat), rowOK own isI tr nL sp cc pc is = true → xB call cs ga L xs sl mb hands rt Q J is ls st h bg → xR p l e R s m args below meth c Z D cA A nL mb pc ls st h bg) (hrow : rowOK own isI tr nL sp cc pc ((.lrem, n) :: is) = true) (hxb : xB call cs ga L xs sl mb hands rt Q J ((.lrem, n) :: is) ls st h bg) : xR p l e R s m args below meth c Z D cA A nL mb pc ls st h bg := by
  obtain ⟨ci, hd, hr, hw⟩ := row_step (ai := .lrem) hrow
  obtain ⟨rfl, rfl⟩ := rel_simple hr
  simp only [xB] at hxb
  split at hxb
  · intro hbg H locs la hR hS hl
    exact lv_lrem hx hb hd hxb.1 (ih _ _ _ _ _ hw hxb.2 hbg H locs la hR hS hl)
  · exact hxb.elim
theorem s_dup (hx : p.tables.exec = Jvm.exec) (hb : c.code = cc)  (ih : ∀ (pc : Nat) (ls : ac_L) (st : List Value) (h : ac_H) (bg : Nat × Nat), rowOK own isI tr nL sp cc pc is = true → xB call cs ga L xs sl mb hands rt Q J is ls st h bg → xR p l e R s m args below meth c Z D cA A nL mb pc ls st h bg) (hrow : rowOK own isI tr nL sp cc pc ((.dup, n) :: is) = true) (hxb : xB call cs ga L xs sl mb hands rt Q J ((.dup, n) :: is) ls st h bg) : xR p l e R s m args below meth c Z D cA A nL mb pc ls st h bg := by
  obtain ⟨ci, hd, hr, hw⟩ := row_step (ai := .dup) hrow
  obtain ⟨rfl, rfl⟩ := rel_simple hr
  simp only [xB] at hxb
  split at hxb
  · intro hbg H locs la hR hS hl
    exact lv_dup hx hb hd rfl (ih _ _ _ _ _ hw hxb hbg H locs la hR hS hl)
  · intro hbg H locs la hR hS hl
    exact lv_dup hx hb hd rfl (ih _ _ _ _ _ hw hxb hbg H locs la hR hS hl)
  · exact hxb.elim
theorem s_pop (hx : p.tables.exec = Jvm.exec) (hb : c.code = cc)  (ih : ∀ (pc : Nat) (ls : ac_L) (st : List Value) (h : ac_H) (bg : Nat × Nat), rowOK own isI tr nL sp cc pc is = true → xB call cs ga L xs sl mb hands rt Q J is ls st h bg → xR p l e R s m args below meth c Z D cA A nL mb pc ls st h bg) (hrow : rowOK own isI tr nL sp cc pc ((.pop, n) :: is) = true) (hxb : xB call cs ga L xs sl mb hands rt Q J ((.pop, n) :: is) ls st h bg) : xR p l e R s m args below meth c Z D cA A nL mb pc ls st h bg := by
  obtain ⟨ci, hd, hr, hw⟩ := row_step (ai := .pop) hrow
  obtain ⟨rfl, rfl⟩ := rel_simple hr
  simp only [xB] at hxb
  split at hxb
  · intro hbg H locs la hR hS hl
    exact lv_pop hx hb hd rfl (ih _ _ _ _ _ hw hxb hbg H locs la hR hS hl)
  · intro hbg H locs la hR hS hl
    exact lv_pop hx hb hd rfl (ih _ _ _ _ _ hw hxb hbg H locs la hR hS hl)
  · exact hxb.elim
theorem s_pop2 (hx : p.tables.exec = Jvm.exec) (hb : c.code = cc)  (ih : ∀ (pc : Nat) (ls : ac_L) (st : List Value) (h : ac_H) (bg : Nat × Nat), rowOK own isI tr nL sp cc pc is = true → xB call cs ga L xs sl mb hands rt Q J is ls st h bg → xR p l e R s m args below meth c Z D cA A nL mb pc ls st h bg) (hrow : rowOK own isI tr nL sp cc pc ((.pop2, n) :: is) = true) (hxb : xB call cs ga L xs sl mb hands rt Q J ((.pop2, n) :: is) ls st h bg) : xR p l e R s m args below meth c Z D cA A nL mb pc ls st h bg := by
  obtain ⟨ci, hd, hr, hw⟩ := row_step (ai := .pop2) hrow
  obtain ⟨rfl, rfl⟩ := rel_simple hr
  simp only [xB] at hxb
  split at hxb
  · intro hbg H locs la hR hS hl
    exact lv_pop2_2 hx hb hd rfl (ih _ _ _ _ _ hw hxb hbg H locs la hR hS hl)
  · exact hxb.elim
theorem s_dup2 (hx : p.tables.exec = Jvm.exec) (hb : c.code = cc)  (ih : ∀ (pc : Nat) (ls : ac_L) (st : List Value) (h : ac_H) (bg : Nat × Nat), rowOK own isI tr nL sp cc pc is = true → xB call cs ga L xs sl mb hands rt Q J is ls st h bg → xR p l e R s m args below meth c Z D cA A nL mb pc ls st h bg) (hrow : rowOK own isI tr nL sp cc pc ((.dup2, n) :: is) = true) (hxb : xB call cs ga L xs sl mb hands rt Q J ((.dup2, n) :: is) ls st h bg) : xR p l e R s m args below meth c Z D cA A nL mb pc ls st h bg := by
  obtain ⟨ci, hd, hr, hw⟩ := row_step (ai := .dup2) hrow
  obtain ⟨rfl, rfl⟩ := rel_simple hr
  simp only [xB] at hxb
  split at hxb
  · intro hbg H locs la hR hS hl
    exact lv_dup2_11 hx hb hd rfl rfl (ih _ _ _ _ _ hw hxb hbg H locs la hR hS hl)
  · intro hbg H locs la hR hS hl
    exact lv_dup2_2 hx hb hd rfl (ih _ _ _ _ _ hw hxb hbg H locs la hR hS hl)
  · exact hxb.elim
theorem s_iload (hx : p.tables.exec = Jvm.exec) (hb : c.code = cc) {i : Nat} (ih : ∀ (pc : Nat) (ls : ac_L) (st : List Value) (h : ac_H) (bg : Nat × Nat), rowOK own isI tr nL sp cc pc is = true → xB call cs ga L xs sl mb hands rt Q J is ls st h bg → xR p l e R s m args below meth c Z D cA A nL mb pc ls st h bg) (hrow : rowOK own isI tr nL sp cc pc ((.iload i, n) :: is) = true) (hxb : xB call cs ga L xs sl mb hands rt Q J ((.iload i, n) :: is) ls st h bg) : xR p l e R s m args below meth c Z D cA A nL mb pc ls st h bg := by
  obtain ⟨ci, hd, hr, hw⟩ := row_step (ai := .iload i) hrow
  simp only [xB] at hxb
  split at hxb
  · rename_i v hg
    intro hbg H locs la hR hS hl
    have hla := lv_get hl hg
    simp only [rel] at hr
    split at hr
    · simp only [Bool.and_eq_true, beq_iff_eq] at hr
      obtain ⟨rfl, rfl⟩ := hr
      exact lv_iload hx hb hd hla (ih _ _ _ _ _ hw hxb hbg H locs la hR hS hl)
    · simp only [Bool.and_eq_true, beq_iff_eq] at hr
      obtain ⟨rfl, hj⟩ := hr
      exact lv_iload_n hx hb hd hj hla (ih _ _ _ _ _ hw hxb hbg H locs la hR hS hl)
    · cases hr
  · exact hxb.elim
theorem s_lload (hx : p.tables.exec = Jvm.exec) (hb : c.code = cc) {i : Nat} (ih : ∀ (pc : Nat) (ls : ac_L) (st : List Value) (h : ac_H) (bg : Nat × Nat), rowOK own isI tr nL sp cc pc is = true → xB call cs ga L xs sl mb hands rt Q J is ls st h bg → xR p l e R s m args below meth c Z D cA A nL mb pc ls st h bg) (hrow : rowOK own isI tr nL sp cc pc ((.lload i, n) :: is) = true) (hxb : xB call cs ga L xs sl mb hands rt Q J ((.lload i, n) :: is) ls st h bg) : xR p l e R s m args below meth c Z D cA A nL mb pc ls st h bg := by
  obtain ⟨ci, hd, hr, hw⟩ := row_step (ai := .lload i) hrow
  simp only [xB] at hxb
  split at hxb
  · rename_i v hg
    intro hbg H locs la hR hS hl
    have hla := lv_get hl hg
    simp only [rel] at hr
    split at hr
    · simp only [Bool.and_eq_true, beq_iff_eq] at hr
      obtain ⟨rfl, rfl⟩ := hr
      exact lv_lload hx hb hd hla (ih _ _ _ _ _ hw hxb hbg H locs la hR hS hl)
    · simp only [Bool.and_eq_true, beq_iff_eq] at hr
      obtain ⟨rfl, hj⟩ := hr
      exact lv_lload_n hx hb hd hj hla (ih _ _ _ _ _ hw hxb hbg H locs la hR hS hl)
    · cases hr
  · exact hxb.elim
theorem s_aload (hx : p.tables.exec = Jvm.exec) (hb : c.code = cc) {i : Nat} (ih : ∀ (pc : Nat) (ls : ac_L) (st : List Value) (h : ac_H) (bg : Nat × Nat), rowOK own isI tr nL sp cc pc is = true → xB call cs ga L xs sl mb hands rt Q J is ls st h bg → xR p l e R s m args below meth c Z D cA A nL mb pc ls st h bg) (hrow : rowOK own isI tr nL sp cc pc ((.aload i, n) :: is) = true) (hxb : xB call cs ga L xs sl mb hands rt Q J ((.aload i, n) :: is) ls st h bg) : xR p l e R s m args below meth c Z D cA A nL mb pc ls st h bg := by
  obtain ⟨ci, hd, hr, hw⟩ := row_step (ai := .aload i) hrow
  simp only [xB] at hxb
  split at hxb
  · rename_i v hg
    intro hbg H locs la hR hS hl
    have hla := lv_get hl hg
    simp only [rel] at hr
    split at hr
    · simp only [Bool.and_eq_true, beq_iff_eq] at hr
      obtain ⟨rfl, rfl⟩ := hr
      exact lv_aload hx hb hd hla (ih _ _ _ _ _ hw hxb hbg H locs la hR hS hl)
    · simp only [Bool.and_eq_true, beq_iff_eq] at hr
      obtain ⟨rfl, hj⟩ := hr
      exact lv_aload_n hx hb hd hj hla (ih _ _ _ _ _ hw hxb hbg H locs la hR hS hl)
    · cases hr
  · exact hxb.elim
theorem s_istore (hx : p.tables.exec = Jvm.exec) (hb : c.code = cc) {i : Nat} (ih : ∀ (pc : Nat) (ls : ac_L) (st : List Value) (h : ac_H) (bg : Nat × Nat), rowOK own isI tr nL sp cc pc is = true → xB call cs ga L xs sl mb hands rt Q J is ls st h bg → xR p l e R s m args below meth c Z D cA A nL mb pc ls st h bg) (hrow : rowOK own isI tr nL sp cc pc ((.istore i, n) :: is) = true) (hxb : xB call cs ga L xs sl mb hands rt Q J ((.istore i, n) :: is) ls st h bg) : xR p l e R s m args below meth c Z D cA A nL mb pc ls st h bg := by
  obtain ⟨ci, hd, hr, hw⟩ := row_step (ai := .istore i) hrow
  simp only [xB] at hxb
  split at hxb
  · intro hbg H locs la hR hS hl
    simp only [rel] at hr
    split at hr
    · simp only [Bool.and_eq_true, beq_iff_eq, decide_eq_true_eq] at hr
      obtain ⟨⟨rfl, rfl⟩, hi⟩ := hr
      exact lv_istore hx hb hd hl hi rfl (fun la2 hl2 => ih _ _ _ _ _ hw hxb.2 hbg H locs la2 hR hS (lv_put1 hxb.1 hl2))
    · simp only [Bool.and_eq_true, beq_iff_eq, decide_eq_true_eq] at hr
      obtain ⟨⟨rfl, hj⟩, hi⟩ := hr
      exact lv_istore_n hx hb hd hj hl hi rfl (fun la2 hl2 => ih _ _ _ _ _ hw hxb.2 hbg H locs la2 hR hS (lv_put1 hxb.1 hl2))
    · cases hr
  · exact hxb.elim
theorem s_astore (hx : p.tables.exec = Jvm.exec) (hb : c.code = cc) {i : Nat} (ih : ∀ (pc : Nat) (ls : ac_L) (st : List Value) (h : ac_H) (bg : Nat × Nat), rowOK own isI tr nL sp cc pc is = true → xB call cs ga L xs sl mb hands rt Q J is ls st h bg → xR p l e R s m args below meth c Z D cA A nL mb pc ls st h bg) (hrow : rowOK own isI tr nL sp cc pc ((.astore i, n) :: is) = true) (hxb : xB call cs ga L xs sl mb hands rt Q J ((.astore i, n) :: is) ls st h bg) : xR p l e R s m args below meth c Z D cA A nL mb pc ls st h bg := by
  obtain ⟨ci, hd, hr, hw⟩ := row_step (ai := .astore i) hrow
  simp only [xB] at hxb
  split at hxb
  · intro hbg H locs la hR hS hl
    simp only [rel] at hr
    split at hr
    · simp only [Bool.and_eq_true, beq_iff_eq, decide_eq_true_eq] at hr
      obtain ⟨⟨rfl, rfl⟩, hi⟩ := hr
      exact lv_astore hx hb hd hl hi rfl (fun la2 hl2 => ih _ _ _ _ _ hw hxb.2 hbg H locs la2 hR hS (lv_put1 hxb.1 hl2))
    · simp only [Bool.and_eq_true, beq_iff_eq, decide_eq_true_eq] at hr
      obtain ⟨⟨rfl, hj⟩, hi⟩ := hr
      exact lv_astore_n hx hb hd hj hl hi rfl (fun la2 hl2 => ih _ _ _ _ _ hw hxb.2 hbg H locs la2 hR hS (lv_put1 hxb.1 hl2))
    · cases hr
  · exact hxb.elim
theorem s_lstore (hx : p.tables.exec = Jvm.exec) (hb : c.code = cc) {i : Nat} (ih : ∀ (pc : Nat) (ls : ac_L) (st : List Value) (h : ac_H) (bg : Nat × Nat), rowOK own isI tr nL sp cc pc is = true → xB call cs ga L xs sl mb hands rt Q J is ls st h bg → xR p l e R s m args below meth c Z D cA A nL mb pc ls st h bg) (hrow : rowOK own isI tr nL sp cc pc ((.lstore i, n) :: is) = true) (hxb : xB call cs ga L xs sl mb hands rt Q J ((.lstore i, n) :: is) ls st h bg) : xR p l e R s m args below meth c Z D cA A nL mb pc ls st h bg := by
  obtain ⟨ci, hd, hr, hw⟩ := row_step (ai := .lstore i) hrow
  simp only [xB] at hxb
  split at hxb
  · intro hbg H locs la hR hS hl
    simp only [rel] at hr
    split at hr
    · simp only [Bool.and_eq_true, beq_iff_eq, decide_eq_true_eq] at hr
      obtain ⟨⟨rfl, rfl⟩, hi⟩ := hr
      exact lv_lstore hx hb hd hl hi rfl (fun la2 hl2 => ih _ _ _ _ _ hw hxb.2 hbg H locs la2 hR hS (lv_put2 hxb.1 hl2))
    · simp only [Bool.and_eq_true, beq_iff_eq, decide_eq_true_eq] at hr
      obtain ⟨⟨rfl, hj⟩, hi⟩ := hr
      exact lv_lstore_n hx hb hd hj hl hi rfl (fun la2 hl2 => ih _ _ _ _ _ hw hxb.2 hbg H locs la2 hR hS (lv_put2 hxb.1 hl2))
    · cases hr
  · exact hxb.elim
theorem s_iinc (hx : p.tables.exec = Jvm.exec) (hb : c.code = cc) {i : Nat} {k : Int} (ih : ∀ (pc : Nat) (ls : ac_L) (st : List Value) (h : ac_H) (bg : Nat × Nat), rowOK own isI tr nL sp cc pc is = true → xB call cs ga L xs sl mb hands rt Q J is ls st h bg → xR p l e R s m args below meth c Z D cA A nL mb pc ls st h bg) (hrow : rowOK own isI tr nL sp cc pc ((.iinc i k, n) :: is) = true) (hxb : xB call cs ga L xs sl mb hands rt Q J ((.iinc i k, n) :: is) ls st h bg) : xR p l e R s m args below meth c Z D cA A nL mb pc ls st h bg := by
  obtain ⟨ci, hd, hr, hw⟩ := row_step (ai := .iinc i k) hrow
  simp only [xB] at hxb
  split at hxb
  · rename_i v hg
    intro hbg H locs la hR hS hl
    simp only [rel] at hr
    split at hr
    · simp only [Bool.and_eq_true, beq_iff_eq, decide_eq_true_eq] at hr
      obtain ⟨⟨⟨rfl, rfl⟩, rfl⟩, hi⟩ := hr
      obtain ⟨kk, hkk⟩ := List.getElem?_of_mem (lvf_mem0.mpr hg)
      exact lv_iinc hx hb hd hl hkk rfl hi rfl (fun la2 hl2 => ih _ _ _ _ _ hw hxb.2 hbg H locs la2 hR hS (lv_put1 hxb.1 hl2))
    · cases hr
  · exact hxb.elim
theorem s_ifCond (hx : p.tables.exec = Jvm.exec) (hb : c.code = cc) {d : ClassFile.Cond} {b : Int} (hJ : ∀ (b t : Nat), sp[b]? = some t → ∀ ls st h bg, J b ls st h bg → xR p l e R s m args below meth c Z D cA A nL mb t ls st h bg) (ih : ∀ (pc : Nat) (ls : ac_L) (st : List Value) (h : ac_H) (bg : Nat × Nat), rowOK own isI tr nL sp cc pc is = true → xB call cs ga L xs sl mb hands rt Q J is ls st h bg → xR p l e R s m args below meth c Z D cA A nL mb pc ls st h bg) (hrow : rowOK own isI tr nL sp cc pc ((.ifCond d b, n) :: is) = true) (hxb : xB call cs ga L xs sl mb hands rt Q J ((.ifCond d b, n) :: is) ls st h bg) : xR p l e R s m args below meth c Z D cA A nL mb pc ls st h bg := by
  obtain ⟨ci, hd, hr, hw⟩ := row_step (ai := .ifCond d b) hrow
  simp only [xB] at hxb
  split at hxb
  · intro hbg H locs la hR hS hl
    simp only [rel] at hr
    split at hr
    · simp only [Bool.and_eq_true, beq_iff_eq, decide_eq_true_eq] at hr
      obtain ⟨⟨rfl, rfl⟩, hj⟩ := hr
      obtain ⟨t, ht, hto⟩ := jOK_at hj
      have k1 := fun h9 => hJ b.toNat t ht _ _ _ _ (hxb.1 h9) hbg H locs la hR hS hl
      have k2 := fun h9 => ih _ _ _ _ _ hw (hxb.2 h9) hbg H locs la hR hS hl
      cases d
      · exact lv_if_eq hx hb hd hto k1 k2
      · exact lv_if_ne hx hb hd hto k1 (fun q => k2 (fun z => z q))
      · exact lv_if_lt hx hb hd hto k1 k2
      · exact lv_if_ge hx hb hd hto k1 k2
      · exact lv_if_gt hx hb hd hto k1 k2
      · exact lv_if_le hx hb hd hto k1 k2
    · cases hr
  · exact hxb.elim
theorem s_if_icmp (hx : p.tables.exec = Jvm.exec) (hb : c.code = cc) {d : ClassFile.Cond} {b : Int} (hJ : ∀ (b t : Nat), sp[b]? = some t → ∀ ls st h bg, J b ls st h bg → xR p l e R s m args below meth c Z D cA A nL mb t ls st h bg) (ih : ∀ (pc : Nat) (ls : ac_L) (st : List Value) (h : ac_H) (bg : Nat × Nat), rowOK own isI tr nL sp cc pc is = true → xB call cs ga L xs sl mb hands rt Q J is ls st h bg → xR p l e R s m args below meth c Z D cA A nL mb pc ls st h bg) (hrow : rowOK own isI tr nL sp cc pc ((.if_icmp d b, n) :: is) = true) (hxb : xB call cs ga L xs sl mb hands rt Q J ((.if_icmp d b, n) :: is) ls st h bg) : xR p l e R s m args below meth c Z D cA A nL mb pc ls st h bg := by
  obtain ⟨ci, hd, hr, hw⟩ := row_step (ai := .if_icmp d b) hrow
  simp only [xB] at hxb
  split at hxb
  · intro hbg H locs la hR hS hl
    simp only [rel] at hr
    split at hr
    · simp only [Bool.and_eq_true, beq_iff_eq, decide_eq_true_eq] at hr
      obtain ⟨⟨rfl, rfl⟩, hj⟩ := hr
      obtain ⟨t, ht, hto⟩ := jOK_at hj
      have k1 := fun h9 => hJ b.toNat t ht _ _ _ _ (hxb.1 h9) hbg H locs la hR hS hl
      have k2 := fun h9 => ih _ _ _ _ _ hw (hxb.2 h9) hbg H locs la hR hS hl
      cases d
      · exact lv_icmp_eq hx hb hd hto k1 k2
      · exact lv_icmp_ne hx hb hd hto k1 (fun q => k2 (fun z => z q))
      · exact lv_icmp_lt hx hb hd hto k1 k2
      · exact lv_icmp_ge hx hb hd hto k1 k2
      · exact lv_icmp_gt hx hb hd hto k1 k2
      · exact lv_icmp_le hx hb hd hto k1 k2
    · cases hr
  · exact hxb.elim
theorem s_goto (hx : p.tables.exec = Jvm.exec) (hb : c.code = cc) {b : Int} (hJ : ∀ (b t : Nat), sp[b]? = some t → ∀ ls st h bg, J b ls st h bg → xR p l e R s m args below meth c Z D cA A nL mb t ls st h bg) (hrow : rowOK own isI tr nL sp cc pc ((.goto b, n) :: is) = true) (hxb : xB call cs ga L xs sl mb hands rt Q J ((.goto b, n) :: is) ls st h bg) : xR p l e R s m args below meth c Z D cA A nL mb pc ls st h bg := by
  simp only [xB] at hxb
  cases n with
  | zero =>
    have h1 : (is.isEmpty && (match sp[b.toNat]? with | some t => t == pc | none => false)) = true := hrow
    rw [Bool.and_eq_true] at h1
    obtain ⟨-, h1⟩ := h1
    cases hs : sp[b.toNat]? with
    | none => rw [hs] at h1; cases h1
    | some t =>
      rw [hs] at h1
      have e : t = pc := by simpa using h1
      subst e
      exact hJ _ _ hs _ _ _ _ hxb
  | succ n =>
    obtain ⟨ci, hd, hr, -⟩ := row_step (ai := .goto b) hrow
    simp only [rel] at hr
    split at hr
    · simp only [Bool.and_eq_true, beq_iff_eq] at hr
      obtain ⟨hn, hj⟩ := hr
      obtain ⟨t, ht, hto⟩ := jOK_at hj
      intro hbg H locs la hR hS hl
      rw [hn] at hd
      exact lv_goto hx hb hd hto (hJ _ _ ht _ _ _ _ hxb hbg H locs la hR hS hl)
    · cases hr
end SND
