/-! ===== calls ===== -/
/-- what a method's words are -/
def wsK (m : ac_M) : List Cond := (if mT m = [] then Cond.code (mY m) (mC m) (mL m) (mR m) else Cond.codeWith (mY m) (mC m) (mL m) (mR m) (mT m)) :: WG
def rmK (F Lc : Nat) (m : ac_M) : Room := { frames := F, cells := (mB m).1, slots := (mB m).2, locals := Lc }
/-- a method's facts -/
def mFacts (m : ac_M) : Prop := plainFor (mY m) = true ∧ ((mY m).cls ≠ "java/lang/invoke/MethodHandle" ∧ (mY m).cls ≠ "java/lang/invoke/VarHandle" ∧ (parseMethodDescriptor (mY m).desc).map (fun d => d.parameters.length) = some (mN m)) ∧ Cond.initialized (mY m).cls ∈ WG ∧ (mT m = [] → Cond.code (mY m) (mC m) (mL m) (mR m) ∈ WG) ∧ (¬ mT m = [] → Cond.codeWith (mY m) (mC m) (mL m) (mR m) (mT m) ∈ WG) ∧ ((mK m = 1 ∨ mK m = 6) → Cond.static (mY m) ∈ WG) ∧ (¬ (mK m = 1 ∨ mK m = 6) → Cond.instanceMethod (mY m) ∈ WG) ∧ (mK m = 0 → Cond.selects (mY m).cls (mY m) (mY m) ∈ WG) ∧ (mK m = 2 → (mY m).name = "<init>" ∧ mR m = none) ∧ (¬ mK m = 6 → mT m = []) ∧ (mT m = [] → mH m = [])
theorem mFacts_of {m : ac_M} (hm : m ∈ methods) : mFacts m := by
  have h := mkAll m hm
  unfold mOKb at h
  simp only [Bool.and_eq_true, decide_eq_true_eq] at h
  obtain ⟨⟨⟨⟨⟨⟨⟨⟨⟨⟨h1, h2⟩, h3⟩, h4⟩, h5⟩, h6⟩, h7⟩, h8⟩, h9⟩, h10⟩, h11⟩ := h
  refine ⟨h1, ⟨h2, h3, h4⟩, wg_in h5 rfl, fun e => ?_, fun e => ?_, fun e => ?_, fun e => ?_, fun e => ?_, fun e => ?_, fun e => ?_, fun e => ?_⟩
  · rw [if_pos e, decide_eq_true_eq] at h6; exact wg_in h6 rfl
  · rw [if_neg e, decide_eq_true_eq] at h6; exact wg_in h6 rfl
  · rw [if_pos e, decide_eq_true_eq] at h7; exact wg_in h7 rfl
  · rw [if_neg e, decide_eq_true_eq] at h7; exact wg_in h7 rfl
  · rw [if_pos e, decide_eq_true_eq] at h8; exact wg_in h8 rfl
  · rw [if_pos e] at h9; simpa using h9
  · rw [if_neg e, decide_eq_true_eq] at h10; exact h10
  · rw [if_pos e, decide_eq_true_eq] at h11; exact h11
theorem WG_good {w : Cond} (h : w ∈ WG) : (w.onTables && w.keeps) = true ∨ ∃ ty, w = .arrayClass ty := good_of_word (List.mem_filter.mp h).2
theorem good_WG {ws : List Cond} (h : ∀ w ∈ ws, w ∈ WG) : GoodIn WG ws := fun w hw => ⟨h w hw, WG_good (h w hw)⟩
theorem wsK_WG {m : ac_M} (hf : mFacts m) : ∀ w ∈ wsK m, w ∈ WG := by
  intro w hw
  rcases List.mem_cons.mp hw with h | h
  · by_cases e : mT m = []
    · rw [if_pos e] at h; rw [h]; exact hf.2.2.2.1 e
    · rw [if_neg e] at h; rw [h]; exact hf.2.2.2.2.1 e
  · exact h
def QcP (D : va_G) (cA : Nat → ClassId) (A : Nat → Prop) (P : ac_P) : Array Value → State → Outcome → State → Prop := fun _ st oc t => (∃ (v : Option Value) (h : ac_H), oc = .returned v ∧ P (.inl v) h ∧ xRel D cA A h t.heap) ∧ va_F A st t
def XcP (D : va_G) (cA : Nat → ClassId) (A : Nat → Prop) (P : ac_P) : String → State → State → Prop := fun E st t => (∃ (k : Nat) (h : ac_H), k < 4 ∧ E = exN k ∧ P (.inr k) h ∧ xRel D cA A h t.heap) ∧ va_F A st t
def xMet (l : Launch) (D : va_G) (cA : Nat → ClassId) (A : Nat → Prop) (GB : State → Prop) (F Lc : Nat) (m : ac_M) (as : List Value) (h : ac_H) (P : ac_P) : Prop := vx_Met l (mY m) (wsK m) (rmK F Lc m) (va_Pc as (fun U => GB U ∧ xRel D cA A h U.heap)) (QcP D cA A P) (XcP D cA A P) (mB m).1 (mB m).2 A
section SNC
variable {p : Program} {l : Launch} {e : Env} {R : Room} {s : State} {m : MethodId} {args : Array Value} {below : List Frame} {meth : Method} {c : Code} {Z : State → Prop} {D : va_G} {cA : Nat → ClassId} {A : Nat → Prop}
variable {cc : ByteArray} {own : Nat} {isI : Bool} {tr : Nat} {nL : Nat} {sp : List Nat}
variable {call : Nat → List Value → ac_H → ac_P → Prop} {cs : Nat → Nat × Nat} {ga : Nat → Nat} {L : Nat} {xs : Nat → Int32} {sl : Nat → List Int32} {mb : Nat × Nat} {hands : List (Nat × Int)} {rt : Option FieldType} {Q : ac_P} {J : Nat → ac_X}
variable {is : ac_I} {ls : ac_L} {st : List Value} {h : ac_H} {bg : Nat × Nat} {pc n : Nat}

theorem run_go {mc ms : Nat} {arr : Array Value} {H : Heap} {locs : List Loc} {la : Array Slot} {rest st0 : List Value} {bg2 : Nat × Nat} (hr : vx_Run p l e R s m args below meth c H locs bg.1 bg.2 mc ms (F0 m pc la st0) rest (QcP D cA A (xK Q hands (xB call cs ga L xs sl mb hands rt Q J is) ls rest bg2) arr) (XcP D cA A (xK Q hands (xB call cs ga L xs sl mb hands rt Q J is) ls rest bg2)) A) (hS : va_S A s.heap H locs) (hb2 : bg2 = bgad bg (mc, ms)) (hbb : bgle bg2 mb) (hl : lv_has la nL (lvf 0 ls)) (hw : rowOK own isI tr nL sp cc (pc + 3) is = true) (htr : tr = 0 ∨ pc < tr)
    (ih : ∀ (pc : Nat) (ls : ac_L) (st : List Value) (h : ac_H) (bg : Nat × Nat), rowOK own isI tr nL sp cc pc is = true → xB call cs ga L xs sl mb hands rt Q J is ls st h bg → xR p l e R s m args below meth c Z D cA A nL mb pc ls st h bg)
    (hThr : ∀ (k pc : Nat) (h : ac_H) (bg : Nat × Nat) (H : Heap) (locs : List Loc) (la : Array Slot) (rest : List Value) (q : Addr) (ce : Cell), k < 4 → (tr = 0 ∨ pc < tr) → (match hands.lookup k with | some c9 => Q (.inl (some (.int (kI c9)))) h | none => Q (.inr k) h) → xRel D cA A h H → va_S A s.heap H locs → bgle bg mb → lv_has la nL [] → H[q]? = some ce → ce.vm = .none → s.vm.findClass (exN k) = some ce.cls → vx_W p l e R s m args below meth c H locs bg.1 bg.2 Z (F0 m pc la rest) q) :
    W p l e R s m args below meth c H locs bg.1 bg.2 Z (F0 m pc la st0) := by
  intro T hT X
  subst hb2
  rcases hr T hT X with ⟨v, st₀, t, T', L9, h0, X', hL, e1, e2, ⟨⟨v', h', hv, hP', hrel⟩, hF⟩, stp⟩ | ⟨q, st₀, t, T', L9, E, ce, h0, X', hL, e1, e2, ⟨⟨k, h', hk, hE, hP', hrel⟩, hF⟩, hce, hcv, hcl, stp⟩
  · cases hv
    obtain ⟨-, -, hS1⟩ := vx_keep h0 e1 hS (fun _ _ h => h) (fun _ h => h) hL hF
    rw [← e1] at hrel
    cases v with
    | none =>
      obtain ⟨t2, a1, b1⟩ := ih _ _ _ _ _ hw hP' hbb T'.heap _ la hrel hS1 hl T' rfl X'
      exact ⟨t2, stp t2 a1, b1⟩
    | some v =>
      obtain ⟨t2, a1, b1⟩ := ih _ _ _ _ _ hw hP' hbb T'.heap _ la hrel hS1 hl T' rfl X'
      exact ⟨t2, stp t2 a1, b1⟩
  · obtain ⟨-, -, hS1⟩ := vx_keep h0 e1 hS (fun _ _ h => h) (fun _ h => h) hL hF
    rw [← e1] at hrel hce
    subst hE
    have hP2 : (match hands.lookup k with | some c9 => Q (.inl (some (.int (kI c9)))) h' | none => Q (.inr k) h') := hP'
    obtain ⟨t2, a1, b1⟩ := hThr k pc h' _ T'.heap _ la rest q ce hk htr hP2 hrel hS1 hbb ⟨hl.1, hl.2.1, fun _ h => nomatch h⟩ hce hcv hcl T' rfl X'
    exact ⟨t2, stp.trans a1, b1⟩
end SNC
