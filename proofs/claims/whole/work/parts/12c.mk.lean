/-! ===== the methods' words; calls ===== -/
def mOKb (m : ac_M) : Bool :=
  plainFor (mY m) && decide ((mY m).cls ≠ "java/lang/invoke/MethodHandle") && decide ((mY m).cls ≠ "java/lang/invoke/VarHandle") &&
  decide ((parseMethodDescriptor (mY m).desc).map (fun d => d.parameters.length) = some (mN m)) &&
  decide (lw_tbl[(mP m).getD 1 0]? = some (.initialized (mY m).cls)) &&
  (if mT m = [] then decide (lw_tbl[(mP m).getD 0 0]? = some (.code (mY m) (mC m) (mL m) (mR m))) else decide (lw_tbl[(mP m).getD 0 0]? = some (.codeWith (mY m) (mC m) (mL m) (mR m) (mT m)))) &&
  (if mK m = 1 ∨ mK m = 6 then decide (lw_tbl[(mP m).getD 2 0]? = some (.static (mY m))) else decide (lw_tbl[(mP m).getD 2 0]? = some (.instanceMethod (mY m)))) &&
  (if mK m = 0 then decide (lw_tbl[(mP m).getD 3 0]? = some (.selects (mY m).cls (mY m) (mY m))) else true) &&
  (if mK m = 2 then decide ((mY m).name = "<init>") && decide (mR m = none) else true) && (if mK m = 6 then true else decide (mT m = [])) && (if mT m = [] then decide (mH m = []) else true)
set_option maxRecDepth 100000 in
theorem mk0 : ∀ m ∈ ms0, mOKb m = true := by decide +kernel
set_option maxRecDepth 100000 in
theorem mk1 : ∀ m ∈ ms1, mOKb m = true := by decide +kernel
set_option maxRecDepth 100000 in
theorem mk2 : ∀ m ∈ ms2, mOKb m = true := by decide +kernel
set_option maxRecDepth 100000 in
theorem mk3 : ∀ m ∈ ms3, mOKb m = true := by decide +kernel
set_option maxRecDepth 100000 in
theorem mk4 : ∀ m ∈ ms4, mOKb m = true := by decide +kernel
set_option maxRecDepth 100000 in
theorem mk5 : ∀ m ∈ ms5, mOKb m = true := by decide +kernel
set_option maxRecDepth 100000 in
theorem mk6 : ∀ m ∈ ms6, mOKb m = true := by decide +kernel
set_option maxRecDepth 100000 in
theorem mk7 : ∀ m ∈ ms7, mOKb m = true := by decide +kernel
set_option maxRecDepth 100000 in
theorem mk8 : ∀ m ∈ ms8, mOKb m = true := by decide +kernel
set_option maxRecDepth 100000 in
theorem mk9 : ∀ m ∈ ms9, mOKb m = true := by decide +kernel
set_option maxRecDepth 100000 in
theorem mk10 : ∀ m ∈ ms10, mOKb m = true := by decide +kernel
theorem mkAll : ∀ m ∈ methods, mOKb m = true := by
  intro m hm
  unfold methods at hm
  rcases List.mem_append.mp hm with hm | hm
  · exact mk0 m hm
  rcases List.mem_append.mp hm with hm | hm
  · exact mk1 m hm
  rcases List.mem_append.mp hm with hm | hm
  · exact mk2 m hm
  rcases List.mem_append.mp hm with hm | hm
  · exact mk3 m hm
  rcases List.mem_append.mp hm with hm | hm
  · exact mk4 m hm
  rcases List.mem_append.mp hm with hm | hm
  · exact mk5 m hm
  rcases List.mem_append.mp hm with hm | hm
  · exact mk6 m hm
  rcases List.mem_append.mp hm with hm | hm
  · exact mk7 m hm
  rcases List.mem_append.mp hm with hm | hm
  · exact mk8 m hm
  rcases List.mem_append.mp hm with hm | hm
  · exact mk9 m hm
  exact mk10 m hm
def mthOKb (q : Nat × Nat × Nat × Nat × Nat) : Bool := match methods[q.2.2.1]? with
  | none => false
  | some m => (if q.2.1 = 4 ∨ q.2.1 = 5 then true else decide (lw_tbl[q.2.2.2.2]? = some (.methodLink (oR q.1) q.2.2.2.1 (mY m)))) && (if q.2.1 = 4 then decide (mK m = 1) else if q.2.1 = 5 then decide (mK m = 2) else decide (mK m = q.2.1))
set_option maxRecDepth 100000 in
theorem mth_ok : ∀ q ∈ mthTab, mthOKb q = true := by decide +kernel
