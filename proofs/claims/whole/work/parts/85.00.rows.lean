/-! ===== the law's code decodes: rows 0 ===== -/
def stLw : List Nat := starts mL_law
set_option maxRecDepth 100000 in
theorem ckW0_0 : rowOK 8 false 0 8 stLw code (bL_law0.getD 0 (0, [])).1 (bL_law0.getD 0 (0, [])).2 = true := by decide +kernel
set_option maxRecDepth 100000 in
theorem ckW0_1 : rowOK 8 false 0 8 stLw code (bL_law0.getD 1 (0, [])).1 (bL_law0.getD 1 (0, [])).2 = true := by decide +kernel
set_option maxRecDepth 100000 in
theorem ckW0_2 : rowOK 8 false 0 8 stLw code (bL_law0.getD 2 (0, [])).1 (bL_law0.getD 2 (0, [])).2 = true := by decide +kernel
set_option maxRecDepth 100000 in
theorem ckW0_3 : rowOK 8 false 0 8 stLw code (bL_law0.getD 3 (0, [])).1 (bL_law0.getD 3 (0, [])).2 = true := by decide +kernel
theorem ckW0 : ∀ b ∈ bL_law0, rowOK 8 false 0 8 stLw code b.1 b.2 = true := List.forall_mem_cons.mpr ⟨ckW0_0, List.forall_mem_cons.mpr ⟨ckW0_1, List.forall_mem_cons.mpr ⟨ckW0_2, List.forall_mem_cons.mpr ⟨ckW0_3, fun _ h => absurd h List.not_mem_nil⟩⟩⟩⟩
