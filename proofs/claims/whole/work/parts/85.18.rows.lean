/-! ===== the law's code decodes: rows 18 ===== -/
set_option maxRecDepth 100000 in
theorem ckW18_0 : rowOK 8 false 0 8 stLw code (bL_law18.getD 0 (0, [])).1 (bL_law18.getD 0 (0, [])).2 = true := by decide +kernel
set_option maxRecDepth 100000 in
theorem ckW18_1 : rowOK 8 false 0 8 stLw code (bL_law18.getD 1 (0, [])).1 (bL_law18.getD 1 (0, [])).2 = true := by decide +kernel
set_option maxRecDepth 100000 in
theorem ckW18_2 : rowOK 8 false 0 8 stLw code (bL_law18.getD 2 (0, [])).1 (bL_law18.getD 2 (0, [])).2 = true := by decide +kernel
theorem ckW18 : ∀ b ∈ bL_law18, rowOK 8 false 0 8 stLw code b.1 b.2 = true := List.forall_mem_cons.mpr ⟨ckW18_0, List.forall_mem_cons.mpr ⟨ckW18_1, List.forall_mem_cons.mpr ⟨ckW18_2, fun _ h => absurd h List.not_mem_nil⟩⟩⟩
