/-! ===== the law's code decodes: rows 5 ===== -/
set_option maxRecDepth 100000 in
theorem ckW5_0 : rowOK 8 false 0 8 stLw code (bL_law5.getD 0 (0, [])).1 (bL_law5.getD 0 (0, [])).2 = true := by decide +kernel
set_option maxRecDepth 100000 in
theorem ckW5_1 : rowOK 8 false 0 8 stLw code (bL_law5.getD 1 (0, [])).1 (bL_law5.getD 1 (0, [])).2 = true := by decide +kernel
set_option maxRecDepth 100000 in
theorem ckW5_2 : rowOK 8 false 0 8 stLw code (bL_law5.getD 2 (0, [])).1 (bL_law5.getD 2 (0, [])).2 = true := by decide +kernel
set_option maxRecDepth 100000 in
theorem ckW5_3 : rowOK 8 false 0 8 stLw code (bL_law5.getD 3 (0, [])).1 (bL_law5.getD 3 (0, [])).2 = true := by decide +kernel
set_option maxRecDepth 100000 in
theorem ckW5_4 : rowOK 8 false 0 8 stLw code (bL_law5.getD 4 (0, [])).1 (bL_law5.getD 4 (0, [])).2 = true := by decide +kernel
set_option maxRecDepth 100000 in
theorem ckW5_5 : rowOK 8 false 0 8 stLw code (bL_law5.getD 5 (0, [])).1 (bL_law5.getD 5 (0, [])).2 = true := by decide +kernel
theorem ckW5 : ∀ b ∈ bL_law5, rowOK 8 false 0 8 stLw code b.1 b.2 = true := List.forall_mem_cons.mpr ⟨ckW5_0, List.forall_mem_cons.mpr ⟨ckW5_1, List.forall_mem_cons.mpr ⟨ckW5_2, List.forall_mem_cons.mpr ⟨ckW5_3, List.forall_mem_cons.mpr ⟨ckW5_4, List.forall_mem_cons.mpr ⟨ckW5_5, fun _ h => absurd h List.not_mem_nil⟩⟩⟩⟩⟩⟩
