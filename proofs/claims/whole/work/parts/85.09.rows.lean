/-! ===== the law's code decodes: rows 9 ===== -/
set_option maxRecDepth 100000 in
theorem ckW9_0 : rowOK 8 false 0 8 stLw code (bL_law9.getD 0 (0, [])).1 (bL_law9.getD 0 (0, [])).2 = true := by decide +kernel
set_option maxRecDepth 100000 in
theorem ckW9_1 : rowOK 8 false 0 8 stLw code (bL_law9.getD 1 (0, [])).1 (bL_law9.getD 1 (0, [])).2 = true := by decide +kernel
set_option maxRecDepth 100000 in
theorem ckW9_2 : rowOK 8 false 0 8 stLw code (bL_law9.getD 2 (0, [])).1 (bL_law9.getD 2 (0, [])).2 = true := by decide +kernel
set_option maxRecDepth 100000 in
theorem ckW9_3 : rowOK 8 false 0 8 stLw code (bL_law9.getD 3 (0, [])).1 (bL_law9.getD 3 (0, [])).2 = true := by decide +kernel
set_option maxRecDepth 100000 in
theorem ckW9_4 : rowOK 8 false 0 8 stLw code (bL_law9.getD 4 (0, [])).1 (bL_law9.getD 4 (0, [])).2 = true := by decide +kernel
set_option maxRecDepth 100000 in
theorem ckW9_5 : rowOK 8 false 0 8 stLw code (bL_law9.getD 5 (0, [])).1 (bL_law9.getD 5 (0, [])).2 = true := by decide +kernel
set_option maxRecDepth 100000 in
theorem ckW9_6 : rowOK 8 false 0 8 stLw code (bL_law9.getD 6 (0, [])).1 (bL_law9.getD 6 (0, [])).2 = true := by decide +kernel
set_option maxRecDepth 100000 in
theorem ckW9_7 : rowOK 8 false 0 8 stLw code (bL_law9.getD 7 (0, [])).1 (bL_law9.getD 7 (0, [])).2 = true := by decide +kernel
set_option maxRecDepth 100000 in
theorem ckW9_8 : rowOK 8 false 0 8 stLw code (bL_law9.getD 8 (0, [])).1 (bL_law9.getD 8 (0, [])).2 = true := by decide +kernel
theorem ckW9 : ∀ b ∈ bL_law9, rowOK 8 false 0 8 stLw code b.1 b.2 = true := List.forall_mem_cons.mpr ⟨ckW9_0, List.forall_mem_cons.mpr ⟨ckW9_1, List.forall_mem_cons.mpr ⟨ckW9_2, List.forall_mem_cons.mpr ⟨ckW9_3, List.forall_mem_cons.mpr ⟨ckW9_4, List.forall_mem_cons.mpr ⟨ckW9_5, List.forall_mem_cons.mpr ⟨ckW9_6, List.forall_mem_cons.mpr ⟨ckW9_7, List.forall_mem_cons.mpr ⟨ckW9_8, fun _ h => absurd h List.not_mem_nil⟩⟩⟩⟩⟩⟩⟩⟩⟩
