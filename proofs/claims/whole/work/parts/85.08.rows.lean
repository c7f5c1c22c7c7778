/-! ===== the law's code decodes: rows 8 ===== -/
set_option maxRecDepth 100000 in
theorem ckW8_0 : rowOK 8 false 0 8 stLw code (bL_law8.getD 0 (0, [])).1 (bL_law8.getD 0 (0, [])).2 = true := by decide +kernel
set_option maxRecDepth 100000 in
theorem ckW8_1 : rowOK 8 false 0 8 stLw code (bL_law8.getD 1 (0, [])).1 (bL_law8.getD 1 (0, [])).2 = true := by decide +kernel
set_option maxRecDepth 100000 in
theorem ckW8_2 : rowOK 8 false 0 8 stLw code (bL_law8.getD 2 (0, [])).1 (bL_law8.getD 2 (0, [])).2 = true := by decide +kernel
set_option maxRecDepth 100000 in
theorem ckW8_3 : rowOK 8 false 0 8 stLw code (bL_law8.getD 3 (0, [])).1 (bL_law8.getD 3 (0, [])).2 = true := by decide +kernel
set_option maxRecDepth 100000 in
theorem ckW8_4 : rowOK 8 false 0 8 stLw code (bL_law8.getD 4 (0, [])).1 (bL_law8.getD 4 (0, [])).2 = true := by decide +kernel
set_option maxRecDepth 100000 in
theorem ckW8_5 : rowOK 8 false 0 8 stLw code (bL_law8.getD 5 (0, [])).1 (bL_law8.getD 5 (0, [])).2 = true := by decide +kernel
set_option maxRecDepth 100000 in
theorem ckW8_6 : rowOK 8 false 0 8 stLw code (bL_law8.getD 6 (0, [])).1 (bL_law8.getD 6 (0, [])).2 = true := by decide +kernel
set_option maxRecDepth 100000 in
theorem ckW8_7 : rowOK 8 false 0 8 stLw code (bL_law8.getD 7 (0, [])).1 (bL_law8.getD 7 (0, [])).2 = true := by decide +kernel
set_option maxRecDepth 100000 in
theorem ckW8_8 : rowOK 8 false 0 8 stLw code (bL_law8.getD 8 (0, [])).1 (bL_law8.getD 8 (0, [])).2 = true := by decide +kernel
set_option maxRecDepth 100000 in
theorem ckW8_9 : rowOK 8 false 0 8 stLw code (bL_law8.getD 9 (0, [])).1 (bL_law8.getD 9 (0, [])).2 = true := by decide +kernel
theorem ckW8 : ∀ b ∈ bL_law8, rowOK 8 false 0 8 stLw code b.1 b.2 = true := List.forall_mem_cons.mpr ⟨ckW8_0, List.forall_mem_cons.mpr ⟨ckW8_1, List.forall_mem_cons.mpr ⟨ckW8_2, List.forall_mem_cons.mpr ⟨ckW8_3, List.forall_mem_cons.mpr ⟨ckW8_4, List.forall_mem_cons.mpr ⟨ckW8_5, List.forall_mem_cons.mpr ⟨ckW8_6, List.forall_mem_cons.mpr ⟨ckW8_7, List.forall_mem_cons.mpr ⟨ckW8_8, List.forall_mem_cons.mpr ⟨ckW8_9, fun _ h => absurd h List.not_mem_nil⟩⟩⟩⟩⟩⟩⟩⟩⟩⟩
