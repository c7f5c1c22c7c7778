/-! ===== the law's code decodes: rows 3 ===== -/
set_option maxRecDepth 100000 in
theorem ckW3_0 : rowOK 8 false 0 8 stLw code (bL_law3.getD 0 (0, [])).1 (bL_law3.getD 0 (0, [])).2 = true := by decide +kernel
set_option maxRecDepth 100000 in
theorem ckW3_1 : rowOK 8 false 0 8 stLw code (bL_law3.getD 1 (0, [])).1 (bL_law3.getD 1 (0, [])).2 = true := by decide +kernel
set_option maxRecDepth 100000 in
theorem ckW3_2 : rowOK 8 false 0 8 stLw code (bL_law3.getD 2 (0, [])).1 (bL_law3.getD 2 (0, [])).2 = true := by decide +kernel
set_option maxRecDepth 100000 in
theorem ckW3_3 : rowOK 8 false 0 8 stLw code (bL_law3.getD 3 (0, [])).1 (bL_law3.getD 3 (0, [])).2 = true := by decide +kernel
set_option maxRecDepth 100000 in
theorem ckW3_4 : rowOK 8 false 0 8 stLw code (bL_law3.getD 4 (0, [])).1 (bL_law3.getD 4 (0, [])).2 = true := by decide +kernel
set_option maxRecDepth 100000 in
theorem ckW3_5 : rowOK 8 false 0 8 stLw code (bL_law3.getD 5 (0, [])).1 (bL_law3.getD 5 (0, [])).2 = true := by decide +kernel
set_option maxRecDepth 100000 in
theorem ckW3_6 : rowOK 8 false 0 8 stLw code (bL_law3.getD 6 (0, [])).1 (bL_law3.getD 6 (0, [])).2 = true := by decide +kernel
set_option maxRecDepth 100000 in
theorem ckW3_7 : rowOK 8 false 0 8 stLw code (bL_law3.getD 7 (0, [])).1 (bL_law3.getD 7 (0, [])).2 = true := by decide +kernel
set_option maxRecDepth 100000 in
theorem ckW3_8 : rowOK 8 false 0 8 stLw code (bL_law3.getD 8 (0, [])).1 (bL_law3.getD 8 (0, [])).2 = true := by decide +kernel
set_option maxRecDepth 100000 in
theorem ckW3_9 : rowOK 8 false 0 8 stLw code (bL_law3.getD 9 (0, [])).1 (bL_law3.getD 9 (0, [])).2 = true := by decide +kernel
set_option maxRecDepth 100000 in
theorem ckW3_10 : rowOK 8 false 0 8 stLw code (bL_law3.getD 10 (0, [])).1 (bL_law3.getD 10 (0, [])).2 = true := by decide +kernel
theorem ckW3 : ∀ b ∈ bL_law3, rowOK 8 false 0 8 stLw code b.1 b.2 = true := List.forall_mem_cons.mpr ⟨ckW3_0, List.forall_mem_cons.mpr ⟨ckW3_1, List.forall_mem_cons.mpr ⟨ckW3_2, List.forall_mem_cons.mpr ⟨ckW3_3, List.forall_mem_cons.mpr ⟨ckW3_4, List.forall_mem_cons.mpr ⟨ckW3_5, List.forall_mem_cons.mpr ⟨ckW3_6, List.forall_mem_cons.mpr ⟨ckW3_7, List.forall_mem_cons.mpr ⟨ckW3_8, List.forall_mem_cons.mpr ⟨ckW3_9, List.forall_mem_cons.mpr ⟨ckW3_10, fun _ h => absurd h List.not_mem_nil⟩⟩⟩⟩⟩⟩⟩⟩⟩⟩⟩
