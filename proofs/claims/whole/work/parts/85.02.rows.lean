/-! ===== the law's code decodes: rows 2 ===== -/
set_option maxRecDepth 100000 in
theorem ckW2_0 : rowOK 8 false 0 8 stLw code (bL_law2.getD 0 (0, [])).1 (bL_law2.getD 0 (0, [])).2 = true := by decide +kernel
set_option maxRecDepth 100000 in
theorem ckW2_1 : rowOK 8 false 0 8 stLw code (bL_law2.getD 1 (0, [])).1 (bL_law2.getD 1 (0, [])).2 = true := by decide +kernel
set_option maxRecDepth 100000 in
theorem ckW2_2 : rowOK 8 false 0 8 stLw code (bL_law2.getD 2 (0, [])).1 (bL_law2.getD 2 (0, [])).2 = true := by decide +kernel
set_option maxRecDepth 100000 in
theorem ckW2_3 : rowOK 8 false 0 8 stLw code (bL_law2.getD 3 (0, [])).1 (bL_law2.getD 3 (0, [])).2 = true := by decide +kernel
set_option maxRecDepth 100000 in
theorem ckW2_4 : rowOK 8 false 0 8 stLw code (bL_law2.getD 4 (0, [])).1 (bL_law2.getD 4 (0, [])).2 = true := by decide +kernel
set_option maxRecDepth 100000 in
theorem ckW2_5 : rowOK 8 false 0 8 stLw code (bL_law2.getD 5 (0, [])).1 (bL_law2.getD 5 (0, [])).2 = true := by decide +kernel
set_option maxRecDepth 100000 in
theorem ckW2_6 : rowOK 8 false 0 8 stLw code (bL_law2.getD 6 (0, [])).1 (bL_law2.getD 6 (0, [])).2 = true := by decide +kernel
set_option maxRecDepth 100000 in
theorem ckW2_7 : rowOK 8 false 0 8 stLw code (bL_law2.getD 7 (0, [])).1 (bL_law2.getD 7 (0, [])).2 = true := by decide +kernel
set_option maxRecDepth 100000 in
theorem ckW2_8 : rowOK 8 false 0 8 stLw code (bL_law2.getD 8 (0, [])).1 (bL_law2.getD 8 (0, [])).2 = true := by decide +kernel
set_option maxRecDepth 100000 in
theorem ckW2_9 : rowOK 8 false 0 8 stLw code (bL_law2.getD 9 (0, [])).1 (bL_law2.getD 9 (0, [])).2 = true := by decide +kernel
set_option maxRecDepth 100000 in
theorem ckW2_10 : rowOK 8 false 0 8 stLw code (bL_law2.getD 10 (0, [])).1 (bL_law2.getD 10 (0, [])).2 = true := by decide +kernel
theorem ckW2 : ∀ b ∈ bL_law2, rowOK 8 false 0 8 stLw code b.1 b.2 = true := List.forall_mem_cons.mpr ⟨ckW2_0, List.forall_mem_cons.mpr ⟨ckW2_1, List.forall_mem_cons.mpr ⟨ckW2_2, List.forall_mem_cons.mpr ⟨ckW2_3, List.forall_mem_cons.mpr ⟨ckW2_4, List.forall_mem_cons.mpr ⟨ckW2_5, List.forall_mem_cons.mpr ⟨ckW2_6, List.forall_mem_cons.mpr ⟨ckW2_7, List.forall_mem_cons.mpr ⟨ckW2_8, List.forall_mem_cons.mpr ⟨ckW2_9, List.forall_mem_cons.mpr ⟨ckW2_10, fun _ h => absurd h List.not_mem_nil⟩⟩⟩⟩⟩⟩⟩⟩⟩⟩⟩
