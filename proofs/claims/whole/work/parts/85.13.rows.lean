/-! ===== the law's code decodes: rows 13 ===== -/
set_option maxRecDepth 100000 in
theorem ckW13_0 : rowOK 8 false 0 8 stLw code (bL_law13.getD 0 (0, [])).1 (bL_law13.getD 0 (0, [])).2 = true := by decide +kernel
set_option maxRecDepth 100000 in
theorem ckW13_1 : rowOK 8 false 0 8 stLw code (bL_law13.getD 1 (0, [])).1 (bL_law13.getD 1 (0, [])).2 = true := by decide +kernel
set_option maxRecDepth 100000 in
theorem ckW13_2 : rowOK 8 false 0 8 stLw code (bL_law13.getD 2 (0, [])).1 (bL_law13.getD 2 (0, [])).2 = true := by decide +kernel
set_option maxRecDepth 100000 in
theorem ckW13_3 : rowOK 8 false 0 8 stLw code (bL_law13.getD 3 (0, [])).1 (bL_law13.getD 3 (0, [])).2 = true := by decide +kernel
set_option maxRecDepth 100000 in
theorem ckW13_4 : rowOK 8 false 0 8 stLw code (bL_law13.getD 4 (0, [])).1 (bL_law13.getD 4 (0, [])).2 = true := by decide +kernel
set_option maxRecDepth 100000 in
theorem ckW13_5 : rowOK 8 false 0 8 stLw code (bL_law13.getD 5 (0, [])).1 (bL_law13.getD 5 (0, [])).2 = true := by decide +kernel
set_option maxRecDepth 100000 in
theorem ckW13_6 : rowOK 8 false 0 8 stLw code (bL_law13.getD 6 (0, [])).1 (bL_law13.getD 6 (0, [])).2 = true := by decide +kernel
set_option maxRecDepth 100000 in
theorem ckW13_7 : rowOK 8 false 0 8 stLw code (bL_law13.getD 7 (0, [])).1 (bL_law13.getD 7 (0, [])).2 = true := by decide +kernel
theorem ckW13 : ∀ b ∈ bL_law13, rowOK 8 false 0 8 stLw code b.1 b.2 = true := List.forall_mem_cons.mpr ⟨ckW13_0, List.forall_mem_cons.mpr ⟨ckW13_1, List.forall_mem_cons.mpr ⟨ckW13_2, List.forall_mem_cons.mpr ⟨ckW13_3, List.forall_mem_cons.mpr ⟨ckW13_4, List.forall_mem_cons.mpr ⟨ckW13_5, List.forall_mem_cons.mpr ⟨ckW13_6, List.forall_mem_cons.mpr ⟨ckW13_7, fun _ h => absurd h List.not_mem_nil⟩⟩⟩⟩⟩⟩⟩⟩
