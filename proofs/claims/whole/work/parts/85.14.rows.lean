/-! ===== the law's code decodes: rows 14 ===== -/
set_option maxRecDepth 100000 in
theorem ckW14_0 : rowOK 8 false 0 8 stLw code (bL_law14.getD 0 (0, [])).1 (bL_law14.getD 0 (0, [])).2 = true := by decide +kernel
set_option maxRecDepth 100000 in
theorem ckW14_1 : rowOK 8 false 0 8 stLw code (bL_law14.getD 1 (0, [])).1 (bL_law14.getD 1 (0, [])).2 = true := by decide +kernel
set_option maxRecDepth 100000 in
theorem ckW14_2 : rowOK 8 false 0 8 stLw code (bL_law14.getD 2 (0, [])).1 (bL_law14.getD 2 (0, [])).2 = true := by decide +kernel
set_option maxRecDepth 100000 in
theorem ckW14_3 : rowOK 8 false 0 8 stLw code (bL_law14.getD 3 (0, [])).1 (bL_law14.getD 3 (0, [])).2 = true := by decide +kernel
set_option maxRecDepth 100000 in
theorem ckW14_4 : rowOK 8 false 0 8 stLw code (bL_law14.getD 4 (0, [])).1 (bL_law14.getD 4 (0, [])).2 = true := by decide +kernel
set_option maxRecDepth 100000 in
theorem ckW14_5 : rowOK 8 false 0 8 stLw code (bL_law14.getD 5 (0, [])).1 (bL_law14.getD 5 (0, [])).2 = true := by decide +kernel
set_option maxRecDepth 100000 in
theorem ckW14_6 : rowOK 8 false 0 8 stLw code (bL_law14.getD 6 (0, [])).1 (bL_law14.getD 6 (0, [])).2 = true := by decide +kernel
theorem ckW14 : ∀ b ∈ bL_law14, rowOK 8 false 0 8 stLw code b.1 b.2 = true := List.forall_mem_cons.mpr ⟨ckW14_0, List.forall_mem_cons.mpr ⟨ckW14_1, List.forall_mem_cons.mpr ⟨ckW14_2, List.forall_mem_cons.mpr ⟨ckW14_3, List.forall_mem_cons.mpr ⟨ckW14_4, List.forall_mem_cons.mpr ⟨ckW14_5, List.forall_mem_cons.mpr ⟨ckW14_6, fun _ h => absurd h List.not_mem_nil⟩⟩⟩⟩⟩⟩⟩
