/-! ===== the law's code decodes: rows 1 ===== -/
set_option maxRecDepth 100000 in
theorem ckW1_0 : rowOK 8 false 0 8 stLw code (bL_law1.getD 0 (0, [])).1 (bL_law1.getD 0 (0, [])).2 = true := by decide +kernel
set_option maxRecDepth 100000 in
theorem ckW1_1 : rowOK 8 false 0 8 stLw code (bL_law1.getD 1 (0, [])).1 (bL_law1.getD 1 (0, [])).2 = true := by decide +kernel
set_option maxRecDepth 100000 in
theorem ckW1_2 : rowOK 8 false 0 8 stLw code (bL_law1.getD 2 (0, [])).1 (bL_law1.getD 2 (0, [])).2 = true := by decide +kernel
set_option maxRecDepth 100000 in
theorem ckW1_3 : rowOK 8 false 0 8 stLw code (bL_law1.getD 3 (0, [])).1 (bL_law1.getD 3 (0, [])).2 = true := by decide +kernel
set_option maxRecDepth 100000 in
theorem ckW1_4 : rowOK 8 false 0 8 stLw code (bL_law1.getD 4 (0, [])).1 (bL_law1.getD 4 (0, [])).2 = true := by decide +kernel
set_option maxRecDepth 100000 in
theorem ckW1_5 : rowOK 8 false 0 8 stLw code (bL_law1.getD 5 (0, [])).1 (bL_law1.getD 5 (0, [])).2 = true := by decide +kernel
set_option maxRecDepth 100000 in
theorem ckW1_6 : rowOK 8 false 0 8 stLw code (bL_law1.getD 6 (0, [])).1 (bL_law1.getD 6 (0, [])).2 = true := by decide +kernel
theorem ckW1 : ∀ b ∈ bL_law1, rowOK 8 false 0 8 stLw code b.1 b.2 = true := List.forall_mem_cons.mpr ⟨ckW1_0, List.forall_mem_cons.mpr ⟨ckW1_1, List.forall_mem_cons.mpr ⟨ckW1_2, List.forall_mem_cons.mpr ⟨ckW1_3, List.forall_mem_cons.mpr ⟨ckW1_4, List.forall_mem_cons.mpr ⟨ckW1_5, List.forall_mem_cons.mpr ⟨ckW1_6, fun _ h => absurd h List.not_mem_nil⟩⟩⟩⟩⟩⟩⟩
