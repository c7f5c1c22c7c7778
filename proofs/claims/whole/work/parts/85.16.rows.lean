/-! ===== the law's code decodes: rows 16 ===== -/
set_option maxRecDepth 100000 in
theorem ckW16_0 : rowOK 8 false 0 8 stLw code (bL_law16.getD 0 (0, [])).1 (bL_law16.getD 0 (0, [])).2 = true := by decide +kernel
set_option maxRecDepth 100000 in
theorem ckW16_1 : rowOK 8 false 0 8 stLw code (bL_law16.getD 1 (0, [])).1 (bL_law16.getD 1 (0, [])).2 = true := by decide +kernel
set_option maxRecDepth 100000 in
theorem ckW16_2 : rowOK 8 false 0 8 stLw code (bL_law16.getD 2 (0, [])).1 (bL_law16.getD 2 (0, [])).2 = true := by decide +kernel
set_option maxRecDepth 100000 in
theorem ckW16_3 : rowOK 8 false 0 8 stLw code (bL_law16.getD 3 (0, [])).1 (bL_law16.getD 3 (0, [])).2 = true := by decide +kernel
set_option maxRecDepth 100000 in
theorem ckW16_4 : rowOK 8 false 0 8 stLw code (bL_law16.getD 4 (0, [])).1 (bL_law16.getD 4 (0, [])).2 = true := by decide +kernel
set_option maxRecDepth 100000 in
theorem ckW16_5 : rowOK 8 false 0 8 stLw code (bL_law16.getD 5 (0, [])).1 (bL_law16.getD 5 (0, [])).2 = true := by decide +kernel
set_option maxRecDepth 100000 in
theorem ckW16_6 : rowOK 8 false 0 8 stLw code (bL_law16.getD 6 (0, [])).1 (bL_law16.getD 6 (0, [])).2 = true := by decide +kernel
theorem ckW16 : ∀ b ∈ bL_law16, rowOK 8 false 0 8 stLw code b.1 b.2 = true := List.forall_mem_cons.mpr ⟨ckW16_0, List.forall_mem_cons.mpr ⟨ckW16_1, List.forall_mem_cons.mpr ⟨ckW16_2, List.forall_mem_cons.mpr ⟨ckW16_3, List.forall_mem_cons.mpr ⟨ckW16_4, List.forall_mem_cons.mpr ⟨ckW16_5, List.forall_mem_cons.mpr ⟨ckW16_6, fun _ h => absurd h List.not_mem_nil⟩⟩⟩⟩⟩⟩⟩
