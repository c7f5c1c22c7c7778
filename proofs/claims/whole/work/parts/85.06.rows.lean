/-! ===== the law's code decodes: rows 6 ===== -/
set_option maxRecDepth 100000 in
theorem ckW6_0 : rowOK 8 false 0 8 stLw code (bL_law6.getD 0 (0, [])).1 (bL_law6.getD 0 (0, [])).2 = true := by decide +kernel
set_option maxRecDepth 100000 in
theorem ckW6_1 : rowOK 8 false 0 8 stLw code (bL_law6.getD 1 (0, [])).1 (bL_law6.getD 1 (0, [])).2 = true := by decide +kernel
set_option maxRecDepth 100000 in
theorem ckW6_2 : rowOK 8 false 0 8 stLw code (bL_law6.getD 2 (0, [])).1 (bL_law6.getD 2 (0, [])).2 = true := by decide +kernel
set_option maxRecDepth 100000 in
theorem ckW6_3 : rowOK 8 false 0 8 stLw code (bL_law6.getD 3 (0, [])).1 (bL_law6.getD 3 (0, [])).2 = true := by decide +kernel
set_option maxRecDepth 100000 in
theorem ckW6_4 : rowOK 8 false 0 8 stLw code (bL_law6.getD 4 (0, [])).1 (bL_law6.getD 4 (0, [])).2 = true := by decide +kernel
set_option maxRecDepth 100000 in
theorem ckW6_5 : rowOK 8 false 0 8 stLw code (bL_law6.getD 5 (0, [])).1 (bL_law6.getD 5 (0, [])).2 = true := by decide +kernel
set_option maxRecDepth 100000 in
theorem ckW6_6 : rowOK 8 false 0 8 stLw code (bL_law6.getD 6 (0, [])).1 (bL_law6.getD 6 (0, [])).2 = true := by decide +kernel
set_option maxRecDepth 100000 in
theorem ckW6_7 : rowOK 8 false 0 8 stLw code (bL_law6.getD 7 (0, [])).1 (bL_law6.getD 7 (0, [])).2 = true := by decide +kernel
set_option maxRecDepth 100000 in
theorem ckW6_8 : rowOK 8 false 0 8 stLw code (bL_law6.getD 8 (0, [])).1 (bL_law6.getD 8 (0, [])).2 = true := by decide +kernel
theorem ckW6 : ∀ b ∈ bL_law6, rowOK 8 false 0 8 stLw code b.1 b.2 = true := List.forall_mem_cons.mpr ⟨ckW6_0, List.forall_mem_cons.mpr ⟨ckW6_1, List.forall_mem_cons.mpr ⟨ckW6_2, List.forall_mem_cons.mpr ⟨ckW6_3, List.forall_mem_cons.mpr ⟨ckW6_4, List.forall_mem_cons.mpr ⟨ckW6_5, List.forall_mem_cons.mpr ⟨ckW6_6, List.forall_mem_cons.mpr ⟨ckW6_7, List.forall_mem_cons.mpr ⟨ckW6_8, fun _ h => absurd h List.not_mem_nil⟩⟩⟩⟩⟩⟩⟩⟩⟩
