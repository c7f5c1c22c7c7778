/-! ===== the law's code decodes: rows 4 ===== -/
set_option maxRecDepth 100000 in
theorem ckW4_0 : rowOK 8 false 0 8 stLw code (bL_law4.getD 0 (0, [])).1 (bL_law4.getD 0 (0, [])).2 = true := by decide +kernel
set_option maxRecDepth 100000 in
theorem ckW4_1 : rowOK 8 false 0 8 stLw code (bL_law4.getD 1 (0, [])).1 (bL_law4.getD 1 (0, [])).2 = true := by decide +kernel
set_option maxRecDepth 100000 in
theorem ckW4_2 : rowOK 8 false 0 8 stLw code (bL_law4.getD 2 (0, [])).1 (bL_law4.getD 2 (0, [])).2 = true := by decide +kernel
set_option maxRecDepth 100000 in
theorem ckW4_3 : rowOK 8 false 0 8 stLw code (bL_law4.getD 3 (0, [])).1 (bL_law4.getD 3 (0, [])).2 = true := by decide +kernel
set_option maxRecDepth 100000 in
theorem ckW4_4 : rowOK 8 false 0 8 stLw code (bL_law4.getD 4 (0, [])).1 (bL_law4.getD 4 (0, [])).2 = true := by decide +kernel
set_option maxRecDepth 100000 in
theorem ckW4_5 : rowOK 8 false 0 8 stLw code (bL_law4.getD 5 (0, [])).1 (bL_law4.getD 5 (0, [])).2 = true := by decide +kernel
set_option maxRecDepth 100000 in
theorem ckW4_6 : rowOK 8 false 0 8 stLw code (bL_law4.getD 6 (0, [])).1 (bL_law4.getD 6 (0, [])).2 = true := by decide +kernel
set_option maxRecDepth 100000 in
theorem ckW4_7 : rowOK 8 false 0 8 stLw code (bL_law4.getD 7 (0, [])).1 (bL_law4.getD 7 (0, [])).2 = true := by decide +kernel
set_option maxRecDepth 100000 in
theorem ckW4_8 : rowOK 8 false 0 8 stLw code (bL_law4.getD 8 (0, [])).1 (bL_law4.getD 8 (0, [])).2 = true := by decide +kernel
theorem ckW4 : ∀ b ∈ bL_law4, rowOK 8 false 0 8 stLw code b.1 b.2 = true := List.forall_mem_cons.mpr ⟨ckW4_0, List.forall_mem_cons.mpr ⟨ckW4_1, List.forall_mem_cons.mpr ⟨ckW4_2, List.forall_mem_cons.mpr ⟨ckW4_3, List.forall_mem_cons.mpr ⟨ckW4_4, List.forall_mem_cons.mpr ⟨ckW4_5, List.forall_mem_cons.mpr ⟨ckW4_6, List.forall_mem_cons.mpr ⟨ckW4_7, List.forall_mem_cons.mpr ⟨ckW4_8, fun _ h => absurd h List.not_mem_nil⟩⟩⟩⟩⟩⟩⟩⟩⟩
