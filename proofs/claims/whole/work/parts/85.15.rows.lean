/-! ===== the law's code decodes: rows 15 ===== -/
set_option maxRecDepth 100000 in
theorem ckW15_0 : rowOK 8 false 0 8 stLw code (bL_law15.getD 0 (0, [])).1 (bL_law15.getD 0 (0, [])).2 = true := by decide +kernel
set_option maxRecDepth 100000 in
theorem ckW15_1 : rowOK 8 false 0 8 stLw code (bL_law15.getD 1 (0, [])).1 (bL_law15.getD 1 (0, [])).2 = true := by decide +kernel
set_option maxRecDepth 100000 in
theorem ckW15_2 : rowOK 8 false 0 8 stLw code (bL_law15.getD 2 (0, [])).1 (bL_law15.getD 2 (0, [])).2 = true := by decide +kernel
set_option maxRecDepth 100000 in
theorem ckW15_3 : rowOK 8 false 0 8 stLw code (bL_law15.getD 3 (0, [])).1 (bL_law15.getD 3 (0, [])).2 = true := by decide +kernel
set_option maxRecDepth 100000 in
theorem ckW15_4 : rowOK 8 false 0 8 stLw code (bL_law15.getD 4 (0, [])).1 (bL_law15.getD 4 (0, [])).2 = true := by decide +kernel
set_option maxRecDepth 100000 in
theorem ckW15_5 : rowOK 8 false 0 8 stLw code (bL_law15.getD 5 (0, [])).1 (bL_law15.getD 5 (0, [])).2 = true := by decide +kernel
set_option maxRecDepth 100000 in
theorem ckW15_6 : rowOK 8 false 0 8 stLw code (bL_law15.getD 6 (0, [])).1 (bL_law15.getD 6 (0, [])).2 = true := by decide +kernel
set_option maxRecDepth 100000 in
theorem ckW15_7 : rowOK 8 false 0 8 stLw code (bL_law15.getD 7 (0, [])).1 (bL_law15.getD 7 (0, [])).2 = true := by decide +kernel
theorem ckW15 : ∀ b ∈ bL_law15, rowOK 8 false 0 8 stLw code b.1 b.2 = true := List.forall_mem_cons.mpr ⟨ckW15_0, List.forall_mem_cons.mpr ⟨ckW15_1, List.forall_mem_cons.mpr ⟨ckW15_2, List.forall_mem_cons.mpr ⟨ckW15_3, List.forall_mem_cons.mpr ⟨ckW15_4, List.forall_mem_cons.mpr ⟨ckW15_5, List.forall_mem_cons.mpr ⟨ckW15_6, List.forall_mem_cons.mpr ⟨ckW15_7, fun _ h => absurd h List.not_mem_nil⟩⟩⟩⟩⟩⟩⟩⟩
