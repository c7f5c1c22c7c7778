/-! ===== the law's code decodes: rows 10 ===== -/
set_option maxRecDepth 100000 in
theorem ckW10_0 : rowOK 8 false 0 8 stLw code (bL_law10.getD 0 (0, [])).1 (bL_law10.getD 0 (0, [])).2 = true := by decide +kernel
set_option maxRecDepth 100000 in
theorem ckW10_1 : rowOK 8 false 0 8 stLw code (bL_law10.getD 1 (0, [])).1 (bL_law10.getD 1 (0, [])).2 = true := by decide +kernel
set_option maxRecDepth 100000 in
theorem ckW10_2 : rowOK 8 false 0 8 stLw code (bL_law10.getD 2 (0, [])).1 (bL_law10.getD 2 (0, [])).2 = true := by decide +kernel
set_option maxRecDepth 100000 in
theorem ckW10_3 : rowOK 8 false 0 8 stLw code (bL_law10.getD 3 (0, [])).1 (bL_law10.getD 3 (0, [])).2 = true := by decide +kernel
set_option maxRecDepth 100000 in
theorem ckW10_4 : rowOK 8 false 0 8 stLw code (bL_law10.getD 4 (0, [])).1 (bL_law10.getD 4 (0, [])).2 = true := by decide +kernel
set_option maxRecDepth 100000 in
theorem ckW10_5 : rowOK 8 false 0 8 stLw code (bL_law10.getD 5 (0, [])).1 (bL_law10.getD 5 (0, [])).2 = true := by decide +kernel
set_option maxRecDepth 100000 in
theorem ckW10_6 : rowOK 8 false 0 8 stLw code (bL_law10.getD 6 (0, [])).1 (bL_law10.getD 6 (0, [])).2 = true := by decide +kernel
theorem ckW10 : ∀ b ∈ bL_law10, rowOK 8 false 0 8 stLw code b.1 b.2 = true := List.forall_mem_cons.mpr ⟨ckW10_0, List.forall_mem_cons.mpr ⟨ckW10_1, List.forall_mem_cons.mpr ⟨ckW10_2, List.forall_mem_cons.mpr ⟨ckW10_3, List.forall_mem_cons.mpr ⟨ckW10_4, List.forall_mem_cons.mpr ⟨ckW10_5, List.forall_mem_cons.mpr ⟨ckW10_6, fun _ h => absurd h List.not_mem_nil⟩⟩⟩⟩⟩⟩⟩
