/-! ===== the law's code decodes: rows 12 ===== -/
set_option maxRecDepth 100000 in
theorem ckW12_0 : rowOK 8 false 0 8 stLw code (bL_law12.getD 0 (0, [])).1 (bL_law12.getD 0 (0, [])).2 = true := by decide +kernel
set_option maxRecDepth 100000 in
theorem ckW12_1 : rowOK 8 false 0 8 stLw code (bL_law12.getD 1 (0, [])).1 (bL_law12.getD 1 (0, [])).2 = true := by decide +kernel
set_option maxRecDepth 100000 in
theorem ckW12_2 : rowOK 8 false 0 8 stLw code (bL_law12.getD 2 (0, [])).1 (bL_law12.getD 2 (0, [])).2 = true := by decide +kernel
set_option maxRecDepth 100000 in
theorem ckW12_3 : rowOK 8 false 0 8 stLw code (bL_law12.getD 3 (0, [])).1 (bL_law12.getD 3 (0, [])).2 = true := by decide +kernel
set_option maxRecDepth 100000 in
theorem ckW12_4 : rowOK 8 false 0 8 stLw code (bL_law12.getD 4 (0, [])).1 (bL_law12.getD 4 (0, [])).2 = true := by decide +kernel
set_option maxRecDepth 100000 in
theorem ckW12_5 : rowOK 8 false 0 8 stLw code (bL_law12.getD 5 (0, [])).1 (bL_law12.getD 5 (0, [])).2 = true := by decide +kernel
set_option maxRecDepth 100000 in
theorem ckW12_6 : rowOK 8 false 0 8 stLw code (bL_law12.getD 6 (0, [])).1 (bL_law12.getD 6 (0, [])).2 = true := by decide +kernel
theorem ckW12 : ∀ b ∈ bL_law12, rowOK 8 false 0 8 stLw code b.1 b.2 = true := List.forall_mem_cons.mpr ⟨ckW12_0, List.forall_mem_cons.mpr ⟨ckW12_1, List.forall_mem_cons.mpr ⟨ckW12_2, List.forall_mem_cons.mpr ⟨ckW12_3, List.forall_mem_cons.mpr ⟨ckW12_4, List.forall_mem_cons.mpr ⟨ckW12_5, List.forall_mem_cons.mpr ⟨ckW12_6, fun _ h => absurd h List.not_mem_nil⟩⟩⟩⟩⟩⟩⟩
