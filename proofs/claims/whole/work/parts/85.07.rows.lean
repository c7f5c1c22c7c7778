/-! ===== the law's code decodes: rows 7 ===== -/
set_option maxRecDepth 100000 in
theorem ckW7_0 : rowOK 8 false 0 8 stLw code (bL_law7.getD 0 (0, [])).1 (bL_law7.getD 0 (0, [])).2 = true := by decide +kernel
set_option maxRecDepth 100000 in
theorem ckW7_1 : rowOK 8 false 0 8 stLw code (bL_law7.getD 1 (0, [])).1 (bL_law7.getD 1 (0, [])).2 = true := by decide +kernel
set_option maxRecDepth 100000 in
theorem ckW7_2 : rowOK 8 false 0 8 stLw code (bL_law7.getD 2 (0, [])).1 (bL_law7.getD 2 (0, [])).2 = true := by decide +kernel
set_option maxRecDepth 100000 in
theorem ckW7_3 : rowOK 8 false 0 8 stLw code (bL_law7.getD 3 (0, [])).1 (bL_law7.getD 3 (0, [])).2 = true := by decide +kernel
set_option maxRecDepth 100000 in
theorem ckW7_4 : rowOK 8 false 0 8 stLw code (bL_law7.getD 4 (0, [])).1 (bL_law7.getD 4 (0, [])).2 = true := by decide +kernel
set_option maxRecDepth 100000 in
theorem ckW7_5 : rowOK 8 false 0 8 stLw code (bL_law7.getD 5 (0, [])).1 (bL_law7.getD 5 (0, [])).2 = true := by decide +kernel
set_option maxRecDepth 100000 in
theorem ckW7_6 : rowOK 8 false 0 8 stLw code (bL_law7.getD 6 (0, [])).1 (bL_law7.getD 6 (0, [])).2 = true := by decide +kernel
set_option maxRecDepth 100000 in
theorem ckW7_7 : rowOK 8 false 0 8 stLw code (bL_law7.getD 7 (0, [])).1 (bL_law7.getD 7 (0, [])).2 = true := by decide +kernel
theorem ckW7 : ∀ b ∈ bL_law7, rowOK 8 false 0 8 stLw code b.1 b.2 = true := List.forall_mem_cons.mpr ⟨ckW7_0, List.forall_mem_cons.mpr ⟨ckW7_1, List.forall_mem_cons.mpr ⟨ckW7_2, List.forall_mem_cons.mpr ⟨ckW7_3, List.forall_mem_cons.mpr ⟨ckW7_4, List.forall_mem_cons.mpr ⟨ckW7_5, List.forall_mem_cons.mpr ⟨ckW7_6, List.forall_mem_cons.mpr ⟨ckW7_7, fun _ h => absurd h List.not_mem_nil⟩⟩⟩⟩⟩⟩⟩⟩
