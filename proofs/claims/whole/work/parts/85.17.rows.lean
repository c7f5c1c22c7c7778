/-! ===== the law's code decodes: rows 17 ===== -/
set_option maxRecDepth 100000 in
theorem ckW17_0 : rowOK 8 false 0 8 stLw code (bL_law17.getD 0 (0, [])).1 (bL_law17.getD 0 (0, [])).2 = true := by decide +kernel
set_option maxRecDepth 100000 in
theorem ckW17_1 : rowOK 8 false 0 8 stLw code (bL_law17.getD 1 (0, [])).1 (bL_law17.getD 1 (0, [])).2 = true := by decide +kernel
set_option maxRecDepth 100000 in
theorem ckW17_2 : rowOK 8 false 0 8 stLw code (bL_law17.getD 2 (0, [])).1 (bL_law17.getD 2 (0, [])).2 = true := by decide +kernel
set_option maxRecDepth 100000 in
theorem ckW17_3 : rowOK 8 false 0 8 stLw code (bL_law17.getD 3 (0, [])).1 (bL_law17.getD 3 (0, [])).2 = true := by decide +kernel
set_option maxRecDepth 100000 in
theorem ckW17_4 : rowOK 8 false 0 8 stLw code (bL_law17.getD 4 (0, [])).1 (bL_law17.getD 4 (0, [])).2 = true := by decide +kernel
set_option maxRecDepth 100000 in
theorem ckW17_5 : rowOK 8 false 0 8 stLw code (bL_law17.getD 5 (0, [])).1 (bL_law17.getD 5 (0, [])).2 = true := by decide +kernel
set_option maxRecDepth 100000 in
theorem ckW17_6 : rowOK 8 false 0 8 stLw code (bL_law17.getD 6 (0, [])).1 (bL_law17.getD 6 (0, [])).2 = true := by decide +kernel
set_option maxRecDepth 100000 in
theorem ckW17_7 : rowOK 8 false 0 8 stLw code (bL_law17.getD 7 (0, [])).1 (bL_law17.getD 7 (0, [])).2 = true := by decide +kernel
set_option maxRecDepth 100000 in
theorem ckW17_8 : rowOK 8 false 0 8 stLw code (bL_law17.getD 8 (0, [])).1 (bL_law17.getD 8 (0, [])).2 = true := by decide +kernel
theorem ckW17 : ∀ b ∈ bL_law17, rowOK 8 false 0 8 stLw code b.1 b.2 = true := List.forall_mem_cons.mpr ⟨ckW17_0, List.forall_mem_cons.mpr ⟨ckW17_1, List.forall_mem_cons.mpr ⟨ckW17_2, List.forall_mem_cons.mpr ⟨ckW17_3, List.forall_mem_cons.mpr ⟨ckW17_4, List.forall_mem_cons.mpr ⟨ckW17_5, List.forall_mem_cons.mpr ⟨ckW17_6, List.forall_mem_cons.mpr ⟨ckW17_7, List.forall_mem_cons.mpr ⟨ckW17_8, fun _ h => absurd h List.not_mem_nil⟩⟩⟩⟩⟩⟩⟩⟩⟩
