/-! ===== the law's code decodes: rows 11 ===== -/
set_option maxRecDepth 100000 in
theorem ckW11_0 : rowOK 8 false 0 8 stLw code (bL_law11.getD 0 (0, [])).1 (bL_law11.getD 0 (0, [])).2 = true := by decide +kernel
set_option maxRecDepth 100000 in
theorem ckW11_1 : rowOK 8 false 0 8 stLw code (bL_law11.getD 1 (0, [])).1 (bL_law11.getD 1 (0, [])).2 = true := by decide +kernel
set_option maxRecDepth 100000 in
theorem ckW11_2 : rowOK 8 false 0 8 stLw code (bL_law11.getD 2 (0, [])).1 (bL_law11.getD 2 (0, [])).2 = true := by decide +kernel
set_option maxRecDepth 100000 in
theorem ckW11_3 : rowOK 8 false 0 8 stLw code (bL_law11.getD 3 (0, [])).1 (bL_law11.getD 3 (0, [])).2 = true := by decide +kernel
set_option maxRecDepth 100000 in
theorem ckW11_4 : rowOK 8 false 0 8 stLw code (bL_law11.getD 4 (0, [])).1 (bL_law11.getD 4 (0, [])).2 = true := by decide +kernel
theorem ckW11 : ∀ b ∈ bL_law11, rowOK 8 false 0 8 stLw code b.1 b.2 = true := List.forall_mem_cons.mpr ⟨ckW11_0, List.forall_mem_cons.mpr ⟨ckW11_1, List.forall_mem_cons.mpr ⟨ckW11_2, List.forall_mem_cons.mpr ⟨ckW11_3, List.forall_mem_cons.mpr ⟨ckW11_4, fun _ h => absurd h List.not_mem_nil⟩⟩⟩⟩⟩
