set_option maxRecDepth 100000 in
theorem ck0 : ∀ m ∈ ms0, codeOK m = true := by decide +kernel
set_option maxRecDepth 100000 in
theorem ck1 : ∀ m ∈ ms1, codeOK m = true := by decide +kernel
set_option maxRecDepth 100000 in
theorem ck2 : ∀ m ∈ ms2, codeOK m = true := by decide +kernel
set_option maxRecDepth 100000 in
theorem ck3 : ∀ m ∈ ms3, codeOK m = true := by decide +kernel
set_option maxRecDepth 100000 in
theorem ck4 : ∀ m ∈ ms4, codeOK m = true := by decide +kernel
set_option maxRecDepth 100000 in
theorem ck5 : ∀ m ∈ ms5, codeOK m = true := by decide +kernel
set_option maxRecDepth 100000 in
theorem ck6 : ∀ m ∈ ms6, codeOK m = true := by decide +kernel
set_option maxRecDepth 100000 in
theorem ck7 : ∀ m ∈ ms7, codeOK m = true := by decide +kernel
set_option maxRecDepth 100000 in
theorem ck8 : ∀ m ∈ ms8, codeOK m = true := by decide +kernel
set_option maxRecDepth 100000 in
theorem ck9 : ∀ m ∈ ms9, codeOK m = true := by decide +kernel
set_option maxRecDepth 100000 in
theorem ck10 : ∀ m ∈ ms10, codeOK m = true := by decide +kernel
