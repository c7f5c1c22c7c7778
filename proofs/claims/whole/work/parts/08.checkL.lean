def stL : List Nat := [0, 23, 264, 337, 373, 390, 393, 418, 466, 483, 486, 522, 539, 542, 578, 595, 598, 634, 651, 652, 658, 661, 697, 714, 717, 753, 770, 773, 809, 826, 827, 833, 836, 849, 885, 902, 905, 953, 970, 971, 977, 980, 993, 1041, 1058, 1061, 1109, 1126, 1129, 1165, 1182, 1183, 1189, 1192, 1217, 1253, 1270, 1271, 1277, 1280, 1305, 1318, 1366, 1383, 1386, 1446, 1463, 1466, 1479, 1515, 1532, 1535, 1571, 1588, 1591, 1639, 1656, 1659, 1695, 1712, 1715, 1751, 1768, 1771, 1807, 1824, 1827, 1887, 1903, 1906, 1942, 1959, 1962, 2022, 2038, 2041, 2113, 2129, 2132, 2180, 2197, 2200, 2236, 2253, 2256, 2304, 2321, 2324, 2360, 2377, 2380, 2440, 2457, 2460, 2496, 2513, 2516, 2541, 2589, 2606, 2609, 2622, 2670, 2687, 2690, 2726, 2743, 2746, 2782, 2799, 2802, 2859, 2862, 2954, 2970, 2973, 3009, 3026, 3029, 3062, 3065, 3098, 3101, 3126, 3132]
set_option maxRecDepth 100000 in
theorem stL_eq : starts mL_law = stL := by decide +kernel
set_option maxRecDepth 100000 in
theorem ckL0 : ∀ b ∈ bL_law0, rowOK 8 false true 8 stL code b.1 b.2 = true := by decide +kernel
set_option maxRecDepth 100000 in
theorem ckL1 : ∀ b ∈ bL_law1, rowOK 8 false true 8 stL code b.1 b.2 = true := by decide +kernel
set_option maxRecDepth 100000 in
theorem ckL2 : ∀ b ∈ bL_law2, rowOK 8 false true 8 stL code b.1 b.2 = true := by decide +kernel
set_option maxRecDepth 100000 in
theorem ckL3 : ∀ b ∈ bL_law3, rowOK 8 false true 8 stL code b.1 b.2 = true := by decide +kernel
set_option maxRecDepth 100000 in
theorem ckL4 : ∀ b ∈ bL_law4, rowOK 8 false true 8 stL code b.1 b.2 = true := by decide +kernel
set_option maxRecDepth 100000 in
theorem ckL5 : ∀ b ∈ bL_law5, rowOK 8 false true 8 stL code b.1 b.2 = true := by decide +kernel
set_option maxRecDepth 100000 in
theorem ckL6 : ∀ b ∈ bL_law6, rowOK 8 false true 8 stL code b.1 b.2 = true := by decide +kernel
set_option maxRecDepth 100000 in
theorem ckL7 : ∀ b ∈ bL_law7, rowOK 8 false true 8 stL code b.1 b.2 = true := by decide +kernel
set_option maxRecDepth 100000 in
theorem ckL8 : ∀ b ∈ bL_law8, rowOK 8 false true 8 stL code b.1 b.2 = true := by decide +kernel
set_option maxRecDepth 100000 in
theorem ckL9 : ∀ b ∈ bL_law9, rowOK 8 false true 8 stL code b.1 b.2 = true := by decide +kernel
set_option maxRecDepth 100000 in
theorem ckL10 : ∀ b ∈ bL_law10, rowOK 8 false true 8 stL code b.1 b.2 = true := by decide +kernel
set_option maxRecDepth 100000 in
theorem ckL11 : ∀ b ∈ bL_law11, rowOK 8 false true 8 stL code b.1 b.2 = true := by decide +kernel
set_option maxRecDepth 100000 in
theorem ckL12 : ∀ b ∈ bL_law12, rowOK 8 false true 8 stL code b.1 b.2 = true := by decide +kernel
set_option maxRecDepth 100000 in
theorem ckL13 : ∀ b ∈ bL_law13, rowOK 8 false true 8 stL code b.1 b.2 = true := by decide +kernel
set_option maxRecDepth 100000 in
theorem ckL14 : ∀ b ∈ bL_law14, rowOK 8 false true 8 stL code b.1 b.2 = true := by decide +kernel
set_option maxRecDepth 100000 in
theorem ckL15 : ∀ b ∈ bL_law15, rowOK 8 false true 8 stL code b.1 b.2 = true := by decide +kernel
set_option maxRecDepth 100000 in
theorem ckL16 : ∀ b ∈ bL_law16, rowOK 8 false true 8 stL code b.1 b.2 = true := by decide +kernel
set_option maxRecDepth 100000 in
theorem ckL17 : ∀ b ∈ bL_law17, rowOK 8 false true 8 stL code b.1 b.2 = true := by decide +kernel
set_option maxRecDepth 100000 in
theorem ckL18 : ∀ b ∈ bL_law18, rowOK 8 false true 8 stL code b.1 b.2 = true := by decide +kernel
