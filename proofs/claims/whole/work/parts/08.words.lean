/-! ===== the tables' words, by their places ===== -/
def WG : List Cond := lw_tbl.filter goodWord
theorem wg {args : Array Value} {s : State} (hts : ∀ w ∈ WG, w.before args s = true) {i : Nat} {w : Cond} (h : lw_tbl[i]? = some w) (hg : goodWord w = true) : w.before args s = true := hts w (List.mem_filter.mpr ⟨List.mem_of_getElem? h, hg⟩)
theorem wg_in {i : Nat} {w : Cond} (h : lw_tbl[i]? = some w) (hg : goodWord w = true) : w ∈ WG := List.mem_filter.mpr ⟨List.mem_of_getElem? h, hg⟩
theorem wg_list {ws : List Cond} (ps : List Nat) (hp : ws = ps.filterMap (fun i => lw_tbl[i]?)) (hg : ws.all goodWord = true) : ∀ w ∈ ws, w ∈ WG := by
  intro w hw
  have h1 := List.all_eq_true.mp hg w hw
  rw [hp] at hw
  obtain ⟨i, -, hi⟩ := List.mem_filterMap.mp hw
  exact wg_in hi h1
set_option maxRecDepth 100000 in
theorem fld_ok : ∀ q ∈ fldTab, lw_tbl[q.2.2.2]? = some (.fieldLink (oR q.1) q.2.2.1 (fT q.2.1).1 (fT q.2.1).2.1 (fT q.2.1).2.2.1) := by decide +kernel
theorem fld_ok2 : ∀ q ∈ fldTab, q.2.1 / 32 < 8 ∧ q.2.1 % 32 < nfl.getD (q.2.1 / 32) 0 ∧ (fT q.2.1).1 = oR (q.2.1 / 32) := by decide +kernel
set_option maxRecDepth 100000 in
theorem con_ok : ∀ q ∈ conTab, lw_tbl[q.2.2.2]? = some (.constant (oR q.1) q.2.1 (kI q.2.2.1)) := by decide +kernel
set_option maxRecDepth 100000 in
theorem conL_ok : ∀ q ∈ conLTab, lw_tbl[q.2.2.2]? = some (.constantLong (oR q.1) q.2.1 (Int64.ofNat q.2.2.1)) := by decide +kernel
set_option maxRecDepth 100000 in
theorem stat_ok : ∀ q ∈ statTab, q.2.1 < 2 ∧ lw_tbl[q.2.2.2]? = some (.fieldLink (oR q.1) q.2.2.1 RX6 (["LEAST_N", "MOST_N"].getD q.2.1 "") "[I") := by decide +kernel
set_option maxRecDepth 100000 in
theorem new_ok : ∀ q ∈ newTab, q.2.1 < 8 ∧ lw_tbl[q.2.2.2]? = some (.classLink (oR q.1) q.2.2.1 (oR q.2.1)) := by decide +kernel
set_option maxRecDepth 100000 in
theorem ana_ok : ∀ q ∈ anaTab, lw_tbl[q.2.2.2]? = some (.classLink (oR q.1) q.2.2.1 (if q.2.1 = 5 then RX3 else RX0)) := by decide +kernel
set_option maxRecDepth 100000 in
theorem mna_ok : ∀ q ∈ mnaTab, lw_tbl[q.2.2]? = some (.classLink (oR q.1) q.2.1 "[[I") := by decide +kernel
set_option maxRecDepth 100000 in
theorem obj_ok : ∀ q ∈ objTab, lw_tbl[q.2.2]? = some (.methodLink (oR q.1) q.2.1 objectInit) := by decide +kernel
set_option maxRecDepth 100000 in
theorem cpy_ok : ∀ q ∈ cpyTab, lw_tbl[q.2.2]? = some (.methodLink (oR q.1) q.2.1 arraycopyName) := by decide +kernel
set_option maxRecDepth 100000 in
theorem exc_ok : ∀ q ∈ excTab, lw_tbl[q.2.2.2.2]? = some (.classLink (oR q.1) q.2.2.1 (exN q.2.1)) := by decide +kernel
set_option maxRecDepth 100000 in
theorem inC0 : ∀ w ∈ u_ws RX0 TX0 14, w ∈ WG := wg_list [155, 157, 159, 161, 163, 165, 167, 169, 171, 173, 175, 177, 179, 181] (by decide +kernel) (by decide +kernel)
set_option maxRecDepth 100000 in
theorem inC1 : ∀ w ∈ u_ws RX1 TX1 6, w ∈ WG := wg_list [236, 238, 240, 242, 244, 246] (by decide +kernel) (by decide +kernel)
set_option maxRecDepth 100000 in
theorem inC2 : ∀ w ∈ u_ws RX2 TX2 9, w ∈ WG := wg_list [203, 205, 207, 209, 211, 213, 215, 217, 219] (by decide +kernel) (by decide +kernel)
set_option maxRecDepth 100000 in
theorem inC3 : ∀ w ∈ u_ws RX3 TX3 4, w ∈ WG := wg_list [305, 307, 309, 311] (by decide +kernel) (by decide +kernel)
set_option maxRecDepth 100000 in
theorem inC4 : ∀ w ∈ u_ws RX4 TX4 2, w ∈ WG := wg_list [260, 262] (by decide +kernel) (by decide +kernel)
set_option maxRecDepth 100000 in
theorem inC5 : ∀ w ∈ u_ws RX5 TX5 6, w ∈ WG := wg_list [277, 279, 281, 283, 285, 287] (by decide +kernel) (by decide +kernel)
set_option maxRecDepth 100000 in
theorem inC6 : ∀ w ∈ u_ws RX6 TX6 12, w ∈ WG := wg_list [328, 330, 332, 334, 336, 338, 340, 342, 344, 346, 348, 350] (by decide +kernel) (by decide +kernel)
set_option maxRecDepth 100000 in
theorem inC7 : ∀ w ∈ u_ws RX7 TX7 28, w ∈ WG := wg_list [1254, 1256, 1258, 1260, 1262, 1264, 1266, 1268, 1270, 1272, 1274, 1276, 1278, 1280, 1282, 1284, 1286, 1288, 1290, 1292, 1294, 1296, 1298, 1300, 1302, 1304, 1306, 1308] (by decide +kernel) (by decide +kernel)
set_option maxRecDepth 100000 in
theorem insC0 : Cond.instantiable RX0 14 ∈ WG := wg_in (i := 107) (by decide +kernel) (by decide +kernel)
set_option maxRecDepth 100000 in
theorem iniC0 : Cond.initialized RX0 ∈ WG := wg_in (i := 77) (by decide +kernel) (by decide +kernel)
set_option maxRecDepth 100000 in
theorem insC1 : Cond.instantiable RX1 6 ∈ WG := wg_in (i := 224) (by decide +kernel) (by decide +kernel)
set_option maxRecDepth 100000 in
theorem iniC1 : Cond.initialized RX1 ∈ WG := wg_in (i := 79) (by decide +kernel) (by decide +kernel)
set_option maxRecDepth 100000 in
theorem insC2 : Cond.instantiable RX2 9 ∈ WG := wg_in (i := 186) (by decide +kernel) (by decide +kernel)
set_option maxRecDepth 100000 in
theorem iniC2 : Cond.initialized RX2 ∈ WG := wg_in (i := 78) (by decide +kernel) (by decide +kernel)
set_option maxRecDepth 100000 in
theorem insC3 : Cond.instantiable RX3 4 ∈ WG := wg_in (i := 293) (by decide +kernel) (by decide +kernel)
set_option maxRecDepth 100000 in
theorem iniC3 : Cond.initialized RX3 ∈ WG := wg_in (i := 82) (by decide +kernel) (by decide +kernel)
set_option maxRecDepth 100000 in
theorem insC4 : Cond.instantiable RX4 2 ∈ WG := wg_in (i := 250) (by decide +kernel) (by decide +kernel)
set_option maxRecDepth 100000 in
theorem iniC4 : Cond.initialized RX4 ∈ WG := wg_in (i := 80) (by decide +kernel) (by decide +kernel)
set_option maxRecDepth 100000 in
theorem insC5 : Cond.instantiable RX5 6 ∈ WG := wg_in (i := 266) (by decide +kernel) (by decide +kernel)
set_option maxRecDepth 100000 in
theorem iniC5 : Cond.initialized RX5 ∈ WG := wg_in (i := 81) (by decide +kernel) (by decide +kernel)
set_option maxRecDepth 100000 in
theorem insC6 : Cond.instantiable RX6 12 ∈ WG := wg_in (i := 99) (by decide +kernel) (by decide +kernel)
set_option maxRecDepth 100000 in
theorem iniC6 : Cond.initialized RX6 ∈ WG := wg_in (i := 76) (by decide +kernel) (by decide +kernel)
set_option maxRecDepth 100000 in
theorem insC7 : Cond.instantiable RX7 28 ∈ WG := wg_in (i := 1218) (by decide +kernel) (by decide +kernel)
set_option maxRecDepth 100000 in
theorem iniC7 : Cond.initialized RX7 ∈ WG := wg_in (i := 83) (by decide +kernel) (by decide +kernel)
set_option maxRecDepth 100000 in
theorem objI : Cond.instanceMethod objectInit ∈ WG := wg_in (i := 104) (by decide +kernel) (by decide +kernel)
set_option maxRecDepth 100000 in
theorem objC : Cond.code objectInit ⟨#[0xb1]⟩ 1 none ∈ WG := wg_in (i := 105) (by decide +kernel) (by decide +kernel)
set_option maxRecDepth 100000 in
theorem cpyN : Cond.native arraycopyName ∈ WG := wg_in (i := 1072) (by decide +kernel) (by decide +kernel)
set_option maxRecDepth 100000 in
theorem cpyS : Cond.static arraycopyName ∈ WG := wg_in (i := 1071) (by decide +kernel) (by decide +kernel)
set_option maxRecDepth 100000 in
theorem cpyI : Cond.initialized "java/lang/System" ∈ WG := wg_in (i := 96) (by decide +kernel) (by decide +kernel)
set_option maxRecDepth 100000 in
theorem arC_int : Cond.arrayClass .int ∈ WG := wg_in (i := 184) (by decide +kernel) (by decide +kernel)
set_option maxRecDepth 100000 in
theorem arC_long : Cond.arrayClass .long ∈ WG := wg_in (i := 315) (by decide +kernel) (by decide +kernel)
set_option maxRecDepth 100000 in
theorem arC_boolean : Cond.arrayClass .boolean ∈ WG := wg_in (i := 314) (by decide +kernel) (by decide +kernel)
set_option maxRecDepth 100000 in
theorem arC_byte : Cond.arrayClass .byte ∈ WG := wg_in (i := 222) (by decide +kernel) (by decide +kernel)
/-- a class of the eight, by its number -/
def clOK (ci : Nat) (C : String) (T : u_T) (N : Nat) (ty : Nat → FieldType) : Prop := vwCl[ci]? = some (C, T, N) ∧ C = oR ci ∧ N = nfl.getD ci 0 ∧ (∀ w ∈ u_ws C T N, w ∈ WG) ∧ (∀ j, j < N → T j = fT (32 * ci + j)) ∧ (∀ j, j < N → ty j = fty (32 * ci + j)) ∧ (∀ k, k < N → parseFieldDescriptor (T k).2.2.1 = some (ty k)) ∧ (∀ a, a < N → ∀ b, b < N → a ≠ b → (T a).2.1 ≠ (T b).2.1) ∧ Cond.instantiable C N ∈ WG ∧ Cond.initialized C ∈ WG
theorem clC0 : clOK 0 RX0 TX0 14 tyX0 := ⟨rfl, rfl, rfl, inC0, by decide +kernel, by decide +kernel, tyX0_ok, nmX0, insC0, iniC0⟩
theorem clC1 : clOK 1 RX1 TX1 6 tyX1 := ⟨rfl, rfl, rfl, inC1, by decide +kernel, by decide +kernel, tyX1_ok, nmX1, insC1, iniC1⟩
theorem clC2 : clOK 2 RX2 TX2 9 tyX2 := ⟨rfl, rfl, rfl, inC2, by decide +kernel, by decide +kernel, tyX2_ok, nmX2, insC2, iniC2⟩
theorem clC3 : clOK 3 RX3 TX3 4 tyX3 := ⟨rfl, rfl, rfl, inC3, by decide +kernel, by decide +kernel, tyX3_ok, nmX3, insC3, iniC3⟩
theorem clC4 : clOK 4 RX4 TX4 2 tyX4 := ⟨rfl, rfl, rfl, inC4, by decide +kernel, by decide +kernel, tyX4_ok, nmX4, insC4, iniC4⟩
theorem clC5 : clOK 5 RX5 TX5 6 tyX5 := ⟨rfl, rfl, rfl, inC5, by decide +kernel, by decide +kernel, tyX5_ok, nmX5, insC5, iniC5⟩
theorem clC6 : clOK 6 RX6 TX6 12 tyX6 := ⟨rfl, rfl, rfl, inC6, by decide +kernel, by decide +kernel, tyX6_ok, nmX6, insC6, iniC6⟩
theorem clC7 : clOK 7 RX7 TX7 28 tyX7 := ⟨rfl, rfl, rfl, inC7, by decide +kernel, by decide +kernel, tyX7_ok, nmX7, insC7, iniC7⟩
theorem clAll {ci : Nat} (h : ci < 8) : ∃ C T N ty, clOK ci C T N ty := by
  match ci, h with
  | 0, _ => exact ⟨_, _, _, _, clC0⟩
  | 1, _ => exact ⟨_, _, _, _, clC1⟩
  | 2, _ => exact ⟨_, _, _, _, clC2⟩
  | 3, _ => exact ⟨_, _, _, _, clC3⟩
  | 4, _ => exact ⟨_, _, _, _, clC4⟩
  | 5, _ => exact ⟨_, _, _, _, clC5⟩
  | 6, _ => exact ⟨_, _, _, _, clC6⟩
  | 7, _ => exact ⟨_, _, _, _, clC7⟩
  | n + 8, h => omega
