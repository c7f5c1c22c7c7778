/-! ===== what holds at the law's entry ===== -/
def NAR : List Cond := flatC (Jvm.Cond.and given_1 narrow_1)
theorem nar {A : Array Value} {s : State} (h : (Jvm.Cond.and given_1 narrow_1).before A s = true) {i : Nat} {w : Cond} (hi : NAR[i]? = some w) : w.before A s = true := flat_of_before _ h w (List.mem_of_getElem? hi)
theorem tbw {A : Array Value} {s : State} (h : ∀ w ∈ lw_tbl, w.before A s = true) {i : Nat} {w : Cond} (hi : lw_tbl[i]? = some w) : w.before A s = true := h w (List.mem_of_getElem? hi)
def stK (t : Nat) : Nat := ([56, 117, 119, 121, 123, 125, 127, 129, 131, 133, 135, 137, 105, 107, 68, 76, 80] : List Nat).getD t 0
def stM (t : Nat) : Nat := ([169, 127, 129, 131, 133, 135, 137, 139, 141, 143, 145, 147, 156, 161, 163, 165, 167] : List Nat).getD t 0
def stR (t : Nat) : Nat := ([600, 668, 669, 670, 671, 672, 673, 674, 675, 676, 677, 678, 691, 692, 701, 702, 703] : List Nat).getD t 0
def stQ (t : Nat) : Nat := ([1369, 1378, 1379, 1380, 1381, 1382, 1383, 1384, 1385, 1386, 1387, 1388, 1389, 1390, 1348, 1367, 1368] : List Nat).getD t 0
def stN (t : Nat) : Nat := ([109, 119, 129, 138, 146, 155, 164, 172, 181, 189, 197, 206, 216, 224, 236, 245, 255] : List Nat).getD t 0
def stE (t : Nat) : Nat := ([301, 312, 322, 331, 341, 351, 360, 370, 379, 388, 398, 409, 418, 431, 271, 282, 290] : List Nat).getD t 0
abbrev tmS (t : Nat) : Term := .string RX2 (stK t)
set_option maxRecDepth 100000 in
theorem sn0 : ∀ t, t < 17 → NAR[stN t]? = some (.exactly (tmS t) "java/lang/String") := by decide +kernel
set_option maxRecDepth 100000 in
theorem sn1 : ∀ t, t < 17 → NAR[stN t + 1]? = some (.eq (.field (tmS t) "java/lang/String" "coder" "B") (.int 0)) := by decide +kernel
set_option maxRecDepth 100000 in
theorem sn2 : ∀ t, t < 17 → NAR[stN t + 2]? = some (.arrayOf (.field (tmS t) "java/lang/String" "value" "[B") .byte) := by decide +kernel
set_option maxRecDepth 100000 in
theorem sn3 : ∀ t, t < 17 → NAR[stN t + 3]? = some (.eq (.length (.field (tmS t) "java/lang/String" "value" "[B")) (.int (Int32.ofNat (slen.getD t 0)))) := by decide +kernel
set_option maxRecDepth 100000 in
theorem sn4 : ∀ t, t < 17 → ∀ j, j < slen.getD t 0 → NAR[stN t + 4 + j]? = some (.eq (.elem (.field (tmS t) "java/lang/String" "value" "[B") (.int (Int32.ofNat j))) (.int ((slT.getD t []).getD j 0))) := by decide +kernel
set_option maxRecDepth 100000 in
theorem sn5 : ∀ t, t < 17 → NAR[stE t]? = some (.eq (tmS t) (.string RX7 (stM t))) := by decide +kernel
set_option maxRecDepth 100000 in
theorem sn6 : ∀ t, t < 17 → lw_tbl[stR t]? = some (.stringRef RX2 (stK t) (stx.getD t "")) := by decide +kernel
set_option maxRecDepth 100000 in
theorem sn7 : ∀ t, t < 17 → lw_tbl[stQ t]? = some (.stringRef RX7 (stM t) (stx.getD t "")) := by decide +kernel
set_option maxRecDepth 100000 in
theorem sn8 : ∀ q ∈ strTab, (q.1 = 2 ∧ q.2.1 = stK q.2.2 ∧ q.2.2 < 17) ∨ (q.1 = 7 ∧ q.2.1 = stM q.2.2 ∧ q.2.2 < 17) := by decide +kernel
set_option maxRecDepth 100000 in
theorem sn9 : ∀ i, i < 17 → ∀ j, j < 17 → slen.getD i 0 = slen.getD j 0 → slT.getD i [] = slT.getD j [] → i = j := by decide +kernel
set_option maxRecDepth 100000 in
theorem sn10 : ∀ i, i < 17 → (slT.getD i []).length = slen.getD i 0 ∧ slen.getD i 0 < 9 := by decide +kernel
set_option maxRecDepth 100000 in
theorem sa_leastN : NAR[12]? = some (.arrayOf (.static RX6 "LEAST_N" "[I") .int) ∧ NAR[13]? = some (.eq (.length (.static RX6 "LEAST_N" "[I")) (.int (Int32.ofNat 11))) := by decide +kernel
set_option maxRecDepth 100000 in
theorem se_leastN : ∀ j, j < 11 → NAR[14 + j]? = some (.eq (.elem (.static RX6 "LEAST_N" "[I") (.int (Int32.ofNat j))) (.int (leastN.getD j 0))) := by decide +kernel
set_option maxRecDepth 100000 in
theorem sa_mostN : NAR[26]? = some (.arrayOf (.static RX6 "MOST_N" "[I") .int) ∧ NAR[27]? = some (.eq (.length (.static RX6 "MOST_N" "[I")) (.int (Int32.ofNat 11))) := by decide +kernel
set_option maxRecDepth 100000 in
theorem se_mostN : ∀ j, j < 11 → NAR[28 + j]? = some (.eq (.elem (.static RX6 "MOST_N" "[I") (.int (Int32.ofNat j))) (.int (mostN.getD j 0))) := by decide +kernel
def ncP (j k : Nat) : Nat := ([[0, 58, 69, 80], [47, 0, 70, 81], [48, 59, 0, 82], [49, 60, 71, 0]] : List (List Nat)).getD j [] |>.getD k 0
set_option maxRecDepth 100000 in
theorem nc_ok : ∀ j, j < 4 → ∀ k, k < 4 → j ≠ k → NAR[ncP j k]? = some (.not (.castable (exN j) (exN k))) := by decide +kernel
def caP (k : Nat) : Nat := ([516, 722, 760, 1169] : List Nat).getD k 0
set_option maxRecDepth 100000 in
theorem ca_ok : ∀ k, k < 4 → lw_tbl[caP k]? = some (.castable (exN k) (exN k)) := by decide +kernel
set_option maxRecDepth 100000 in
theorem de_ok : ∀ x ∈ declX, ([517, 518, 519, 520, 521, 522] : List Nat).any (fun i => decide (lw_tbl[i]? = some (.declares x))) = true := by decide +kernel
set_option maxRecDepth 100000 in
theorem mn_ok : (mthTab.all (fun q => !(q.2.1 == 4 || q.2.1 == 5) || (match methods[q.2.2.1]? with | some md => ([108, 251, 294, 910] : List Nat).any (fun i => decide (lw_tbl[i]? = some (.methodLinkNest (oR q.1) q.2.2.2.1 (mY md) RX6))) | none => true))) = true := by decide +kernel
set_option maxRecDepth 100000 in
theorem sf_ok : lw_tbl[683]? = some (.fieldLinkNest (oR 2) 98 RX6 "LEAST_N" "[I" RX6) ∧ lw_tbl[685]? = some (.fieldLinkNest (oR 2) 102 RX6 "MOST_N" "[I" RX6) := by decide +kernel
set_option maxRecDepth 100000 in
theorem wl0 : lw_tbl[684]? = some (.laysStatic RX6 "LEAST_N" "[I") := by decide +kernel
set_option maxRecDepth 100000 in
theorem wl1 : lw_tbl[686]? = some (.laysStatic RX6 "MOST_N" "[I") := by decide +kernel
set_option maxRecDepth 100000 in
theorem wl2 : lw_tbl[614]? = some (.laysStatic "java/lang/String" "COMPACT_STRINGS" "Z") := by decide +kernel
set_option maxRecDepth 100000 in
theorem wl3 : lw_tbl[630]? = some (.laysStatic "jdk/internal/util/Preconditions" "SIOOBE_FORMATTER" "Ljava/util/function/BiFunction;") := by decide +kernel
set_option maxRecDepth 100000 in
theorem wl4 : lw_tbl[541]? = some (.laysStatic Bundle.tN "UNASSIGNED_STACK" Bundle.steD) := by decide +kernel
set_option maxRecDepth 100000 in
theorem wl5 : lw_tbl[543]? = some (.laysStatic Bundle.tN "SUPPRESSED_SENTINEL" Bundle.listD) := by decide +kernel
set_option maxRecDepth 100000 in
theorem wi0 : lw_tbl[76]? = some (.initialized RX6) := by decide +kernel
set_option maxRecDepth 100000 in
theorem wi2 : lw_tbl[88]? = some (.initialized "java/lang/String") := by decide +kernel
set_option maxRecDepth 100000 in
theorem wi3 : lw_tbl[90]? = some (.initialized "jdk/internal/util/Preconditions") := by decide +kernel
set_option maxRecDepth 100000 in
theorem wi4 : lw_tbl[84]? = some (.initialized Bundle.tN) := by decide +kernel
set_option maxRecDepth 100000 in
theorem wo3 : lw_tbl[291]? = some (.arrayOver (.object RX3)) := by decide +kernel
set_option maxRecDepth 100000 in
theorem wo0 : lw_tbl[292]? = some (.arrayOver (.object RX0)) := by decide +kernel
set_option maxRecDepth 100000 in
theorem woA : lw_tbl[256]? = some (.arrayOver (.array .int)) := by decide +kernel
set_option maxRecDepth 100000 in
theorem wa_int : lw_tbl[184]? = some (.arrayClass .int) := by decide +kernel
set_option maxRecDepth 100000 in
theorem wa_long : lw_tbl[315]? = some (.arrayClass .long) := by decide +kernel
set_option maxRecDepth 100000 in
theorem wa_boolean : lw_tbl[314]? = some (.arrayClass .boolean) := by decide +kernel
set_option maxRecDepth 100000 in
theorem wa_byte : lw_tbl[222]? = some (.arrayClass .byte) := by decide +kernel
set_option maxRecDepth 100000 in
theorem nz2 : NAR[6]? = some (.eq (.static "java/lang/String" "COMPACT_STRINGS" "Z") (.int 1)) := by decide +kernel
set_option maxRecDepth 100000 in
theorem nz3 : NAR[7]? = some (.isRef (.static "jdk/internal/util/Preconditions" "SIOOBE_FORMATTER" "Ljava/util/function/BiFunction;")) := by decide +kernel
set_option maxRecDepth 100000 in
theorem nz4 : NAR[4]? = some (.isRef (.static Bundle.tN "UNASSIGNED_STACK" Bundle.steD)) := by decide +kernel
set_option maxRecDepth 100000 in
theorem nz5 : NAR[5]? = some (.isRef (.static Bundle.tN "SUPPRESSED_SENTINEL" Bundle.listD)) := by decide +kernel
theorem gDe {α : Type} {l : List α} {q : Nat} (h : q < l.length) (d : α) : l.getD q d = l[q] := by
  rw [List.getD_eq_getElem?_getD, List.getElem?_eq_getElem h]
  rfl
theorem arr_known {A : Array Value} {s : State} {ty : FieldType} (h : (Cond.arrayClass ty).before A s = true) : ∃ cA : ClassId, ArrOfT s cA ty ∧ s.vm.findClass ("[" ++ ty.toString) = some cA := by
  obtain ⟨c, k, comp, h1, h2, h3⟩ := Cond.arrayClass_spec h
  exact ⟨c, fun n z => ⟨fun k h => (by cases h), k, h2, comp, h3⟩, h1⟩
theorem arr_knownO {A : Array Value} {s : State} {C : String} (h : (Cond.arrayOver (.object C)).before A s = true) : ∃ cA : ClassId, ArrOfT s cA (.object C) ∧ va_RA s cA (.object C) := by
  obtain ⟨comp, c, k, h1, -, h3, h4, h5⟩ := Cond.arrayOver_spec h
  exact ⟨c, fun n z => ⟨fun k h => (by cases h), k, h3, comp, h4⟩, k, comp, h3, h4, h1, h5⟩
theorem arr_knownA {A : Array Value} {s : State} {t : FieldType} (h : (Cond.arrayOver (.array t)).before A s = true) : ∃ cA : ClassId, ArrOfT s cA (.array t) ∧ s.vm.findClass ("[" ++ (FieldType.array t).toString) = some cA := by
  have h : (Cond.arrayOver (.array t)).holds A s none s [] = true := h
  simp only [Cond.holds, Cond.value, beq_iff_eq] at h
  cases hc : s.vm.findClass (FieldType.array t).toString with
  | none => simp [hc] at h
  | some comp =>
    simp only [hc, Option.bind_some, Option.bind_eq_some_iff, Option.map_eq_some_iff] at h
    obtain ⟨c, hi, k, hk, hb⟩ := h
    obtain ⟨hlt, hp, -⟩ := Array.findIdx?_eq_some_iff_getElem.mp hi
    have hkk : s.vm.classes[c] = k := (Array.getElem?_eq_some_iff.mp hk).2
    rw [hkk] at hp
    cases hkind : k.kind with
    | array component ty =>
      rw [hkind] at hb hp
      simp at hb hp
      have hkd : k.kind = .array comp (.array t) := by rw [hkind, hp, hb.1]
      exact ⟨c, fun n z => ⟨fun k h => (by cases h), k, hk, comp, hkd⟩, hb.2⟩
    | _ => rw [hkind] at hb; simp at hb
theorem oKn {s : State} {b : Nat} (hts : ∀ w ∈ lw_tbl, w.before #[Value.ref b] s = true) : ∃ (D : va_G) (cA : Nat → ClassId), va_K D vwCl (tysK cA) s := by
  have hc : ∀ k : Nat, ∃ q : ClassId × (Nat → Nat), k < 8 → ∀ r, vwCl[k]? = some r → u_Kn s r.1 r.2.1 r.2.2 q.1 q.2 := by
    intro k
    by_cases hk : k < 8
    · obtain ⟨C, T, N, ty, h1, -, -, h4, -, -, -, -, h9, -⟩ := clAll hk
      obtain ⟨cC, iS, hKn⟩ := u_known (C := C) (T := T) (N := N) (n := N) (fun w hw => hts w ((List.mem_filter.mp hw).1)) h4 (hts _ (List.mem_filter.mp h9).1)
      refine ⟨(cC, iS), fun _ r hr => ?_⟩
      cases Option.some.inj (h1.symm.trans hr)
      exact hKn
    · exact ⟨((0 : Nat), fun _ => 0), fun h => absurd h hk⟩
  obtain ⟨Dq, hDq⟩ := Classical.axiomOfChoice hc
  have ha : ∀ t : Nat, ∃ cA : ClassId, t < 7 → ArrOfT s cA (aty t) ∧ va_RA s cA (aty t) := by
    intro t
    match t with
    | 0 => obtain ⟨c, h1, h2⟩ := arr_known (tbw hts wa_int); exact ⟨c, fun _ => ⟨h1, h2⟩⟩
    | 1 => obtain ⟨c, h1, h2⟩ := arr_known (tbw hts wa_long); exact ⟨c, fun _ => ⟨h1, h2⟩⟩
    | 2 => obtain ⟨c, h1, h2⟩ := arr_known (tbw hts wa_boolean); exact ⟨c, fun _ => ⟨h1, h2⟩⟩
    | 3 => obtain ⟨c, h1, h2⟩ := arr_known (tbw hts wa_byte); exact ⟨c, fun _ => ⟨h1, h2⟩⟩
    | 4 => obtain ⟨c, h1, h2⟩ := arr_knownA (tbw hts woA); exact ⟨c, fun _ => ⟨h1, h2⟩⟩
    | 5 => obtain ⟨c, h1, h2⟩ := arr_knownO (tbw hts wo3); exact ⟨c, fun _ => ⟨h1, h2⟩⟩
    | 6 => obtain ⟨c, h1, h2⟩ := arr_knownO (tbw hts wo0); exact ⟨c, fun _ => ⟨h1, h2⟩⟩
    | n + 7 => exact ⟨(0 : Nat), fun h => absurd h (by omega)⟩
  obtain ⟨cA, hcA⟩ := Classical.axiomOfChoice ha
  refine ⟨(fun k => (Dq k).1, fun k => (Dq k).2), cA, fun c q hq => ?_, fun k q hk => ?_⟩
  · have hlt : c < 8 := (List.getElem?_eq_some_iff.mp hq).1
    exact hDq c hlt q hq
  · have hlt : k < 7 := by
      have h1 := (List.getElem?_eq_some_iff.mp hk).1
      unfold tysK at h1
      rw [List.length_map, List.length_range] at h1
      exact h1
    cases Option.some.inj ((tysK_at cA hlt).symm.trans hk)
    exact hcA k hlt
theorem one_str {s : State} {b : Nat} (hgv : (Jvm.Cond.and given_1 narrow_1).before #[Value.ref b] s = true) {A : Nat → Prop} (hA : ∀ a : Nat, a < s.heap.size → ¬ A a) (t : Nat) : ∃ q : Nat × Nat, t < 17 → (tmS t).eval #[Value.ref b] s none [] s = some (.ref q.1) ∧ va_O "java/lang/String" q.1 A s s.heap ∧ va_OF "java/lang/String" "coder" "B" (.int 0) q.1 A s s.heap ∧ va_OF "java/lang/String" "value" "[B" (.ref q.2) q.1 A s s.heap ∧ va_T .byte q.2 (slen.getD t 0) (fun j => .int ((slT.getD t []).getD j 0)) A s s.heap := by
  by_cases ht : t < 17
  · obtain ⟨aK, aV, h1, h2⟩ := vk_Sof (N := 1) (tm := fun _ => tmS t) (len := [slen.getD t 0]) (byt := [slT.getD t []]) (A := A)
      (fun i hi => by
        have : i = 0 := by omega
        subst this
        have := (sn10 t ht).2
        show slen.getD t 0 < 2 ^ 31
        omega)
      (fun i hi => nar hgv (sn0 t ht)) (fun i hi => nar hgv (sn1 t ht)) (fun i hi => nar hgv (sn2 t ht))
      (fun i hi => by
        have : i = 0 := by omega
        subst this
        exact nar hgv (sn3 t ht))
      (fun i hi j hj => by
        have : i = 0 := by omega
        subst this
        exact nar hgv (sn4 t ht j hj))
      (fun i j hi hj hne => absurd (show i = j by omega) hne) hA
    have h3 := h1.1 0 (by omega)
    exact ⟨(aK 0, aV 0), fun _ => ⟨h2 0 (by omega), h3⟩⟩
  · exact ⟨(0, 0), fun h => absurd h ht⟩
theorem oStr {s : State} {b : Nat} (hgv : (Jvm.Cond.and given_1 narrow_1).before #[Value.ref b] s = true) {A : Nat → Prop} (hA : ∀ a : Nat, a < s.heap.size → ¬ A a) : ∃ aK aV : Nat → Nat, vk_S 17 slen slT aK aV A s s.heap ∧ ∀ t, t < 17 → (tmS t).eval #[Value.ref b] s none [] s = some (.ref (aK t)) := by
  obtain ⟨ad, had⟩ := Classical.axiomOfChoice (one_str (A := A) hgv hA)
  refine ⟨fun t => (ad t).1, fun t => (ad t).2, ⟨fun i hi => (had i hi).2, fun i j hi hj e => ?_⟩, fun t ht => (had t ht).1⟩
  have e : (ad i).1 = (ad j).1 := e
  obtain ⟨-, -, -, ⟨cf, k, fi, f, cell, a1, a2, a3, a4, a5, a6⟩, ⟨ci, b1, b2, b3, b4, b5, b6, b7⟩⟩ := had i hi
  obtain ⟨-, -, -, ⟨cf', k', fi', f', cell', a1', a2', a3', a4', a5', a6'⟩, ⟨cj, b1', b2', b3', b4', b5', b6', b7'⟩⟩ := had j hj
  cases a1.symm.trans a1'
  rw [e] at a3
  cases a3.symm.trans a3'
  have e2 : (ad i).2 = (ad j).2 := Value.ref.inj (Option.some.inj (a5.symm.trans a5'))
  rw [e2] at b1
  cases b1.symm.trans b1'
  obtain ⟨l1, l2⟩ := sn10 i hi
  obtain ⟨l3, l4⟩ := sn10 j hj
  have e3 : slen.getD i 0 = slen.getD j 0 := by
    have h := b5.symm.trans b5'
    have h1 := congrArg Int32.toInt h
    have g : ∀ n : Nat, n < 9 → (Int32.ofNat n).toInt = (n : Int) := by decide
    rw [g _ l2, g _ l4] at h1
    omega
  refine sn9 i hi j hj e3 (List.ext_getElem (by omega) (fun q hq1 hq2 => ?_))
  have h1 := b6 q (by omega)
  have h2 := b6' q (by omega)
  have h3 := Value.int.inj (Option.some.inj (h1.symm.trans h2))
  exact (gDe hq1 0).symm.trans (h3.trans (gDe hq2 0))
theorem start_GB {p : Program} {s : State} {m : MethodId} {meth : Method} {c : Code} {b L : Nat} {xs : Nat → Int32} (C0 : lw_At p s m meth c b L xs) : ∃ (D : va_G) (cA : Nat → ClassId) (ga adV : Nat → Nat), ga 0 = b ∧ GBt D cA (fun q : Nat => s.heap.size ≤ q) ga adV L xs s := by
  obtain ⟨hx, hb, hr, hml, hown, hts, hX, hbl, hlocks, hgv⟩ := C0
  have hA : ∀ a : Nat, a < s.heap.size → ¬ (fun q : Nat => s.heap.size ≤ q) a := fun a h => Nat.not_le.mpr h
  obtain ⟨D, cA, hK⟩ := oKn hts
  obtain ⟨aK, aV, hSt, hSe⟩ := oStr (A := fun q : Nat => s.heap.size ≤ q) hgv hA
  obtain ⟨t1, hT1e, hT1⟩ := va_Tof (tm := .static RX6 "LEAST_N" "[I") (ty := .int) (N := 11) (f := fun j => .int (leastN.getD j 0)) (A := fun q : Nat => s.heap.size ≤ q) (by decide) (nar hgv sa_leastN.1) (va_eqt (nar hgv sa_leastN.2)) (fun j hj => va_eqt (nar hgv (se_leastN j hj))) hA
  obtain ⟨t2, hT2e, hT2⟩ := va_Tof (tm := .static RX6 "MOST_N" "[I") (ty := .int) (N := 11) (f := fun j => .int (mostN.getD j 0)) (A := fun q : Nat => s.heap.size ≤ q) (by decide) (nar hgv sa_mostN.1) (va_eqt (nar hgv sa_mostN.2)) (fun j hj => va_eqt (nar hgv (se_mostN j hj))) hA
  have hg : ∃ ga : Nat → Nat, ga 0 = b ∧ ga 1 = t1 ∧ ga 2 = t2 ∧ ∀ t, ga (3 + t) = aK t := by
    refine ⟨fun i => if i = 0 then b else if i = 1 then t1 else if i = 2 then t2 else aK (i - 3), rfl, rfl, rfl, fun t => ?_⟩
    show (if 3 + t = 0 then b else if 3 + t = 1 then t1 else if 3 + t = 2 then t2 else aK (3 + t - 3)) = aK t
    rw [if_neg (by omega), if_neg (by omega), if_neg (by omega), show 3 + t - 3 = t by omega]
  obtain ⟨ga, g0, g1, g2, g3⟩ := hg
  refine ⟨D, cA, ga, aV, g0, hK, ⟨by rw [g0]; exact hX, by rw [g0]; exact hbl, by rw [g0]; exact hA b hbl⟩, ⟨by rw [g1]; exact hT1, by rw [g2]; exact hT2⟩, ?_, ?_, ?_, ⟨?_, ?_, ?_⟩, ⟨va_AO.of (tbw hts wo3), va_AO.of (tbw hts wo0), ?_⟩, fun q hq => hq, ?_, ⟨vx_Zqof (tbw hts wl4) (tbw hts wi4) (nar hgv nz4) hA, vx_Zqof (tbw hts wl5) (tbw hts wi4) (nar hgv nz5) hA⟩, ?_, ?_, ?_⟩
  · intro k hk
    match k, hk with
    | 0, _ =>
      show va_Z RX6 "LEAST_N" "[I" (.ref (ga 1)) _ s s.heap
      rw [g1]
      exact va_Zref (tbw hts wl0) (tbw hts wi0) hT1e hA
    | 1, _ =>
      show va_Z RX6 "MOST_N" "[I" (.ref (ga 2)) _ s s.heap
      rw [g2]
      exact va_Zref (tbw hts wl1) (tbw hts wi0) hT2e hA
    | n + 2, h => exact absurd h (by omega)
  · intro q hq
    rcases List.mem_cons.mp hq with rfl | hq
    · exact ⟨by decide, va_Nw.of rfl (tbw hts sf_ok.1)⟩
    rcases List.mem_cons.mp hq with rfl | hq
    · exact ⟨by decide, va_Nw.of rfl (tbw hts sf_ok.2)⟩
    cases hq
  · intro q hq
    rcases sn8 q hq with ⟨e1, e2, e3⟩ | ⟨e1, e2, e3⟩
    · rw [e1, e2, g3]
      exact vk_R.of (A := #[Value.ref b]) (tbw hts (sn6 _ e3)) (hSe _ e3)
    · rw [e1, e2, g3]
      exact vk_R.of (A := #[Value.ref b]) (tbw hts (sn7 _ e3)) (va_eqR (nar hgv (sn5 _ e3)) (hSe _ e3))
  · rw [show (fun i => ga (3 + i)) = aK from funext g3]
    exact hSt
  · exact va_Zof (tbw hts wl2) (tbw hts wi2) (va_eqi (nar hgv nz2)) hA
  · exact va_Zqof (tbw hts wl3) (tbw hts wi3) (nar hgv nz3) hA
  · exact tbw hts woA
  · intro q hq md hm hk
    have h1 := List.all_eq_true.mp mn_ok q hq
    rw [hm] at h1
    have h2 : (q.2.1 == 4 || q.2.1 == 5) = true := by
      rcases hk with e | e <;> rw [e] <;> rfl
    rw [h2] at h1
    obtain ⟨i, -, hi⟩ := List.any_eq_true.mp (show (([108, 251, 294, 910] : List Nat).any (fun i => decide (lw_tbl[i]? = some (.methodLinkNest (oR q.1) q.2.2.2.1 (mY md) RX6)))) = true from h1)
    exact va_Nw.of rfl (tbw hts (of_decide_eq_true hi))
  · intro k hk
    exact va_Nw.of rfl (tbw hts (ca_ok k hk))
  · intro x hx
    obtain ⟨i, -, hi⟩ := List.any_eq_true.mp (de_ok x hx)
    exact va_Nw.of rfl (tbw hts (of_decide_eq_true hi))
  · intro j k hj hk hjk
    exact va_Nc.of (nar hgv (nc_ok j hj k hk hjk))
