/-! ===== String constants: length() and charAt(k) ===== -/
theorem dJ0_length_8abf5_0 : decode cJ0_length_8abf5 0 = .ok (.aload_n 0, 1) := by decide +kernel
theorem dJ0_length_8abf5_1 : decode cJ0_length_8abf5 1 = .ok (.getfield 9, 3) := by decide +kernel
theorem dJ0_length_8abf5_4 : decode cJ0_length_8abf5 4 = .ok (.arraylength, 1) := by decide +kernel
theorem dJ0_length_8abf5_5 : decode cJ0_length_8abf5 5 = .ok (.aload_n 0, 1) := by decide +kernel
theorem dJ0_length_8abf5_6 : decode cJ0_length_8abf5 6 = .ok (.invokevirtual 335, 3) := by decide +kernel
theorem dJ0_length_8abf5_9 : decode cJ0_length_8abf5 9 = .ok (.ishr, 1) := by decide +kernel
theorem dJ0_length_8abf5_10 : decode cJ0_length_8abf5 10 = .ok (.ireturn, 1) := by decide +kernel
theorem dJ0_charAt_5068e_0 : decode cJ0_charAt_5068e 0 = .ok (.aload_n 0, 1) := by decide +kernel
theorem dJ0_charAt_5068e_1 : decode cJ0_charAt_5068e 1 = .ok (.invokevirtual 492, 3) := by decide +kernel
theorem dJ0_charAt_5068e_4 : decode cJ0_charAt_5068e 4 = .ok (.ifCond .eq 12, 3) := by decide +kernel
theorem dJ0_charAt_5068e_7 : decode cJ0_charAt_5068e 7 = .ok (.aload_n 0, 1) := by decide +kernel
theorem dJ0_charAt_5068e_8 : decode cJ0_charAt_5068e 8 = .ok (.getfield 9, 3) := by decide +kernel
theorem dJ0_charAt_5068e_11 : decode cJ0_charAt_5068e 11 = .ok (.iload_n 1, 1) := by decide +kernel
theorem dJ0_charAt_5068e_12 : decode cJ0_charAt_5068e 12 = .ok (.invokestatic 495, 3) := by decide +kernel
theorem dJ0_charAt_5068e_15 : decode cJ0_charAt_5068e 15 = .ok (.ireturn, 1) := by decide +kernel
theorem dJ0_coder_7d493_0 : decode cJ0_coder_7d493 0 = .ok (.getstatic 38, 3) := by decide +kernel
theorem dJ0_coder_7d493_3 : decode cJ0_coder_7d493 3 = .ok (.ifCond .eq 10, 3) := by decide +kernel
theorem dJ0_coder_7d493_6 : decode cJ0_coder_7d493 6 = .ok (.aload_n 0, 1) := by decide +kernel
theorem dJ0_coder_7d493_7 : decode cJ0_coder_7d493 7 = .ok (.getfield 15, 3) := by decide +kernel
theorem dJ0_coder_7d493_10 : decode cJ0_coder_7d493 10 = .ok (.goto 4, 3) := by decide +kernel
theorem dJ0_coder_7d493_13 : decode cJ0_coder_7d493 13 = .ok (.iconst 1, 1) := by decide +kernel
theorem dJ0_coder_7d493_14 : decode cJ0_coder_7d493 14 = .ok (.ireturn, 1) := by decide +kernel
theorem dJ0_isLatin1_aae02_0 : decode cJ0_isLatin1_aae02 0 = .ok (.getstatic 38, 3) := by decide +kernel
theorem dJ0_isLatin1_aae02_3 : decode cJ0_isLatin1_aae02 3 = .ok (.ifCond .eq 14, 3) := by decide +kernel
theorem dJ0_isLatin1_aae02_6 : decode cJ0_isLatin1_aae02 6 = .ok (.aload_n 0, 1) := by decide +kernel
theorem dJ0_isLatin1_aae02_7 : decode cJ0_isLatin1_aae02 7 = .ok (.getfield 15, 3) := by decide +kernel
theorem dJ0_isLatin1_aae02_10 : decode cJ0_isLatin1_aae02 10 = .ok (.ifCond .ne 7, 3) := by decide +kernel
theorem dJ0_isLatin1_aae02_13 : decode cJ0_isLatin1_aae02 13 = .ok (.iconst 1, 1) := by decide +kernel
theorem dJ0_isLatin1_aae02_14 : decode cJ0_isLatin1_aae02 14 = .ok (.goto 4, 3) := by decide +kernel
theorem dJ0_isLatin1_aae02_17 : decode cJ0_isLatin1_aae02 17 = .ok (.iconst 0, 1) := by decide +kernel
theorem dJ0_isLatin1_aae02_18 : decode cJ0_isLatin1_aae02 18 = .ok (.ireturn, 1) := by decide +kernel
theorem dJ0_checkIndex_df160_0 : decode cJ0_checkIndex_df160 0 = .ok (.iload_n 0, 1) := by decide +kernel
theorem dJ0_checkIndex_df160_1 : decode cJ0_checkIndex_df160 1 = .ok (.iload_n 1, 1) := by decide +kernel
theorem dJ0_checkIndex_df160_2 : decode cJ0_checkIndex_df160 2 = .ok (.getstatic 1053, 3) := by decide +kernel
theorem dJ0_checkIndex_df160_5 : decode cJ0_checkIndex_df160 5 = .ok (.invokestatic 1059, 3) := by decide +kernel
theorem dJ0_checkIndex_df160_8 : decode cJ0_checkIndex_df160 8 = .ok (.pop, 1) := by decide +kernel
theorem dJ0_checkIndex_df160_9 : decode cJ0_checkIndex_df160 9 = .ok (.return_, 1) := by decide +kernel
theorem dJ1_charAt_3b067_0 : decode cJ1_charAt_3b067 0 = .ok (.iload_n 1, 1) := by decide +kernel
theorem dJ1_charAt_3b067_1 : decode cJ1_charAt_3b067 1 = .ok (.aload_n 0, 1) := by decide +kernel
theorem dJ1_charAt_3b067_2 : decode cJ1_charAt_3b067 2 = .ok (.arraylength, 1) := by decide +kernel
theorem dJ1_charAt_3b067_3 : decode cJ1_charAt_3b067 3 = .ok (.invokestatic 9, 3) := by decide +kernel
theorem dJ1_charAt_3b067_6 : decode cJ1_charAt_3b067 6 = .ok (.aload_n 0, 1) := by decide +kernel
theorem dJ1_charAt_3b067_7 : decode cJ1_charAt_3b067 7 = .ok (.iload_n 1, 1) := by decide +kernel
theorem dJ1_charAt_3b067_8 : decode cJ1_charAt_3b067 8 = .ok (.baload, 1) := by decide +kernel
theorem dJ1_charAt_3b067_9 : decode cJ1_charAt_3b067 9 = .ok (.sipush 255, 3) := by decide +kernel
theorem dJ1_charAt_3b067_12 : decode cJ1_charAt_3b067 12 = .ok (.iand, 1) := by decide +kernel
theorem dJ1_charAt_3b067_13 : decode cJ1_charAt_3b067 13 = .ok (.i2c, 1) := by decide +kernel
theorem dJ1_charAt_3b067_14 : decode cJ1_charAt_3b067 14 = .ok (.ireturn, 1) := by decide +kernel
theorem dJ3_checkIndex_8e157_0 : decode cJ3_checkIndex_8e157 0 = .ok (.iload_n 0, 1) := by decide +kernel
theorem dJ3_checkIndex_8e157_1 : decode cJ3_checkIndex_8e157 1 = .ok (.ifCond .lt 8, 3) := by decide +kernel
theorem dJ3_checkIndex_8e157_4 : decode cJ3_checkIndex_8e157 4 = .ok (.iload_n 0, 1) := by decide +kernel
theorem dJ3_checkIndex_8e157_5 : decode cJ3_checkIndex_8e157 5 = .ok (.iload_n 1, 1) := by decide +kernel
theorem dJ3_checkIndex_8e157_6 : decode cJ3_checkIndex_8e157 6 = .ok (.if_icmp .lt 10, 3) := by decide +kernel
theorem dJ3_checkIndex_8e157_16 : decode cJ3_checkIndex_8e157 16 = .ok (.iload_n 0, 1) := by decide +kernel
theorem dJ3_checkIndex_8e157_17 : decode cJ3_checkIndex_8e157 17 = .ok (.ireturn, 1) := by decide +kernel
set_option maxRecDepth 100000 in
theorem jcJ0_length_8abf5 : Cond.code yJ0_length_8abf5 cJ0_length_8abf5 1 (some .int) ∈ WG := wg_in (i := 608) (by decide +kernel) (by decide +kernel)
set_option maxRecDepth 100000 in
theorem jiJ0_length_8abf5 : Cond.instanceMethod yJ0_length_8abf5 ∈ WG := wg_in (i := 606) (by decide +kernel) (by decide +kernel)
set_option maxRecDepth 100000 in
theorem jlJ0_length_8abf5 : Cond.selects RJ0 yJ0_length_8abf5 yJ0_length_8abf5 ∈ WG := wg_in (i := 607) (by decide +kernel) (by decide +kernel)
set_option maxRecDepth 100000 in
theorem jcJ0_charAt_5068e : Cond.code yJ0_charAt_5068e cJ0_charAt_5068e 2 (some .char) ∈ WG := wg_in (i := 618) (by decide +kernel) (by decide +kernel)
set_option maxRecDepth 100000 in
theorem jiJ0_charAt_5068e : Cond.instanceMethod yJ0_charAt_5068e ∈ WG := wg_in (i := 616) (by decide +kernel) (by decide +kernel)
set_option maxRecDepth 100000 in
theorem jlJ0_charAt_5068e : Cond.selects RJ0 yJ0_charAt_5068e yJ0_charAt_5068e ∈ WG := wg_in (i := 617) (by decide +kernel) (by decide +kernel)
set_option maxRecDepth 100000 in
theorem jcJ0_coder_7d493 : Cond.code yJ0_coder_7d493 cJ0_coder_7d493 1 (some .byte) ∈ WG := wg_in (i := 612) (by decide +kernel) (by decide +kernel)
set_option maxRecDepth 100000 in
theorem jiJ0_coder_7d493 : Cond.instanceMethod yJ0_coder_7d493 ∈ WG := wg_in (i := 610) (by decide +kernel) (by decide +kernel)
set_option maxRecDepth 100000 in
theorem jlJ0_coder_7d493 : Cond.selects RJ0 yJ0_coder_7d493 yJ0_coder_7d493 ∈ WG := wg_in (i := 611) (by decide +kernel) (by decide +kernel)
set_option maxRecDepth 100000 in
theorem jcJ0_isLatin1_aae02 : Cond.code yJ0_isLatin1_aae02 cJ0_isLatin1_aae02 1 (some .boolean) ∈ WG := wg_in (i := 622) (by decide +kernel) (by decide +kernel)
set_option maxRecDepth 100000 in
theorem jiJ0_isLatin1_aae02 : Cond.instanceMethod yJ0_isLatin1_aae02 ∈ WG := wg_in (i := 620) (by decide +kernel) (by decide +kernel)
set_option maxRecDepth 100000 in
theorem jlJ0_isLatin1_aae02 : Cond.selects RJ0 yJ0_isLatin1_aae02 yJ0_isLatin1_aae02 ∈ WG := wg_in (i := 621) (by decide +kernel) (by decide +kernel)
set_option maxRecDepth 100000 in
theorem jcJ0_checkIndex_df160 : Cond.code yJ0_checkIndex_df160 cJ0_checkIndex_df160 2 none ∈ WG := wg_in (i := 628) (by decide +kernel) (by decide +kernel)
set_option maxRecDepth 100000 in
theorem jsJ0_checkIndex_df160 : Cond.static yJ0_checkIndex_df160 ∈ WG := wg_in (i := 627) (by decide +kernel) (by decide +kernel)
set_option maxRecDepth 100000 in
theorem jcJ1_charAt_3b067 : Cond.code yJ1_charAt_3b067 cJ1_charAt_3b067 2 (some .char) ∈ WG := wg_in (i := 625) (by decide +kernel) (by decide +kernel)
set_option maxRecDepth 100000 in
theorem jsJ1_charAt_3b067 : Cond.static yJ1_charAt_3b067 ∈ WG := wg_in (i := 624) (by decide +kernel) (by decide +kernel)
set_option maxRecDepth 100000 in
theorem jcJ3_checkIndex_8e157 : Cond.code yJ3_checkIndex_8e157 cJ3_checkIndex_8e157 3 (some .int) ∈ WG := wg_in (i := 633) (by decide +kernel) (by decide +kernel)
set_option maxRecDepth 100000 in
theorem jsJ3_checkIndex_8e157 : Cond.static yJ3_checkIndex_8e157 ∈ WG := wg_in (i := 632) (by decide +kernel) (by decide +kernel)
set_option maxRecDepth 100000 in
theorem jnJ0 : Cond.initialized RJ0 ∈ WG := wg_in (i := 88) (by decide +kernel) (by decide +kernel)
set_option maxRecDepth 100000 in
theorem jnJ1 : Cond.initialized RJ1 ∈ WG := wg_in (i := 89) (by decide +kernel) (by decide +kernel)
set_option maxRecDepth 100000 in
theorem jnJ3 : Cond.initialized RJ3 ∈ WG := wg_in (i := 90) (by decide +kernel) (by decide +kernel)
set_option maxRecDepth 100000 in
theorem jmJ0_335 : Cond.methodLink RJ0 335 yJ0_coder_7d493 ∈ WG := wg_in (i := 609) (by decide +kernel) (by decide +kernel)
set_option maxRecDepth 100000 in
theorem jmJ0_492 : Cond.methodLink RJ0 492 yJ0_isLatin1_aae02 ∈ WG := wg_in (i := 619) (by decide +kernel) (by decide +kernel)
set_option maxRecDepth 100000 in
theorem jmJ0_495 : Cond.methodLink RJ0 495 yJ1_charAt_3b067 ∈ WG := wg_in (i := 623) (by decide +kernel) (by decide +kernel)
set_option maxRecDepth 100000 in
theorem jmJ1_9 : Cond.methodLink RJ1 9 yJ0_checkIndex_df160 ∈ WG := wg_in (i := 626) (by decide +kernel) (by decide +kernel)
set_option maxRecDepth 100000 in
theorem jmJ0_1059 : Cond.methodLink RJ0 1059 yJ3_checkIndex_8e157 ∈ WG := wg_in (i := 631) (by decide +kernel) (by decide +kernel)
set_option maxRecDepth 100000 in
theorem jmX2_142 : Cond.methodLink RX2 142 yJ0_length_8abf5 ∈ WG := wg_in (i := 605) (by decide +kernel) (by decide +kernel)
set_option maxRecDepth 100000 in
theorem jmX2_146 : Cond.methodLink RX2 146 yJ0_charAt_5068e ∈ WG := wg_in (i := 615) (by decide +kernel) (by decide +kernel)
set_option maxRecDepth 100000 in
theorem jmX7_103 : Cond.methodLink RX7 103 yJ0_length_8abf5 ∈ WG := wg_in (i := 1357) (by decide +kernel) (by decide +kernel)
set_option maxRecDepth 100000 in
theorem jmX7_108 : Cond.methodLink RX7 108 yJ0_charAt_5068e ∈ WG := wg_in (i := 1358) (by decide +kernel) (by decide +kernel)
set_option maxRecDepth 100000 in
theorem jf9 : Cond.fieldLink RJ0 9 "java/lang/String" "value" "[B" ∈ WG := wg_in (i := 1790) (by decide +kernel) (by decide +kernel)
set_option maxRecDepth 100000 in
theorem jf38 : Cond.fieldLink RJ0 38 "java/lang/String" "COMPACT_STRINGS" "Z" ∈ WG := wg_in (i := 613) (by decide +kernel) (by decide +kernel)
set_option maxRecDepth 100000 in
theorem jf15 : Cond.fieldLink RJ0 15 "java/lang/String" "coder" "B" ∈ WG := wg_in (i := 1791) (by decide +kernel) (by decide +kernel)
set_option maxRecDepth 100000 in
theorem jf1053 : Cond.fieldLink RJ0 1053 "jdk/internal/util/Preconditions" "SIOOBE_FORMATTER" "Ljava/util/function/BiFunction;" ∈ WG := wg_in (i := 629) (by decide +kernel) (by decide +kernel)
set_option maxRecDepth 100000 in
theorem sx_ok : ∀ q ∈ sxTab, lw_tbl[q.2.2.2]? = some (.methodLink (oR q.1) q.2.2.1 (if q.2.1 = 0 then yJ0_length_8abf5 else yJ0_charAt_5068e)) := by decide +kernel
def slT : List (List Int32) := [[109, 101, 109, 98, 101, 114], [97, 108, 119, 97, 121, 115], [110, 101, 118, 101, 114], [115, 97, 109, 101], [111, 116, 104, 101, 114], [117, 110, 100, 101, 114], [111, 118, 101, 114], [101, 118, 101, 114, 121], [104, 97, 116, 115], [115, 101, 101, 115], [116, 104, 105, 110, 107], [108, 101, 97, 114, 110, 115], [99, 111, 115, 116], [117, 109, 98, 114, 101, 108, 108, 97], [113, 117, 111, 116, 97], [100, 105, 110, 110, 101, 114], [102, 111, 103]]
def slen : List Nat := [6, 6, 5, 4, 5, 5, 4, 5, 4, 4, 5, 6, 4, 8, 5, 6, 3]
def stx : List String := ["member", "always", "never", "same", "other", "under", "over", "every", "hats", "sees", "think", "learns", "cost", "umbrella", "quota", "dinner", "fog"]
def sl (t : Nat) : List Int32 := slT.getD t []
theorem sl_ok : ∀ t, t < 17 → slen.getD t 0 = (sl t).length ∧ (sl t).length < 100 ∧ ∀ j, j < (sl t).length → (((sl t).getD j 0 &&& 255).toUInt32 % 65536).toInt32 = (sl t).getD j 0 ∧ narrow .char (.int ((sl t).getD j 0)) = .int ((sl t).getD j 0) := by decide +kernel
def SB (A : Nat → Prop) (ga adV : Nat → Nat) (U : State) : Prop := vk_S 17 slen slT (fun i => ga (3 + i)) adV A U U.heap ∧ va_Z "java/lang/String" "COMPACT_STRINGS" "Z" (.int 1) A U U.heap ∧ va_Zq "jdk/internal/util/Preconditions" "SIOOBE_FORMATTER" "Ljava/util/function/BiFunction;" A U U.heap
theorem SB.moved {A : Nat → Prop} {ga adV : Nat → Nat} {s U : State} (h : SB A ga adV s) (hvm : s.vm.Alike U.vm) (hq : ∀ a : Nat, a < s.heap.size → ¬ A a → U.heap[a]? = s.heap[a]?) : SB A ga adV U :=
  ⟨vk_S.kept (vk_S.moved hvm h.1) hq, va_Z.kept (va_Z.moved hvm h.2.1) hq, va_Zq.kept (va_Zq.moved hvm h.2.2) hq⟩
theorem SB.calling {A : Nat → Prop} {ga adV : Nat → Nat} {U : State} {g : JFrame} {mk : MethodId} {a : Array Value} (h : SB A ga adV U) : SB A ga adV (U.calling g mk a) := SB.moved h (Vm.Alike.refl U.vm) (fun _ _ _ => rfl)
theorem jgood {y : MethodName} {cc : ByteArray} {n : Nat} {r : Option FieldType} (h : Cond.code y cc n r ∈ WG) : GoodIn WG (Cond.code y cc n r :: WG) := good_WG (fun w hw => by
  rcases List.mem_cons.mp hw with h1 | h1
  · rw [h1]; exact h
  · exact h1)
def QcVoid : Array Value → State → Outcome → State → Prop := fun _ st o t => o = .returned none ∧ t.heap = st.heap

set_option maxHeartbeats 4000000 in
theorem j_coder (l : Launch) (A : Nat → Prop) (ga adV : Nat → Nat) {t : Nat} (ht : t < 17) (F Lc : Nat) : Met l yJ0_coder_7d493 (Cond.code yJ0_coder_7d493 cJ0_coder_7d493 1 (some .byte) :: WG) { frames := F, cells := 0, slots := 0, locals := Lc } (va_Pc [.ref (ga (3 + t))] (fun U => SB A ga adV U)) (QcRead 0) 0 0 (fun _ => False) := by
  refine Met.ofW (cc := cJ0_coder_7d493) (maxL := 1) (ret := (some .byte)) (by decide) rfl ?_
  intro p e s m args below meth c s₁ B hml hv
  obtain ⟨rfl, hSB⟩ := hv
  have hx := B.exec
  have hb := B.bytes
  have hr := B.returns
  have hts0 := atoms_spec (ws := Cond.code yJ0_coder_7d493 cJ0_coder_7d493 1 (some .byte) :: WG) B.pre
  have hts : ∀ w ∈ WG, w.before _ s = true := fun w h => hts0 w (List.mem_cons_of_mem _ h)
  have hown : s.vm.findClass RJ0 = some m.cls := findClass_of_methodNamed B.named
  have hlocks := B.notSynchronized
  have hS : va_S A s.heap s.heap [] := va_S.rf
  have hl := lv_entry ([.ref (ga (3 + t))]) (n := 1) (Nat.le_of_ble_eq_true rfl)
  rw [lg_entry_eq]
  generalize (lg_sl ([.ref (ga (3 + t))]) ++ List.replicate (1 - (lg_sl ([.ref (ga (3 + t))])).length) Slot.unset).toArray = ls at hl ⊢
  have hl : lv_has ls 1 [(0, .ref (ga (3 + t)))] := hl
  refine va_gets hx hb hSB.2.1 hS hown (hts _ jf38) (fun _ h => h) dJ0_coder_7d493_0 ?_
  refine lv_if_eq (tgt := 13) hx hb dJ0_coder_7d493_3 (by decide) (fun h => absurd h (by decide)) (fun _ => ?_)
  refine lv_aload_n hx hb dJ0_coder_7d493_6 rfl (lv_at hl 0 rfl) ?_
  refine vk_getf hx hb (hSB.1.1 t ht).2.1 hS hown (hts _ jf15) (fun _ h => h) dJ0_coder_7d493_7 ?_
  refine lv_goto (tgt := 14) hx hb dJ0_coder_7d493_10 (by decide) ?_
  exact W.zret hx hb hr rfl (fun t ht hW => ⟨rfl, ht⟩) (fun q h => nomatch h) dJ0_coder_7d493_14
set_option maxHeartbeats 4000000 in
theorem j_latin (l : Launch) (A : Nat → Prop) (ga adV : Nat → Nat) {t : Nat} (ht : t < 17) (F Lc : Nat) : Met l yJ0_isLatin1_aae02 (Cond.code yJ0_isLatin1_aae02 cJ0_isLatin1_aae02 1 (some .boolean) :: WG) { frames := F, cells := 0, slots := 0, locals := Lc } (va_Pc [.ref (ga (3 + t))] (fun U => SB A ga adV U)) (QcRead 1) 0 0 (fun _ => False) := by
  refine Met.ofW (cc := cJ0_isLatin1_aae02) (maxL := 1) (ret := (some .boolean)) (by decide) rfl ?_
  intro p e s m args below meth c s₁ B hml hv
  obtain ⟨rfl, hSB⟩ := hv
  have hx := B.exec
  have hb := B.bytes
  have hr := B.returns
  have hts0 := atoms_spec (ws := Cond.code yJ0_isLatin1_aae02 cJ0_isLatin1_aae02 1 (some .boolean) :: WG) B.pre
  have hts : ∀ w ∈ WG, w.before _ s = true := fun w h => hts0 w (List.mem_cons_of_mem _ h)
  have hown : s.vm.findClass RJ0 = some m.cls := findClass_of_methodNamed B.named
  have hlocks := B.notSynchronized
  have hS : va_S A s.heap s.heap [] := va_S.rf
  have hl := lv_entry ([.ref (ga (3 + t))]) (n := 1) (Nat.le_of_ble_eq_true rfl)
  rw [lg_entry_eq]
  generalize (lg_sl ([.ref (ga (3 + t))]) ++ List.replicate (1 - (lg_sl ([.ref (ga (3 + t))])).length) Slot.unset).toArray = ls at hl ⊢
  have hl : lv_has ls 1 [(0, .ref (ga (3 + t)))] := hl
  refine va_gets hx hb hSB.2.1 hS hown (hts _ jf38) (fun _ h => h) dJ0_isLatin1_aae02_0 ?_
  refine lv_if_eq (tgt := 17) hx hb dJ0_isLatin1_aae02_3 (by decide) (fun h => absurd h (by decide)) (fun _ => ?_)
  refine lv_aload_n hx hb dJ0_isLatin1_aae02_6 rfl (lv_at hl 0 rfl) ?_
  refine vk_getf hx hb (hSB.1.1 t ht).2.1 hS hown (hts _ jf15) (fun _ h => h) dJ0_isLatin1_aae02_7 ?_
  refine lv_if_ne (tgt := 17) hx hb dJ0_isLatin1_aae02_10 (by decide) (fun h => absurd rfl h) (fun _ => ?_)
  refine lv_iconst (v := 1) hx hb dJ0_isLatin1_aae02_13 (by decide) ?_
  refine lv_goto (tgt := 18) hx hb dJ0_isLatin1_aae02_14 (by decide) ?_
  exact W.zret hx hb hr rfl (fun t ht hW => ⟨rfl, ht⟩) (fun q h => nomatch h) dJ0_isLatin1_aae02_18
set_option maxHeartbeats 4000000 in
theorem j_chkN (l : Launch) (A : Nat → Prop) (ga adV : Nat → Nat) {i n : Int32}  (h0 : ¬ i < 0) (h1 : i < n) (F Lc : Nat) : Met l yJ3_checkIndex_8e157 (Cond.code yJ3_checkIndex_8e157 cJ3_checkIndex_8e157 3 (some .int) :: WG) { frames := F, cells := 0, slots := 0, locals := Lc } (va_Pc [.int i, .int n, .null] (fun U => (fun _ => True) U)) (QcRead i) 0 0 (fun _ => False) := by
  refine Met.ofW (cc := cJ3_checkIndex_8e157) (maxL := 3) (ret := (some .int)) (by decide) rfl ?_
  intro p e s m args below meth c s₁ B hml hv
  obtain ⟨rfl, hSB⟩ := hv
  have hx := B.exec
  have hb := B.bytes
  have hr := B.returns
  have hts0 := atoms_spec (ws := Cond.code yJ3_checkIndex_8e157 cJ3_checkIndex_8e157 3 (some .int) :: WG) B.pre
  have hts : ∀ w ∈ WG, w.before _ s = true := fun w h => hts0 w (List.mem_cons_of_mem _ h)
  have hown : s.vm.findClass RJ3 = some m.cls := findClass_of_methodNamed B.named
  have hlocks := B.notSynchronized
  have hS : va_S A s.heap s.heap [] := va_S.rf
  have hl := lv_entry ([.int i, .int n, .null]) (n := 3) (Nat.le_of_ble_eq_true rfl)
  rw [lg_entry_eq]
  generalize (lg_sl ([.int i, .int n, .null]) ++ List.replicate (3 - (lg_sl ([.int i, .int n, .null])).length) Slot.unset).toArray = ls at hl ⊢
  have hl : lv_has ls 3 [(0, .int i), (1, .int n), (2, .null)] := hl
  refine lv_iload_n hx hb dJ3_checkIndex_8e157_0 rfl (lv_at hl 0 rfl) ?_
  refine lv_if_lt (tgt := 9) hx hb dJ3_checkIndex_8e157_1 (by decide) (fun h => absurd h h0) (fun _ => ?_)
  refine lv_iload_n hx hb dJ3_checkIndex_8e157_4 rfl (lv_at hl 0 rfl) ?_
  refine lv_iload_n hx hb dJ3_checkIndex_8e157_5 rfl (lv_at hl 1 rfl) ?_
  refine lv_icmp_lt (tgt := 16) hx hb dJ3_checkIndex_8e157_6 (by decide) (fun _ => ?_) (fun h => absurd h1 h)
  refine lv_iload_n hx hb dJ3_checkIndex_8e157_16 rfl (lv_at hl 0 rfl) ?_
  exact W.iret hx hb hr (fun t ht hW => ⟨rfl, ht⟩) (fun q h => nomatch h) dJ3_checkIndex_8e157_17
set_option maxHeartbeats 4000000 in
theorem j_chkR (l : Launch) (A : Nat → Prop) (ga adV : Nat → Nat) {i n : Int32} {a0 : Nat} (h0 : ¬ i < 0) (h1 : i < n) (F Lc : Nat) : Met l yJ3_checkIndex_8e157 (Cond.code yJ3_checkIndex_8e157 cJ3_checkIndex_8e157 3 (some .int) :: WG) { frames := F, cells := 0, slots := 0, locals := Lc } (va_Pc [.int i, .int n, .ref a0] (fun U => (fun _ => True) U)) (QcRead i) 0 0 (fun _ => False) := by
  refine Met.ofW (cc := cJ3_checkIndex_8e157) (maxL := 3) (ret := (some .int)) (by decide) rfl ?_
  intro p e s m args below meth c s₁ B hml hv
  obtain ⟨rfl, hSB⟩ := hv
  have hx := B.exec
  have hb := B.bytes
  have hr := B.returns
  have hts0 := atoms_spec (ws := Cond.code yJ3_checkIndex_8e157 cJ3_checkIndex_8e157 3 (some .int) :: WG) B.pre
  have hts : ∀ w ∈ WG, w.before _ s = true := fun w h => hts0 w (List.mem_cons_of_mem _ h)
  have hown : s.vm.findClass RJ3 = some m.cls := findClass_of_methodNamed B.named
  have hlocks := B.notSynchronized
  have hS : va_S A s.heap s.heap [] := va_S.rf
  have hl := lv_entry ([.int i, .int n, .ref a0]) (n := 3) (Nat.le_of_ble_eq_true rfl)
  rw [lg_entry_eq]
  generalize (lg_sl ([.int i, .int n, .ref a0]) ++ List.replicate (3 - (lg_sl ([.int i, .int n, .ref a0])).length) Slot.unset).toArray = ls at hl ⊢
  have hl : lv_has ls 3 [(0, .int i), (1, .int n), (2, .ref a0)] := hl
  refine lv_iload_n hx hb dJ3_checkIndex_8e157_0 rfl (lv_at hl 0 rfl) ?_
  refine lv_if_lt (tgt := 9) hx hb dJ3_checkIndex_8e157_1 (by decide) (fun h => absurd h h0) (fun _ => ?_)
  refine lv_iload_n hx hb dJ3_checkIndex_8e157_4 rfl (lv_at hl 0 rfl) ?_
  refine lv_iload_n hx hb dJ3_checkIndex_8e157_5 rfl (lv_at hl 1 rfl) ?_
  refine lv_icmp_lt (tgt := 16) hx hb dJ3_checkIndex_8e157_6 (by decide) (fun _ => ?_) (fun h => absurd h1 h)
  refine lv_iload_n hx hb dJ3_checkIndex_8e157_16 rfl (lv_at hl 0 rfl) ?_
  exact W.iret hx hb hr (fun t ht hW => ⟨rfl, ht⟩) (fun q h => nomatch h) dJ3_checkIndex_8e157_17
set_option maxHeartbeats 4000000 in
theorem j_check (l : Launch) (A : Nat → Prop) (ga adV : Nat → Nat) {i n : Int32} (h0 : ¬ i < 0) (h1 : i < n) (F Lc : Nat) : Met l yJ0_checkIndex_df160 (Cond.code yJ0_checkIndex_df160 cJ0_checkIndex_df160 2 none :: WG) { frames := F + 1, cells := 0, slots := 0, locals := Lc + 22 } (va_Pc [.int i, .int n] (fun U => SB A ga adV U)) (QcVoid) 0 0 (fun _ => False) := by
  refine Met.ofW (cc := cJ0_checkIndex_df160) (maxL := 2) (ret := none) (by decide) rfl ?_
  intro p e s m args below meth c s₁ B hml hv
  obtain ⟨rfl, hSB⟩ := hv
  have hx := B.exec
  have hb := B.bytes
  have hr := B.returns
  have hts0 := atoms_spec (ws := Cond.code yJ0_checkIndex_df160 cJ0_checkIndex_df160 2 none :: WG) B.pre
  have hts : ∀ w ∈ WG, w.before _ s = true := fun w h => hts0 w (List.mem_cons_of_mem _ h)
  have hown : s.vm.findClass RJ0 = some m.cls := findClass_of_methodNamed B.named
  have hlocks := B.notSynchronized
  have hS : va_S A s.heap s.heap [] := va_S.rf
  have hl := lv_entry ([.int i, .int n]) (n := 2) (Nat.le_of_ble_eq_true rfl)
  rw [lg_entry_eq]
  generalize (lg_sl ([.int i, .int n]) ++ List.replicate (2 - (lg_sl ([.int i, .int n])).length) Slot.unset).toArray = ls at hl ⊢
  have hl : lv_has ls 2 [(0, .int i), (1, .int n)] := hl
  refine lv_iload_n hx hb dJ0_checkIndex_df160_0 rfl (lv_at hl 0 rfl) ?_
  refine lv_iload_n hx hb dJ0_checkIndex_df160_1 rfl (lv_at hl 1 rfl) ?_
  rcases hSB.2.2 with hZ | ⟨a0, hZ⟩
  · refine va_gets hx hb hZ hS hown (hts _ jf1053) (fun _ h => h) dJ0_checkIndex_df160_2 ?_
    refine W.callR (W.runS (As := [.int i, .int n, .null]) (rest := []) ⟨hx, hb, hml, hown, hts⟩ (j_chkN l A ga adV h0 h1 0 0) ⟨callB_of 3 hts (jgood jcJ3_checkIndex_8e157) rfl rfl rfl (hts _ jnJ3) (hts _ jmJ0_1059) (by decide +kernel) ⟨by show 0 + 1 ≤ F + 1; omega, by show 8 + (3 + 11) + 0 ≤ Lc + 22; omega⟩, hts _ jsJ3_checkIndex_8e157⟩ ⟨fun _ _ _ _ q => q, fun _ _ _ => ⟨rfl, trivial⟩⟩ rfl rfl hl.1 rfl (lv_room (Nat.le_of_ble_eq_true rfl)) dJ0_checkIndex_df160_5 ⟨Nat.zero_le _, Nat.zero_le _⟩) ?_
    refine W.eq (g2 := F0 m 8 ls [.int i]) rfl ?_
    refine lv_pop hx hb dJ0_checkIndex_df160_8 rfl ?_
    exact W.vret hx hb hr (fun t ht hW => ⟨rfl, ht⟩) (fun q h => nomatch h) dJ0_checkIndex_df160_9
  · refine va_gets hx hb hZ hS hown (hts _ jf1053) (fun _ h => h) dJ0_checkIndex_df160_2 ?_
    refine W.callR (W.runS (As := [.int i, .int n, .ref a0]) (rest := []) ⟨hx, hb, hml, hown, hts⟩ (j_chkR l A ga adV (a0 := a0) h0 h1 0 0) ⟨callB_of 3 hts (jgood jcJ3_checkIndex_8e157) rfl rfl rfl (hts _ jnJ3) (hts _ jmJ0_1059) (by decide +kernel) ⟨by show 0 + 1 ≤ F + 1; omega, by show 8 + (3 + 11) + 0 ≤ Lc + 22; omega⟩, hts _ jsJ3_checkIndex_8e157⟩ ⟨fun _ _ _ _ q => q, fun _ _ _ => ⟨rfl, trivial⟩⟩ rfl rfl hl.1 rfl (lv_room (Nat.le_of_ble_eq_true rfl)) dJ0_checkIndex_df160_5 ⟨Nat.zero_le _, Nat.zero_le _⟩) ?_
    refine W.eq (g2 := F0 m 8 ls [.int i]) rfl ?_
    refine lv_pop hx hb dJ0_checkIndex_df160_8 rfl ?_
    exact W.vret hx hb hr (fun t ht hW => ⟨rfl, ht⟩) (fun q h => nomatch h) dJ0_checkIndex_df160_9

set_option maxHeartbeats 4000000 in
theorem j_at1 (l : Launch) (A : Nat → Prop) (ga adV : Nat → Nat) {t : Nat} {i : Int32} (ht : t < 17) (hi : vp_in i (sl t).length) (F Lc : Nat) : Met l yJ1_charAt_3b067 (Cond.code yJ1_charAt_3b067 cJ1_charAt_3b067 2 (some .char) :: WG) { frames := F + 2, cells := 0, slots := 0, locals := Lc + 43 } (va_Pc [.ref (adV t), .int i] (fun U => SB A ga adV U)) (QcRead ((sl t).getD i.toNatClampNeg 0)) 0 0 (fun _ => False) := by
  obtain ⟨hs1, hs2, hs3⟩ := sl_ok t ht
  have h0 : ¬ i < 0 := fun q => hi (Or.inl q)
  have hin : i.toNatClampNeg < (sl t).length := Nat.not_le.mp fun q => hi (Or.inr q)
  have h1 : i < Int32.ofNat (sl t).length := by
    obtain ⟨j, hj, rfl⟩ := vp_in_of hi (by omega)
    exact nI_lt hj (by omega)
  obtain ⟨e1, e2⟩ := hs3 _ hin
  refine Met.ofW (cc := cJ1_charAt_3b067) (maxL := 2) (ret := (some .char)) (by decide) rfl ?_
  intro p e s m args below meth c s₁ B hml hv
  obtain ⟨rfl, hSB⟩ := hv
  have hx := B.exec
  have hb := B.bytes
  have hr := B.returns
  have hts0 := atoms_spec (ws := Cond.code yJ1_charAt_3b067 cJ1_charAt_3b067 2 (some .char) :: WG) B.pre
  have hts : ∀ w ∈ WG, w.before _ s = true := fun w h => hts0 w (List.mem_cons_of_mem _ h)
  have hown : s.vm.findClass RJ1 = some m.cls := findClass_of_methodNamed B.named
  have hlocks := B.notSynchronized
  have hS : va_S A s.heap s.heap [] := va_S.rf
  have hl := lv_entry ([.ref (adV t), .int i]) (n := 2) (Nat.le_of_ble_eq_true rfl)
  rw [lg_entry_eq]
  generalize (lg_sl ([.ref (adV t), .int i]) ++ List.replicate (2 - (lg_sl ([.ref (adV t), .int i])).length) Slot.unset).toArray = ls at hl ⊢
  have hl : lv_has ls 2 [(0, .ref (adV t)), (1, .int i)] := hl
  have hT := (hSB.1.1 t ht).2.2.2
  rw [hs1] at hT
  refine lv_iload_n hx hb dJ1_charAt_3b067_0 rfl (lv_at hl 1 rfl) ?_
  refine lv_aload_n hx hb dJ1_charAt_3b067_1 rfl (lv_at hl 0 rfl) ?_
  refine va_tlen hx hb hT hS rfl dJ1_charAt_3b067_2 ?_
  refine W.callX (W.runS (As := [.int i, .int (Int32.ofNat (sl t).length)]) (rest := []) ⟨hx, hb, hml, hown, hts⟩ (j_check l A ga adV h0 h1 0 0) ⟨callB_of 2 hts (jgood jcJ0_checkIndex_df160) rfl rfl rfl (hts _ jnJ0) (hts _ jmJ1_9) (by decide +kernel) ⟨by show 0 + 1 + 1 ≤ F + 2; omega, by show 8 + (2 + 11) + (0 + 22) ≤ Lc + 43; omega⟩, hts _ jsJ0_checkIndex_df160⟩ ⟨fun _ _ _ _ q => ⟨q.1, q.2.calling⟩, fun U hU hW => ⟨rfl, hSB.moved hW.alike (fun _ _ _ => by rw [hU])⟩⟩ rfl rfl hl.1 rfl (lv_room (Nat.le_of_ble_eq_true rfl)) dJ1_charAt_3b067_3 ⟨Nat.zero_le _, Nat.zero_le _⟩) (fun _ h => nomatch h) (fun v st₀ t9 h9 hq9 => ?_)
  obtain ⟨hv9, hh9⟩ := hq9
  cases hv9
  rw [hh9, h9]
  refine W.eq (g2 := F0 m 6 ls []) rfl ?_
  refine lv_aload_n hx hb dJ1_charAt_3b067_6 rfl (lv_at hl 0 rfl) ?_
  refine lv_iload_n hx hb dJ1_charAt_3b067_7 rfl (lv_at hl 1 rfl) ?_
  refine va_tb hx hb hT hS hi rfl dJ1_charAt_3b067_8 ?_
  refine lv_sipush (v := 255) hx hb dJ1_charAt_3b067_9 (by decide) ?_
  refine lv_iand hx hb dJ1_charAt_3b067_12 ?_
  refine lv_i2c hx hb dJ1_charAt_3b067_13 e1 ?_
  exact W.zret hx hb hr e2 (fun t ht hW => ⟨rfl, ht⟩) (fun q h => nomatch h) dJ1_charAt_3b067_14
set_option maxHeartbeats 4000000 in
theorem j_charAt (l : Launch) (A : Nat → Prop) (ga adV : Nat → Nat) {t : Nat} {i : Int32} (ht : t < 17) (hi : vp_in i (sl t).length) (F Lc : Nat) : Met l yJ0_charAt_5068e (Cond.code yJ0_charAt_5068e cJ0_charAt_5068e 2 (some .char) :: WG) { frames := F + 3, cells := 0, slots := 0, locals := Lc + 64 } (va_Pc [.ref (ga (3 + t)), .int i] (fun U => SB A ga adV U)) (QcRead ((sl t).getD i.toNatClampNeg 0)) 0 0 (fun _ => False) := by
  obtain ⟨hs1, hs2, hs3⟩ := sl_ok t ht
  have hin : i.toNatClampNeg < (sl t).length := Nat.not_le.mp fun q => hi (Or.inr q)
  obtain ⟨e1, e2⟩ := hs3 _ hin
  refine Met.ofW (cc := cJ0_charAt_5068e) (maxL := 2) (ret := (some .char)) (by decide) rfl ?_
  intro p e s m args below meth c s₁ B hml hv
  obtain ⟨rfl, hSB⟩ := hv
  have hx := B.exec
  have hb := B.bytes
  have hr := B.returns
  have hts0 := atoms_spec (ws := Cond.code yJ0_charAt_5068e cJ0_charAt_5068e 2 (some .char) :: WG) B.pre
  have hts : ∀ w ∈ WG, w.before _ s = true := fun w h => hts0 w (List.mem_cons_of_mem _ h)
  have hown : s.vm.findClass RJ0 = some m.cls := findClass_of_methodNamed B.named
  have hlocks := B.notSynchronized
  have hS : va_S A s.heap s.heap [] := va_S.rf
  have hl := lv_entry ([.ref (ga (3 + t)), .int i]) (n := 2) (Nat.le_of_ble_eq_true rfl)
  rw [lg_entry_eq]
  generalize (lg_sl ([.ref (ga (3 + t)), .int i]) ++ List.replicate (2 - (lg_sl ([.ref (ga (3 + t)), .int i])).length) Slot.unset).toArray = ls at hl ⊢
  have hl : lv_has ls 2 [(0, .ref (ga (3 + t))), (1, .int i)] := hl
  refine lv_aload_n hx hb dJ0_charAt_5068e_0 rfl (lv_at hl 0 rfl) ?_
  refine W.callR (W.runV (C := RJ0) (b := ga (3 + t)) (As := []) (rest := []) ⟨hx, hb, hml, hown, hts⟩ (j_latin l A ga adV ht 0 0) ⟨callB_of 0 hts (jgood jcJ0_isLatin1_aae02) rfl rfl rfl (hts _ jnJ0) (hts _ jmJ0_492) (by decide +kernel) ⟨by show 0 + 1 ≤ F + 3; omega, by show 8 + (1 + 11) + 0 ≤ Lc + 64; omega⟩, hts _ jiJ0_isLatin1_aae02, hts _ jlJ0_isLatin1_aae02⟩ ⟨fun _ _ _ _ q => ⟨q.1, q.2.calling⟩, vk_recv (adK := fun i => ga (3 + i)) (i := t) hSB.1 ht hS, fun U hU hW => ⟨rfl, hSB.moved hW.alike (fun _ _ _ => by rw [hU])⟩⟩ rfl rfl hl.1 rfl (lv_room (Nat.le_of_ble_eq_true rfl)) dJ0_charAt_5068e_1 ⟨Nat.zero_le _, Nat.zero_le _⟩) ?_
  refine W.eq (g2 := F0 m 4 ls [.int 1]) rfl ?_
  refine lv_if_eq (tgt := 16) hx hb dJ0_charAt_5068e_4 (by decide) (fun h => absurd h (by decide)) (fun _ => ?_)
  refine lv_aload_n hx hb dJ0_charAt_5068e_7 rfl (lv_at hl 0 rfl) ?_
  refine vk_getf hx hb (hSB.1.1 t ht).2.2.1 hS hown (hts _ jf9) (fun _ h => h) dJ0_charAt_5068e_8 ?_
  refine lv_iload_n hx hb dJ0_charAt_5068e_11 rfl (lv_at hl 1 rfl) ?_
  refine W.callR (W.runS (As := [.ref (adV t), .int i]) (rest := []) ⟨hx, hb, hml, hown, hts⟩ (j_at1 l A ga adV ht hi 0 0) ⟨callB_of 2 hts (jgood jcJ1_charAt_3b067) rfl rfl rfl (hts _ jnJ1) (hts _ jmJ0_495) (by decide +kernel) ⟨by show 0 + 2 + 1 ≤ F + 3; omega, by show 8 + (2 + 11) + (0 + 43) ≤ Lc + 64; omega⟩, hts _ jsJ1_charAt_3b067⟩ ⟨fun _ _ _ _ q => ⟨q.1, q.2.calling⟩, fun U hU hW => ⟨rfl, hSB.moved hW.alike (fun _ _ _ => by rw [hU])⟩⟩ rfl rfl hl.1 rfl (lv_room (Nat.le_of_ble_eq_true rfl)) dJ0_charAt_5068e_12 ⟨Nat.zero_le _, Nat.zero_le _⟩) ?_
  refine W.eq (g2 := F0 m 15 ls [.int ((sl t).getD i.toNatClampNeg 0)]) rfl ?_
  exact W.zret hx hb hr e2 (fun t ht hW => ⟨rfl, ht⟩) (fun q h => nomatch h) dJ0_charAt_5068e_15
set_option maxHeartbeats 4000000 in
theorem j_length (l : Launch) (A : Nat → Prop) (ga adV : Nat → Nat) {t : Nat} (ht : t < 17) (F Lc : Nat) : Met l yJ0_length_8abf5 (Cond.code yJ0_length_8abf5 cJ0_length_8abf5 1 (some .int) :: WG) { frames := F + 1, cells := 0, slots := 0, locals := Lc + 20 } (va_Pc [.ref (ga (3 + t))] (fun U => SB A ga adV U)) (QcRead (Int32.ofNat (sl t).length)) 0 0 (fun _ => False) := by
  obtain ⟨hs1, hs2, hs3⟩ := sl_ok t ht
  refine Met.ofW (cc := cJ0_length_8abf5) (maxL := 1) (ret := (some .int)) (by decide) rfl ?_
  intro p e s m args below meth c s₁ B hml hv
  obtain ⟨rfl, hSB⟩ := hv
  have hx := B.exec
  have hb := B.bytes
  have hr := B.returns
  have hts0 := atoms_spec (ws := Cond.code yJ0_length_8abf5 cJ0_length_8abf5 1 (some .int) :: WG) B.pre
  have hts : ∀ w ∈ WG, w.before _ s = true := fun w h => hts0 w (List.mem_cons_of_mem _ h)
  have hown : s.vm.findClass RJ0 = some m.cls := findClass_of_methodNamed B.named
  have hlocks := B.notSynchronized
  have hS : va_S A s.heap s.heap [] := va_S.rf
  have hl := lv_entry ([.ref (ga (3 + t))]) (n := 1) (Nat.le_of_ble_eq_true rfl)
  rw [lg_entry_eq]
  generalize (lg_sl ([.ref (ga (3 + t))]) ++ List.replicate (1 - (lg_sl ([.ref (ga (3 + t))])).length) Slot.unset).toArray = ls at hl ⊢
  have hl : lv_has ls 1 [(0, .ref (ga (3 + t)))] := hl
  have hT := (hSB.1.1 t ht).2.2.2
  rw [hs1] at hT
  refine lv_aload_n hx hb dJ0_length_8abf5_0 rfl (lv_at hl 0 rfl) ?_
  refine vk_getf hx hb (hSB.1.1 t ht).2.2.1 hS hown (hts _ jf9) (fun _ h => h) dJ0_length_8abf5_1 ?_
  refine va_tlen hx hb hT hS rfl dJ0_length_8abf5_4 ?_
  refine lv_aload_n hx hb dJ0_length_8abf5_5 rfl (lv_at hl 0 rfl) ?_
  refine W.callR (W.runV (C := RJ0) (b := ga (3 + t)) (As := []) (rest := [.int (Int32.ofNat (sl t).length)]) ⟨hx, hb, hml, hown, hts⟩ (j_coder l A ga adV ht 0 0) ⟨callB_of 0 hts (jgood jcJ0_coder_7d493) rfl rfl rfl (hts _ jnJ0) (hts _ jmJ0_335) (by decide +kernel) ⟨by show 0 + 1 ≤ F + 1; omega, by show 8 + (1 + 11) + 0 ≤ Lc + 20; omega⟩, hts _ jiJ0_coder_7d493, hts _ jlJ0_coder_7d493⟩ ⟨fun _ _ _ _ q => ⟨q.1, q.2.calling⟩, vk_recv (adK := fun i => ga (3 + i)) (i := t) hSB.1 ht hS, fun U hU hW => ⟨rfl, hSB.moved hW.alike (fun _ _ _ => by rw [hU])⟩⟩ rfl rfl hl.1 rfl (lv_room (Nat.le_of_ble_eq_true rfl)) dJ0_length_8abf5_6 ⟨Nat.zero_le _, Nat.zero_le _⟩) ?_
  refine W.eq (g2 := F0 m 9 ls [.int 0, .int (Int32.ofNat (sl t).length)]) rfl ?_
  refine lv_ishr hx hb dJ0_length_8abf5_9 ?_
  rw [sb_shr0]
  exact W.iret hx hb hr (fun t ht hW => ⟨rfl, ht⟩) (fun q h => nomatch h) dJ0_length_8abf5_10
