/-! ===== the words of a throw ===== -/
def nmsX : List String := ["java/lang/RuntimeException", "java/lang/Exception"]
def thB (k : Nat) : List Cond := Cond.castable (exN k) (exN k) :: declX.map Cond.declares
set_option maxRecDepth 100000 in
theorem thW0 : ∀ w ∈ (vx_at0 RX6 127 (exN 0) nmsX).filter goodWord, w ∈ WG := wg_list [84, 536, 545, 550, 553, 555, 537, 538, 104, 105, 539, 544, 551, 567, 526, 568, 528, 569, 530, 540, 542, 532, 557, 558, 559, 560, 560, 561, 562, 563, 563, 564, 565, 537, 556, 515, 523, 524, 525, 527, 529, 531, 535, 534, 533] (by decide +kernel) (by decide +kernel)
set_option maxRecDepth 100000 in
theorem thN0 : ∀ w ∈ (vx_at0 RX6 127 (exN 0) nmsX).filter (fun w => !goodWord w), w ∈ thB 0 := by decide +kernel
set_option maxRecDepth 100000 in
theorem thG0 : ∀ w ∈ Cond.classLink RX6 125 (exN 0) :: Cond.initialized (exN 0) :: vx_at0 RX6 127 (exN 0) nmsX, vx_ot w = true := by decide +kernel
theorem thI0 : Cond.initialized (exN 0) ∈ WG := wg_in (i := 87) (by decide +kernel) (by decide +kernel)
set_option maxRecDepth 100000 in
theorem thW1 : ∀ w ∈ (vx_at0 RX6 339 (exN 1) nmsX).filter goodWord, w ∈ WG := wg_list [84, 536, 545, 550, 553, 555, 537, 538, 104, 105, 539, 544, 551, 567, 526, 568, 528, 569, 530, 540, 542, 532, 730, 731, 732, 560, 560, 561, 562, 563, 563, 564, 565, 537, 729, 721, 723, 549, 724, 725, 726, 727, 535, 534, 728] (by decide +kernel) (by decide +kernel)
set_option maxRecDepth 100000 in
theorem thN1 : ∀ w ∈ (vx_at0 RX6 339 (exN 1) nmsX).filter (fun w => !goodWord w), w ∈ thB 1 := by decide +kernel
set_option maxRecDepth 100000 in
theorem thG1 : ∀ w ∈ Cond.classLink RX6 337 (exN 1) :: Cond.initialized (exN 1) :: vx_at0 RX6 339 (exN 1) nmsX, vx_ot w = true := by decide +kernel
theorem thI1 : Cond.initialized (exN 1) ∈ WG := wg_in (i := 92) (by decide +kernel) (by decide +kernel)
set_option maxRecDepth 100000 in
theorem thW2 : ∀ w ∈ (vx_at0 RX6 227 (exN 2) nmsX).filter goodWord, w ∈ WG := wg_list [84, 536, 545, 550, 553, 555, 537, 538, 104, 105, 539, 544, 551, 567, 526, 568, 528, 569, 530, 540, 542, 532, 768, 769, 770, 560, 560, 561, 562, 563, 563, 564, 565, 537, 767, 759, 761, 547, 762, 763, 764, 765, 535, 534, 766] (by decide +kernel) (by decide +kernel)
set_option maxRecDepth 100000 in
theorem thN2 : ∀ w ∈ (vx_at0 RX6 227 (exN 2) nmsX).filter (fun w => !goodWord w), w ∈ thB 2 := by decide +kernel
set_option maxRecDepth 100000 in
theorem thG2 : ∀ w ∈ Cond.classLink RX6 225 (exN 2) :: Cond.initialized (exN 2) :: vx_at0 RX6 227 (exN 2) nmsX, vx_ot w = true := by decide +kernel
theorem thI2 : Cond.initialized (exN 2) ∈ WG := wg_in (i := 94) (by decide +kernel) (by decide +kernel)
set_option maxRecDepth 100000 in
theorem thW3 : ∀ w ∈ (vx_at0 RX6 320 (exN 3) nmsX).filter goodWord, w ∈ WG := wg_list [84, 536, 545, 550, 553, 555, 537, 538, 104, 105, 539, 544, 551, 567, 526, 568, 528, 569, 530, 540, 542, 532, 1177, 1178, 1179, 560, 560, 561, 562, 563, 563, 564, 565, 537, 1176, 1168, 1170, 548, 1171, 1172, 1173, 1174, 535, 534, 1175] (by decide +kernel) (by decide +kernel)
set_option maxRecDepth 100000 in
theorem thN3 : ∀ w ∈ (vx_at0 RX6 320 (exN 3) nmsX).filter (fun w => !goodWord w), w ∈ thB 3 := by decide +kernel
set_option maxRecDepth 100000 in
theorem thG3 : ∀ w ∈ Cond.classLink RX6 318 (exN 3) :: Cond.initialized (exN 3) :: vx_at0 RX6 320 (exN 3) nmsX, vx_ot w = true := by decide +kernel
theorem thI3 : Cond.initialized (exN 3) ∈ WG := wg_in (i := 97) (by decide +kernel) (by decide +kernel)
theorem th_words {own k ik ic i : Nat} (hq : (own, k, ik, ic, i) ∈ excTab) : (∀ w ∈ (vx_at0 (oR own) ic (exN k) nmsX).filter goodWord, w ∈ WG) ∧ (∀ w ∈ (vx_at0 (oR own) ic (exN k) nmsX).filter (fun w => !goodWord w), w ∈ thB k) ∧ (∀ w ∈ Cond.classLink (oR own) ik (exN k) :: Cond.initialized (exN k) :: vx_at0 (oR own) ic (exN k) nmsX, vx_ot w = true) ∧ Cond.initialized (exN k) ∈ WG ∧ Cond.classLink (oR own) ik (exN k) ∈ WG := by
  have hc : Cond.classLink (oR own) ik (exN k) ∈ WG := wg_in (exc_ok _ hq) rfl
  simp only [excTab, List.mem_cons, List.not_mem_nil, or_false, Prod.mk.injEq] at hq
  rcases hq with h | h | h | h
  · obtain ⟨rfl, rfl, rfl, rfl, rfl⟩ := h
    exact ⟨thW0, thN0, thG0, thI0, hc⟩
  · obtain ⟨rfl, rfl, rfl, rfl, rfl⟩ := h
    exact ⟨thW1, thN1, thG1, thI1, hc⟩
  · obtain ⟨rfl, rfl, rfl, rfl, rfl⟩ := h
    exact ⟨thW2, thN2, thG2, thI2, hc⟩
  · obtain ⟨rfl, rfl, rfl, rfl, rfl⟩ := h
    exact ⟨thW3, thN3, thG3, thI3, hc⟩
theorem exN_fit : ∀ k, k < 4 → Bundle.fit (exN k) = true := by decide +kernel
theorem nms_fit : ∀ n ∈ nmsX, Bundle.fit n = true := by decide +kernel
theorem xRel.kept {D : va_G} {cA : Nat → ClassId} {A : Nat → Prop} {h : ac_H} {H H1 : Heap} (hR : xRel D cA A h H) (hq : ∀ q : Nat, q < H.size → H1[q]? = H[q]?) : xRel D cA A h H1 := by
  obtain ⟨dom, h1, h2, h3⟩ := hR
  exact ⟨dom, h1, h2.kept (fun k q hk => hq _ (vx_lt h2 hk)), h3⟩
theorem F_of_S {A : Nat → Prop} {s t : State} {H : Heap} {locs : List Loc} (hS : va_S A s.heap H locs) (hz : H.size ≤ t.heap.size) (hq : ∀ q : Nat, q < H.size → t.heap[q]? = H[q]?) : va_F A s t := ⟨Nat.le_trans hS.1 hz, fun q h1 h2 => by rw [hq q (Nat.lt_of_lt_of_le h1 hS.1)]; exact hS.2.1 q h1 h2⟩
section THR
variable {p : Program} {l : Launch} {e : Env} {R : Room} {s : State} {m : MethodId} {args : Array Value} {below : List Frame} {meth : Method} {c : Code} {D : va_G} {cA : Nat → ClassId} {A : Nat → Prop} {P : ac_P}
variable {cc : ByteArray} {own : Nat} {tr : Nat} {nL : Nat} {ga adV : Nat → Nat} {L : Nat} {xs : Nat → Int32} {mb : Nat × Nat}
theorem th_all (hx : p.tables.exec = Jvm.exec) (hb : c.code = cc) (hl : l.stackTraces = false) (hts : ∀ w ∈ WG, w.before args s = true) (hown : s.vm.findClass (oR own) = some m.cls) (hG : GBt D cA A ga adV L xs s) (hlocks : meth.locks = false) (hml : c.maxLocals = nL) (htab : tr = 0 → ∀ x ∈ c.exceptionTable.toList, False) (hRF : 8 ≤ R.frames) (hRL : 200 ≤ R.locals) (hRC : mb.1 ≤ R.cells ∧ mb.2 ≤ R.slots)
    (k ik ic i pc : Nat) (h : ac_H) (bg : Nat × Nat) (H : Heap) (locs : List Loc) (la : Array Slot) (st : List Value) (hq : (own, k, ik, ic, i) ∈ excTab) (d0 : decode cc pc = .ok (.new ik, 3)) (d3 : decode cc (pc + 3) = .ok (.dup, 1)) (d4 : decode cc (pc + 4) = .ok (.invokespecial ic, 3)) (d7 : decode cc (pc + 7) = .ok (.athrow, 1)) (htr : tr = 0) (hbb : bgle (bgad bg (1, 6)) mb) (hst : st.length ≤ 4) (hk : k < 4) (hP : P (.inr k) h) (hR : xRel D cA A h H) (hS : va_S A s.heap H locs) (hla : lv_has la nL []) :
    W p l e R s m args below meth c H locs bg.1 bg.2 (vx_MQ below (QcP D cA A P) (XcP D cA A P) args s mb.1 mb.2 A) (F0 m pc la st) := by
  obtain ⟨w1, w2, w3, w4, w5⟩ := th_words hq
  obtain ⟨g1, g2, g3, g4, g5, g6, g7, g8, g9, g10, ⟨g11, g12⟩, g13, g14, g15⟩ := hG
  have hcs := catsum st
  have hb1 : bg.1 + 1 ≤ mb.1 := hbb.1
  have hb2 : bg.2 + 6 ≤ mb.2 := hbb.2
  have hat : ∀ w ∈ vx_at0 (oR own) ic (exN k) nmsX, w.before args s = true := vx_hat (fun w hw => hts w (w1 w hw)) w2 (fun w hw => by
    rcases List.mem_cons.mp hw with h9 | h9
    · rw [h9]; exact va_Nw.use rfl (g13 k hk)
    · obtain ⟨x, hx9, rfl⟩ := List.mem_map.mp h9
      exact va_Nw.use rfl (g14 x hx9))
  exact vx_throw0 hx hb hl (own := oR own) (cls := exN k) (names := nmsX) hown (exN_fit k hk) nms_fit (hts _ w5) (hts _ w4) hat w3 g11 g12 hS (hla.1.trans hml.symm) d0 d3 d4 d7 (fun x hx9 => (htab htr x hx9).elim) (by show 2 + 3 < R.frames; omega) (by show _ + (13 * (2 + 1) + 42) ≤ R.locals; omega) (by omega) (by omega) hlocks (fun t ha hz hq9 => ⟨⟨k, h, hk, rfl, hP, hR.kept hq9⟩, F_of_S hS hz hq9⟩) hS.2.2 hb1 hb2
end THR
