/-! ===== new int[n][k] ===== -/
theorem dis_app {A : Nat → Prop} {u v : va_W} (hD : va_D A (u ++ v)) {x y : Nat × va_E} (hx : x ∈ u) (hy : y ∈ v) : x.1 ≠ y.1 := by
  intro e
  obtain ⟨i, hi⟩ := List.getElem?_of_mem hx
  obtain ⟨j, hj⟩ := List.getElem?_of_mem hy
  have hil : i < u.length := (List.getElem?_eq_some_iff.mp hi).1
  have h1 : (u ++ v)[i]? = some x := by rw [List.getElem?_append_left hil]; exact hi
  have h2 : (u ++ v)[u.length + j]? = some y := by rw [List.getElem?_append_right (by omega), Nat.add_sub_cancel_left]; exact hj
  have := hD.1 _ _ _ _ h1 h2 e
  omega
theorem xRel.grid {D : va_G} {cA : Nat → ClassId} {A : Nat → Prop} {h : ac_H} {H1 : Heap} {q : Nat} {rs dom : List Nat} {c0 c1 : ac_C} (hd : ∀ a, h a ≠ none ↔ a ∈ dom) (hP : va_P D vwCl ((cwK cA h dom ++ [(q, encC cA (some c1))]) ++ rs.map (fun a => (a, encC cA (some c0)))) H1) (hD : va_D A ((cwK cA h dom ++ [(q, encC cA (some c1))]) ++ rs.map (fun a => (a, encC cA (some c0))))) : h q = none ∧ (∀ a ∈ rs, h a = none ∧ a ≠ q) ∧ xRel D cA A (hup (hgr h rs c0) q c1) H1 := by
  have e1 : ∀ a ∈ dom, ∀ b ∈ rs, a ≠ b := by
    intro a ha b hb
    have h1 : (a, encC cA (h a)) ∈ cwK cA h dom ++ [(q, encC cA (some c1))] := List.mem_append_left _ (by unfold cwK; exact List.mem_map.mpr ⟨a, ha, rfl⟩)
    have h2 : (b, encC cA (some c0)) ∈ rs.map (fun a => (a, encC cA (some c0))) := List.mem_map.mpr ⟨b, hb, rfl⟩
    exact dis_app hD h1 h2
  have e2 : ∀ b ∈ rs, b ≠ q := by
    intro b hb
    have h1 : (q, encC cA (some c1)) ∈ cwK cA h dom ++ [(q, encC cA (some c1))] := List.mem_append_right _ List.mem_cons_self
    have h2 : (b, encC cA (some c0)) ∈ rs.map (fun a => (a, encC cA (some c0))) := List.mem_map.mpr ⟨b, hb, rfl⟩
    exact (dis_app hD h1 h2).symm
  have e3 : ∀ a ∈ dom, a ≠ q := by
    intro a ha
    have hD2 : va_D A (cwK cA h dom ++ ([(q, encC cA (some c1))] ++ rs.map (fun a => (a, encC cA (some c0))))) := by rw [← List.append_assoc]; exact hD
    have h1 : (a, encC cA (h a)) ∈ cwK cA h dom := by unfold cwK; exact List.mem_map.mpr ⟨a, ha, rfl⟩
    exact dis_app hD2 h1 (List.mem_append_left _ List.mem_cons_self)
  have nn : ∀ a, a ∉ dom → h a = none := by
    intro a ha
    cases e : h a with
    | none => rfl
    | some c => exact absurd ((hd a).mp (by rw [e]; exact fun z => by cases z)) ha
  have hw : (cwK cA h dom ++ [(q, encC cA (some c1))]) ++ rs.map (fun a => (a, encC cA (some c0))) = cwK cA (hup (hgr h rs c0) q c1) ((dom ++ [q]) ++ rs) := by
    unfold cwK
    rw [List.map_append, List.map_append]
    congr 1
    · congr 1
      · apply List.map_congr_left
        intro a ha
        rw [hup_ne (e3 a ha)]
        unfold hgr
        rw [if_neg (fun z => e1 a ha a z rfl)]
      · simp [hup_self]
    · apply List.map_congr_left
      intro a ha
      rw [hup_ne (e2 a ha)]
      unfold hgr
      rw [if_pos ha]
  refine ⟨nn q (fun z => e3 q z rfl), fun a ha => ⟨nn a (fun z => e1 a z a ha rfl), e2 a ha⟩, (dom ++ [q]) ++ rs, fun x => ?_, hw ▸ hP, hw ▸ hD⟩
  by_cases ex : x = q
  · subst ex
    rw [hup_self]
    simp
  · rw [hup_ne ex]
    unfold hgr
    by_cases er : x ∈ rs
    · rw [if_pos er]
      simp [er]
    · rw [if_neg er, hd x]
      simp [er, ex]
section SNG
variable {p : Program} {l : Launch} {e : Env} {R : Room} {s : State} {m : MethodId} {args : Array Value} {below : List Frame} {meth : Method} {c : Code} {Z : State → Prop} {D : va_G} {cA : Nat → ClassId} {A : Nat → Prop}
variable {cc : ByteArray} {own : Nat} {isI : Bool} {tr : Nat} {nL : Nat} {sp : List Nat}
variable {call : Nat → List Value → ac_H → ac_P → Prop} {cs : Nat → Nat × Nat} {ga : Nat → Nat} {L : Nat} {xs : Nat → Int32} {sl : Nat → List Int32} {mb : Nat × Nat} {hands : List (Nat × Int)} {rt : Option FieldType} {Q : ac_P} {J : Nat → ac_X}
variable {is : ac_I} {ls : ac_L} {st : List Value} {h : ac_H} {bg : Nat × Nat} {pc n : Nat}

theorem s_swap (hx : p.tables.exec = Jvm.exec) (hb : c.code = cc) (hts : ∀ w ∈ WG, w.before args s = true) (hown : s.vm.findClass (oR own) = some m.cls) (hK : va_K D vwCl (tysK cA) s) (hOA : va_AOA .int s) (hRC : mb.1 ≤ R.cells ∧ mb.2 ≤ R.slots) (hA : ∀ q, s.heap.size ≤ q → A q) (ih : ∀ (pc : Nat) (ls : ac_L) (st : List Value) (h : ac_H) (bg : Nat × Nat), rowOK own isI tr nL sp cc pc is = true → xB call cs ga L xs sl mb hands rt Q J is ls st h bg → xR p l e R s m args below meth c Z D cA A nL mb pc ls st h bg) (hrow : rowOK own isI tr nL sp cc pc ((.swap, n) :: is) = true) (hxb : xB call cs ga L xs sl mb hands rt Q J ((.swap, n) :: is) ls st h bg) : xR p l e R s m args below meth c Z D cA A nL mb pc ls st h bg := by
  obtain ⟨ci, hd, hr, hw⟩ := row_step (ai := .swap) hrow
  simp only [xB] at hxb
  split at hxb
  · rename_i k0 n0 s1
    obtain ⟨hn0, hk0, hn1, hk1, hbb, hxb⟩ := hxb
    intro hbg H locs la hR hS hl
    simp only [rel] at hr
    split at hr
    · rw [Bool.and_eq_true, beq_iff_eq] at hr
      obtain ⟨rfl, hr⟩ := hr
      obtain ⟨q, hq, h1⟩ := List.any_eq_true.mp hr
      simp only [Bool.and_eq_true, beq_iff_eq] at h1
      obtain ⟨rfl, rfl⟩ := h1
      have hf := mna_ok _ hq
      obtain ⟨dom, hd1, hP, hD⟩ := id hR
      have hcy : s.vm.findClass (FieldType.array .int).toString = some (cA 0) := (hK.2 0 _ (tysK_at cA (by decide))).2
      have hP0 : va_P D vwCl (cwK cA h dom ++ va_pl [] (fun _ => .inr (0, []))) H := by show va_P D vwCl (cwK cA h dom ++ []) H; rw [List.append_nil]; exact hP
      have hD0 : va_D A (cwK cA h dom ++ va_pl [] (fun _ => .inr (0, []))) := by show va_D A (cwK cA h dom ++ []); rw [List.append_nil]; exact hD
      refine va_mna (ty := .int) (z := (k0.toNatClampNeg, .inl (fun _ => 0))) hx hb hown (wg hts hf rfl) hOA (hts _ arC_int) hcy hK hP0 hD0 hS hA hn0 hk0 rfl rfl (by omega) (by show k0.toNatClampNeg * 4 ≤ 536870912; omega) (by omega) rfl rfl (Nat.le_trans hbb.1 hRC.1) (Nat.le_trans hbb.2 hRC.2) (fun c => by show ({ cls := c, slots := Array.replicate _ _, vm := .none } : Cell) = _; rw [vp_cell_i, arrV_new]; rfl) hd (fun q9 r9 c9 H1 hinj hnL hK1 hP1 hD1 hS1 => ?_)
      have e9 := K_last (t := 4) (by decide) hK hK1
      subst e9
      have ew : va_pl ([] ++ (List.range n0.toNatClampNeg).map r9) (vr_up (fun _ => .inr (0, [])) ((List.range n0.toNatClampNeg).map r9) (.inl (cA 0, k0.toNatClampNeg, .inl (fun _ => 0)))) = ((List.range n0.toNatClampNeg).map r9).map (fun a => (a, encC cA (some (.inl (0, k0.toNatClampNeg, .inl (fun _ => 0)))))) := by
        unfold va_pl
        rw [List.nil_append]
        apply List.map_congr_left
        intro a ha
        rw [vr_up_in ha]
        rfl
      rw [ew] at hP1 hD1
      obtain ⟨g1, g2, g3⟩ := xRel.grid (c1 := .inl (4, n0.toNatClampNeg, .inr (.inr (.inr (.inr (fun i => if i < n0.toNatClampNeg then some (r9 i) else none)))))) (c0 := .inl (0, k0.toNatClampNeg, .inl (fun _ => 0))) (cA := cA) hd1 hP1 hD1
      have hgo := ih _ _ _ _ _ hw (hxb q9 r9 g1 (fun i hi => g2 _ (List.mem_map.mpr ⟨i, List.mem_range.mpr hi, rfl⟩)) hinj) hbb H1 locs la g3 hS1 hl
      have c1 : bg.1 + 1 + n0.toNatClampNeg = (bgad bg (1 + n0.toNatClampNeg, n0.toNatClampNeg + n0.toNatClampNeg * k0.toNatClampNeg)).1 := by show _ = bg.1 + (1 + n0.toNatClampNeg); omega
      have c2 : bg.2 + n0.toNatClampNeg + n0.toNatClampNeg * k0.toNatClampNeg = (bgad bg (1 + n0.toNatClampNeg, n0.toNatClampNeg + n0.toNatClampNeg * k0.toNatClampNeg)).2 := by show _ = bg.2 + (n0.toNatClampNeg + n0.toNatClampNeg * k0.toNatClampNeg); omega
      rw [c1, c2]
      exact hgo
    · cases hr
  · exact hxb.elim
end SNG
