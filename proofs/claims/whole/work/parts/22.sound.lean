/-! ===== the abstract program's contracts are the machine's ===== -/
theorem GBt.calling {D : va_G} {cA : Nat → ClassId} {A : Nat → Prop} {ga adV : Nat → Nat} {L : Nat} {xs : Nat → Int32} {a : Array Value} {U : State} {g : JFrame} {mk : MethodId} (h : GBt D cA A ga adV L xs U) : GBt D cA A ga adV L xs (U.calling g mk a) :=
  h.moved (U := U.calling g mk a) (State.WarmedH.refl U) (Nat.le_refl _) (fun _ _ _ => rfl)
theorem ckAll {m : ac_M} (hm : m ∈ methods) : codeOK m = true := by
  unfold methods at hm
  rcases List.mem_append.mp hm with hm | hm
  · exact ck0 m hm
  rcases List.mem_append.mp hm with hm | hm
  · exact ck1 m hm
  rcases List.mem_append.mp hm with hm | hm
  · exact ck2 m hm
  rcases List.mem_append.mp hm with hm | hm
  · exact ck3 m hm
  rcases List.mem_append.mp hm with hm | hm
  · exact ck4 m hm
  rcases List.mem_append.mp hm with hm | hm
  · exact ck5 m hm
  rcases List.mem_append.mp hm with hm | hm
  · exact ck6 m hm
  rcases List.mem_append.mp hm with hm | hm
  · exact ck7 m hm
  rcases List.mem_append.mp hm with hm | hm
  · exact ck8 m hm
  rcases List.mem_append.mp hm with hm | hm
  · exact ck9 m hm
  exact ck10 m hm
theorem row_of {m : ac_M} (h : codeOK m = true) {b pb : Nat} {is : ac_I} (hb : (mS m)[b]? = some (pb, is)) : rowOK (mO m) (decide ((mY m).name = "<init>")) (trE m) (mL m) (starts m) (mC m) pb is = true := List.all_eq_true.mp h _ (List.mem_of_getElem? hb)
theorem starts_at {m : ac_M} {b pb : Nat} {is : ac_I} (hb : (mS m)[b]? = some (pb, is)) : (starts m)[b]? = some pb := by
  unfold starts
  rw [List.getElem?_map, hb]
  rfl
set_option maxHeartbeats 4000000 in
theorem sound {l : Launch} (hlt : l.stackTraces = false) {D : va_G} {cA : Nat → ClassId} {A : Nat → Prop} {ga adV : Nat → Nat} {L : Nat} {xs : Nat → Int32} : ∀ (d k : Nat) (md : ac_M) (as : List Value) (h : ac_H) (P : ac_P), methods[k]? = some md → WP ga L xs d k as h P → xMet l D cA A (GBt D cA A ga adV L xs) (8 + d) (200 + 64 * d) md as h P
  | 0, k, md, as, h, P, _, hw => False.elim hw
  | d + 1, k, md, as, h, P, hm, hw => by
    obtain ⟨md2, hm2, hlen, hw⟩ := hw
    cases Option.some.inj (hm.symm.trans hm2)
    have hmem := List.mem_of_getElem? hm
    have hf := mFacts_of hmem
    obtain ⟨ho1, ho2, ho3⟩ := m_own md hmem
    refine of_both hf ?_
    intro p e s m args below meth c s₁ B hml htab hPc
    obtain ⟨rfl, hG, hR⟩ := hPc
    have hts : ∀ w ∈ WG, w.before as.toArray s = true := fun w h9 => atoms_spec (ws := wsK md) B.pre w (List.mem_cons_of_mem _ h9)
    have hown : s.vm.findClass (oR (mO md)) = some m.cls := by rw [ho1]; exact findClass_of_methodNamed B.named
    have hall := xB_all (p := p) (l := l) (e := e) (R := rmK (8 + (d + 1)) (200 + 64 * (d + 1)) md) (s := s) (m := m) (args := as.toArray) (below := below) (meth := meth) (c := c) (Z := vx_MQ below (QcP D cA A P) (XcP D cA A P) as.toArray s (mB md).1 (mB md).2 A) (D := D) (cA := cA) (A := A) (cc := mC md) (own := mO md) (isI := decide ((mY md).name = "<init>")) (tr := trE md) (nL := mL md) (sp := starts md) (call := WP ga L xs d) (ga := ga) (L := L) (xs := xs) (mb := mB md) (hands := mH md) (rt := mR md) (Q := P) (adV := adV)
      (J := fun b ls st h bg => ∃ t, (starts md)[b]? = some t ∧ xR p l e (rmK (8 + (d + 1)) (200 + 64 * (d + 1)) md) s m as.toArray below meth c (vx_MQ below (QcP D cA A P) (XcP D cA A P) as.toArray s (mB md).1 (mB md).2 A) D cA A (mL md) (mB md) t ls st h bg)
      B.exec B.bytes hts hown hG.1 hG.2.1.1 hG.2.1.2.1 hG.2.1.2.2 hG.2.2.1.1 hG.2.2.1.2 hG.2.2.2.1 hG.2.2.2.2.1 hG.2.2.2.2.2.1 hG.2.2.2.2.2.2.1 hG.2.2.2.2.2.2.2.1.1 hG.2.2.2.2.2.2.2.1.2.1 hG.2.2.2.2.2.2.2.1.2.2 hG.2.2.2.2.2.2.2.2.1
      (fun hi => (name_of_methodNamed B.named B.method).1.trans (of_decide_eq_true hi)) (by show 200 ≤ 200 + 64 * (d + 1); omega) (by show 8 ≤ 8 + (d + 1); omega)
      (GB := GBt D cA A ga adV L xs) (F := 8 + d) (Lc := 200 + 64 * d)
      (fun H locs U hS hU hW => hG.moved hW (by rw [hU]; exact hS.1) (fun a h1 h2 => by rw [hU]; exact hS.2.1 a h1 h2)) (fun a U g mk hU => hU.calling)
      ⟨by show 8 + d + 1 ≤ 8 + (d + 1); omega, fun md9 hm9 => by have := (m_own md9 hm9).2.1; show 8 + (mL md9 + 11) + (200 + 64 * d) ≤ 200 + 64 * (d + 1); omega⟩ ⟨Nat.le_refl _, Nat.le_refl _⟩ hml hG.2.2.2.2.2.2.2.2.2.1
      (fun k9 md9 as9 h9 P9 e9 w9 => sound hlt d k9 md9 as9 h9 P9 e9 w9)
      (fun k pc h bg H locs la rest q ce hk htr hP hR hS hbb hla hce hcv hcl => thr_all hm B.exec B.bytes B.returns hts hown hG B.notSynchronized htab hf.2.2.2.2.2.2.2.2.2.2 k pc h bg H locs la rest q ce hk htr hP hR hS hbb hla hce hcv hcl)
      (fun k ik ic i pc h bg H locs la st hq d0 d3 d4 d7 htr hbb hst hk hP hR hS hla => th_all (tr := trE md) B.exec B.bytes hlt hts hown hG B.notSynchronized hml (fun e9 x hx9 => by
        rw [htab] at hx9
        by_cases hT : mT md = []
        · rw [hT] at hx9; cases hx9
        · have := (hnd_at hm hT).2.1
          omega) (by show 8 ≤ 8 + (d + 1); omega) (by show 200 ≤ 200 + 64 * (d + 1); omega) ⟨Nat.le_refl _, Nat.le_refl _⟩ k ik ic i pc h bg H locs la st hq d0 d3 d4 d7 htr hbb hst hk hP hR hS hla)
      (fun pc h bg H locs la v ri hd hv hP hR hS hbb => ret_all B.exec B.bytes B.returns B.notSynchronized pc h bg H locs la v ri hd hv hP hR hS hbb)
      (fun b t hb ls st h bg hJ => by
        obtain ⟨t9, e9, hX⟩ := hJ
        cases Option.some.inj (hb.symm.trans e9)
        exact hX)
    obtain ⟨t, ht, hX⟩ := hw (fun b ls st h bg => ∃ t, (starts md)[b]? = some t ∧ xR p l e (rmK (8 + (d + 1)) (200 + 64 * (d + 1)) md) s m as.toArray below meth c (vx_MQ below (QcP D cA A P) (XcP D cA A P) as.toArray s (mB md).1 (mB md).2 A) D cA A (mL md) (mB md) t ls st h bg) (fun b pb is hb ls st h bg hxb => ⟨pb, starts_at hb, hall is pb ls st h bg (row_of (ckAll hmem) hb) hxb⟩)
    cases Option.some.inj (ht.symm.trans ho3)
    have hl := lv_entry as (n := mL md) (by rw [lg_len]; exact hlen)
    rw [lg_entry_eq]
    exact hX ⟨Nat.zero_le _, Nat.zero_le _⟩ s.heap [] _ hR va_S.rf (lv_ent hl)
