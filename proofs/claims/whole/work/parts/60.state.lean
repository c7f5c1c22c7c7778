/-! ===== the state, on both sides ===== -/
abbrev ImT : Type := (Nat → Bool) × (Nat → VT)
abbrev TpT : Type := (Nat → Nat) × Nat
abbrev StT : Type := VT × TT × ImT × TpT × (Int32 × Int32)
/-- a byte as the class holds it -/
def sx (a : Nat) : Int32 := if a < 128 then kI (a : Int) else kI ((a : Int) - 256)
def IcR (w : Wst) (I : ImT) : Prop := ∀ j, j < 3 → wa w 72 j = bI (I.1 j) ∧ (I.1 j = true → CR w (25 + 5 * j) (I.2 j))
def ImR (w : Wst) (I : ImT) : Prop := ∀ j, j < 3 → wa w 84 j = bI (I.1 j) ∧ (I.1 j = true → ∀ k, k < 114 → wa w 83 (114 * j + k) = I.2 j k)
def PcR (w : Wst) (p : TpT) : Prop := wn w 42 1 = kI (p.2 : Int) ∧ ∀ k, k < p.2 → wa w 43 k = sx (p.1 k)
def PmR (w : Wst) (p : TpT) : Prop := wn w 80 6 = kI (p.2 : Int) ∧ ∀ k, k < p.2 → wa w 85 k = kI (p.1 k : Int)
def FcR (w : Wst) (f : Int32 × Int32) : Prop := wn w 42 2 = f.1 ∧ wn w 42 3 = f.2
def FmR (w : Wst) (f : Int32 × Int32) : Prop := wn w 80 14 = f.1 ∧ wn w 80 15 = f.2
def clb (w : Wst) (i : Nat) : Prop := (i = 10 ∨ i = 15) ∧ wr w 0 0 = i ∧ wr w 0 1 = 25 - i
def RCl (w : Wst) (S : StT) : Prop := (∃ i, clb w i ∧ CR w i S.1) ∧ TcR w S.2.1 ∧ IcR w S.2.2.1 ∧ PcR w S.2.2.2.1 ∧ FcR w S.2.2.2.2
def RMo (w : Wst) (S : StT) : Prop := wa w 81 = S.1 ∧ TmR w S.2.1 ∧ ImR w S.2.2.1 ∧ PmR w S.2.2.2.1 ∧ FmR w S.2.2.2.2
def SOK (S : StT) : Prop := VOK S.1 ∧ TOK S.2.1 ∧ (∀ j, j < 3 → S.2.2.1.1 j = true → VOK (S.2.2.1.2 j)) ∧ S.2.2.2.1.2 ≤ 700 ∧ ∀ k, S.2.2.2.1.1 k < 256
def same (w w' : Wst) (i : Nat) : Prop := wn w' i = wn w i ∧ wr w' i = wr w i ∧ wa w' i = wa w i ∧ wl w' i = wl w i
def kcl (w w' : Wst) : Prop := ∀ i, 80 ≤ i → same w w' i
def kml (w w' : Wst) : Prop := ∀ i, i < 80 ∨ i = 96 → same w w' i
theorem same.trans {w w' w'' : Wst} {i : Nat} (a : same w w' i) (b : same w' w'' i) : same w w'' i := ⟨b.1.trans a.1, b.2.1.trans a.2.1, b.2.2.1.trans a.2.2.1, b.2.2.2.trans a.2.2.2⟩
theorem kcl.trans {w w' w'' : Wst} (a : kcl w w') (b : kcl w' w'') : kcl w w'' := fun i hi => (a i hi).trans (b i hi)
theorem kml.trans {w w' w'' : Wst} (a : kml w w') (b : kml w' w'') : kml w w'' := fun i hi => (a i hi).trans (b i hi)
theorem kcl_of {l : List Nat} {w w' : Wst} (h : kp l w w') (hl : ∀ a ∈ l, a < 80) : kcl w w' := fun i hi => h i (fun z => by have := hl i z; omega)
theorem kml_of {l : List Nat} {w w' : Wst} (h : kp l w w') (hl : ∀ a ∈ l, 80 ≤ a ∧ a ≠ 96) : kml w w' := fun i hi => h i (fun z => by have := hl i z; omega)
theorem SC80 : ∀ a ∈ SC, a < 80 := by decide
theorem SM80 : ∀ a ∈ SM, 80 ≤ a ∧ a ≠ 96 := by decide
theorem CR.sm {w w' : Wst} {i : Nat} {V : VT} (h : CR w i V) (hs : ∀ j, j < 5 → same w w' (i + j)) : CR w' i V := by
  obtain ⟨a1, a2, a3, a4, a5, a6, a7⟩ := h
  have e0 := hs 0 (by omega)
  have e1 := hs 1 (by omega)
  have e2 := hs 2 (by omega)
  have e3 := hs 3 (by omega)
  have e4 := hs 4 (by omega)
  rw [Nat.add_zero] at e0
  unfold CR
  rw [e0.1, e1.2.2.1, e2.2.2.1, e3.2.2.1, e4.2.2.1]
  exact ⟨a1, a2, a3, a4, a5, a6, a7⟩
theorem RCl.keep {w w' : Wst} {S : StT} (h : RCl w S) (hs : ∀ i, i = 0 ∨ (10 ≤ i ∧ i < 20) ∨ (25 ≤ i ∧ i < 40) ∨ i = 42 ∨ i = 43 ∨ (62 ≤ i ∧ i < 73) → same w w' i) : RCl w' S := by
  obtain ⟨⟨i, ⟨hi, h0, h1⟩, hR⟩, hT, hI, hP, hF⟩ := h
  refine ⟨⟨i, ⟨hi, ?_, ?_⟩, hR.sm (fun j hj => hs _ (by omega))⟩, fun t ht => ?_, fun j hj => ?_, ⟨?_, fun k hk => ?_⟩, ?_, ?_⟩
  · rw [(hs 0 (by omega)).2.1]; exact h0
  · rw [(hs 0 (by omega)).2.1]; exact h1
  · rw [(hs (63 + 2 * t) (by omega)).1, (hs (63 + 2 * t + 1) (by omega)).2.2.2]
    exact hT t ht
  · rw [(hs 72 (by omega)).2.2.1]
    exact ⟨(hI j hj).1, fun hm => ((hI j hj).2 hm).sm (fun a ha => hs _ (by omega))⟩
  · rw [(hs 42 (by omega)).1]; exact hP.1
  · rw [(hs 43 (by omega)).2.2.1]; exact hP.2 k hk
  · rw [(hs 42 (by omega)).1]; exact hF.1
  · rw [(hs 42 (by omega)).1]; exact hF.2
theorem RCl.km {w w' : Wst} {S : StT} (h : RCl w S) (k : kml w w') : RCl w' S := h.keep (fun i hi => k i (by omega))
theorem RCl.sc {w w' : Wst} {S : StT} (h : RCl w S) (k : kp SC w w') : RCl w' S := h.keep (fun i hi => k i (fun z => by
  unfold SC at z
  simp at z
  omega))
theorem RMo.keep {w w' : Wst} {S : StT} (h : RMo w S) (h6 : wn w' 80 6 = wn w 80 6) (h14 : wn w' 80 14 = wn w 80 14) (h15 : wn w' 80 15 = wn w 80 15) (hs : ∀ i, i = 81 ∨ i = 83 ∨ i = 84 ∨ i = 85 ∨ i = 93 ∨ i = 94 ∨ i = 95 → same w w' i) : RMo w' S := by
  obtain ⟨hK, hT, hI, hP, hF⟩ := h
  refine ⟨?_, ⟨fun t ht => ?_, fun k hk => ?_⟩, fun j hj => ?_, ⟨?_, fun k hk => ?_⟩, ?_, ?_⟩
  · rw [(hs 81 (by omega)).2.2.1]; exact hK
  · rw [(hs 93 (by omega)).2.2.1, (hs 94 (by omega)).2.2.1]; exact hT.1 t ht
  · rw [(hs 95 (by omega)).2.2.2]; exact hT.2 k hk
  · rw [(hs 84 (by omega)).2.2.1, (hs 83 (by omega)).2.2.1]; exact hI j hj
  · rw [h6]; exact hP.1
  · rw [(hs 85 (by omega)).2.2.1]; exact hP.2 k hk
  · rw [h14]; exact hF.1
  · rw [h15]; exact hF.2
theorem RMo.kc {w w' : Wst} {S : StT} (h : RMo w S) (k : kcl w w') : RMo w' S := h.keep (by rw [(k 80 (by omega)).1]) (by rw [(k 80 (by omega)).1]) (by rw [(k 80 (by omega)).1]) (fun i hi => k i (by omega))
theorem RMo.sm {w w' : Wst} {S : StT} (h : RMo w S) (k : kp SM w w') (f : kf FM w w') : RMo w' S := h.keep (f 6 (by decide)) (f 14 (by decide)) (f 15 (by decide)) (fun i hi => k i (fun z => by
  unfold SM at z
  simp at z
  omega))
def KCm (ad : Nat → Nat) (P : ac_P) (w : Wst) (es : List Nat) (T : Nat) (R : Option Value) (S S' : StT) : Prop := (T = 0 → ∀ (h' : ac_H) (w' : Wst), WW ad w' h' → kcl w w' → RCl w' S' → P (.inl R) h') ∧ ∀ j, T = j + 1 → ∀ (h' : ac_H) (w' : Wst), WW ad w' h' → kcl w w' → RCl w' S → P (.inr (es.getD j 0)) h'
def KQm (ad : Nat → Nat) (P : ac_P) (w : Wst) (T : Nat) (R : Option Value) (S S' : StT) : Prop := ∀ (h' : ac_H) (w' : Wst) (v : Option Value), WW ad w' h' → kml w w' → (T = 0 → RMo w' S') → (¬ T = 0 → RMo w' S) → wn w' 80 4 = kI (T : Int) → (T = 0 → v = R) → P (.inl v) h'
theorem KCm.query {ad : Nat → Nat} {P : ac_P} {w : Wst} {es : List Nat} {T : Nat} {R : Value} {S : StT} (hS : RCl w S) (kk : KCm ad P w es T (some R) S S) : KC ad P w es T R := ⟨fun hT h' w' W' k => kk.1 hT h' w' W' (kcl_of k SC80) (hS.sc k), fun j hT h' w' W' k => kk.2 j hT h' w' W' (kcl_of k SC80) (hS.sc k)⟩
theorem KQm.query {ad : Nat → Nat} {P : ac_P} {w : Wst} {T : Nat} {R : Value} {S : StT} (hS : RMo w S) (kk : KQm ad P w T (some R) S S) : KQ ad P w T R := fun h' w' v W' k f h4 hv => kk h' w' (some v) W' (kml_of k SM80) (fun _ => hS.sm k f) (fun _ => hS.sm k f) h4 (fun hT => by rw [hv hT])
theorem KCm.no {ad : Nat → Nat} {P : ac_P} {w w' : Wst} {h' : ac_H} {es : List Nat} {T : Nat} {R : Option Value} {S S' : StT} (kk : KCm ad P w es T R S S') (j : Nat) (hT : T = j + 1) (W' : WW ad w' h') (k1 : kcl w w') (hS : RCl w' S) : P (.inr (es.getD j 0)) h' := kk.2 j hT h' w' W' k1 hS
theorem KCm.yes {ad : Nat → Nat} {P : ac_P} {w w' : Wst} {h' : ac_H} {es : List Nat} {T : Nat} {R : Option Value} {S S' : StT} (kk : KCm ad P w es T R S S') (hT : T = 0) (W' : WW ad w' h') (k1 : kcl w w') (hS : RCl w' S') : P (.inl R) h' := kk.1 hT h' w' W' k1 hS
theorem kcl_refl {w : Wst} : kcl w w := fun _ _ => ⟨rfl, rfl, rfl, rfl⟩
theorem kml_refl {w : Wst} : kml w w := fun _ _ => ⟨rfl, rfl, rfl, rfl⟩
theorem KQm.yes {ad : Nat → Nat} {P : ac_P} {w w' : Wst} {h' : ac_H} {T : Nat} {R v : Option Value} {S S' : StT} (kk : KQm ad P w T R S S') (hT : T = 0) (W' : WW ad w' h') (k1 : kml w w') (hS : RMo w' S') (h4 : wn w' 80 4 = kI 0) (hv : v = R) : P (.inl v) h' := kk h' w' v W' k1 (fun _ => hS) (fun h => absurd hT h) (by rw [h4, hT]; rfl) (fun _ => hv)
theorem KQm.no {ad : Nat → Nat} {P : ac_P} {w w' : Wst} {h' : ac_H} {T t : Nat} {R v : Option Value} {S S' : StT} (kk : KQm ad P w T R S S') (hT : T = t + 1) (W' : WW ad w' h') (k1 : kml w w') (hS : RMo w' S) (h4 : wn w' 80 4 = kI ((t + 1 : Nat) : Int)) : P (.inl v) h' := kk h' w' v W' k1 (fun h => by omega) (fun _ => hS) (by rw [h4, hT]) (fun h => by omega)
theorem RMo.th {w : Wst} {S : StT} {x : Int32} (h : RMo w S) : RMo (sn w 80 4 x) S := h.sm kpM4 kfM4
theorem kml4 {w : Wst} {x : Int32} : kml w (sn w 80 4 x) := kml_of (l := [80]) (kp_sn (by simp)) (by simp)
theorem clb.isC {w : Wst} {i : Nat} (h : clb w i) : isC i := h.1.elim (fun e => Or.inl e) (fun e => Or.inr (Or.inl e))
theorem clb.n20 {w : Wst} {i : Nat} (h : clb w i) : i ≠ 20 := by
  have := h.1
  omega

