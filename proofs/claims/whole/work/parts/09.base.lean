/-! ===== the abstract heap and the machine's; the abstract locals and the frame's ===== -/
def tysK (cA : Nat → ClassId) : List (ClassId × FieldType) := (List.range 7).map (fun t => (cA t, aty t))
theorem tysK_at (cA : Nat → ClassId) {t : Nat} (h : t < 7) : (tysK cA)[t]? = some (cA t, aty t) := by
  unfold tysK
  rw [List.getElem?_map, List.getElem?_range h]
  rfl
def encC (cA : Nat → ClassId) : Option ac_C → va_E
  | some (.inl (t, x)) => .inl (cA t, x)
  | some (.inr o) => .inr o
  | none => .inr (0, [])
def cwK (cA : Nat → ClassId) (h : ac_H) (dom : List Nat) : va_W := dom.map (fun a => (a, encC cA (h a)))
def xRel (D : va_G) (cA : Nat → ClassId) (A : Nat → Prop) (h : ac_H) (H : Heap) : Prop := ∃ dom : List Nat, (∀ a, h a ≠ none ↔ a ∈ dom) ∧ va_P D vwCl (cwK cA h dom) H ∧ va_D A (cwK cA h dom)
theorem cwK_at {cA : Nat → ClassId} {h : ac_H} {dom : List Nat} {i a : Nat} (hi : dom[i]? = some a) : (cwK cA h dom)[i]? = some (a, encC cA (h a)) := by
  unfold cwK
  rw [List.getElem?_map, hi]
  rfl
theorem cwK_of {cA : Nat → ClassId} {h : ac_H} {dom : List Nat} {i : Nat} {x : Nat × va_E} (hi : (cwK cA h dom)[i]? = some x) : dom[i]? = some x.1 ∧ x.2 = encC cA (h x.1) := by
  unfold cwK at hi
  rw [List.getElem?_map] at hi
  cases hd : dom[i]? with
  | none => rw [hd] at hi; cases hi
  | some a =>
    rw [hd] at hi
    cases hi
    exact ⟨rfl, rfl⟩
theorem cwK_dist {cA : Nat → ClassId} {A : Nat → Prop} {h : ac_H} {dom : List Nat} (hD : va_D A (cwK cA h dom)) {i j a : Nat} (hi : dom[i]? = some a) (hj : dom[j]? = some a) : i = j :=
  hD.1 i j _ _ (cwK_at hi) (cwK_at hj) rfl
theorem hup_self (h : ac_H) (a : Nat) (c : ac_C) : hup h a c a = some c := if_pos rfl
theorem hup_ne {h : ac_H} {a x : Nat} {c : ac_C} (n : x ≠ a) : hup h a c x = h x := if_neg n
theorem cwK_set {cA : Nat → ClassId} {A : Nat → Prop} {h : ac_H} {dom : List Nat} (hD : va_D A (cwK cA h dom)) {i a : Nat} (hi : dom[i]? = some a) (c : ac_C) : (cwK cA h dom).set i (a, encC cA (some c)) = cwK cA (hup h a c) dom := by
  have hl : i < dom.length := (List.getElem?_eq_some_iff.mp hi).1
  apply List.ext_getElem?
  intro j
  by_cases hj : j = i
  · subst hj
    rw [List.getElem?_set_self (by unfold cwK; rw [List.length_map]; exact hl), cwK_at hi, hup_self]
  · rw [List.getElem?_set_ne (Ne.symm hj)]
    unfold cwK
    rw [List.getElem?_map, List.getElem?_map]
    cases hd : dom[j]? with
    | none => rfl
    | some b =>
      have hb : b ≠ a := fun e => hj (cwK_dist hD (e ▸ hd) hi)
      show some (b, encC cA (h b)) = some (b, encC cA (hup h a c b))
      rw [hup_ne hb]
theorem xRel.at {D : va_G} {cA : Nat → ClassId} {A : Nat → Prop} {h : ac_H} {H : Heap} {a : Nat} {c : ac_C} {dom : List Nat} (hd : ∀ a, h a ≠ none ↔ a ∈ dom) (ha : h a = some c) : ∃ i : Nat, dom[i]? = some a := by
  have h1 : a ∈ dom := (hd a).mp (by rw [ha]; exact fun e => by cases e)
  exact List.getElem?_of_mem h1
theorem xRel.put {D : va_G} {cA : Nat → ClassId} {A : Nat → Prop} {h : ac_H} {H1 : Heap} {a : Nat} {c c0 : ac_C} {dom : List Nat} (hd : ∀ a, h a ≠ none ↔ a ∈ dom) (ha : h a = some c0) (hP : va_P D vwCl (cwK cA (hup h a c) dom) H1) (hD : va_D A (cwK cA (hup h a c) dom)) : xRel D cA A (hup h a c) H1 := by
  refine ⟨dom, fun x => ?_, hP, hD⟩
  by_cases e : x = a
  · subst e
    rw [hup_self]
    exact ⟨fun _ => (hd x).mp (by rw [ha]; exact fun e => by cases e), fun _ e => by cases e⟩
  · rw [hup_ne e]
    exact hd x
theorem xRel.push {D : va_G} {cA : Nat → ClassId} {A : Nat → Prop} {h : ac_H} {H1 : Heap} {q : Nat} {c : ac_C} {e : va_E} {dom : List Nat} (hd : ∀ a, h a ≠ none ↔ a ∈ dom) (he : e = encC cA (some c)) (hP : va_P D vwCl (cwK cA h dom ++ [(q, e)]) H1) (hD : va_D A (cwK cA h dom ++ [(q, e)])) : h q = none ∧ xRel D cA A (hup h q c) H1 := by
  subst he
  have hlen : (cwK cA h dom).length = dom.length := by unfold cwK; rw [List.length_map]
  have hq : q ∉ dom := by
    intro hm
    obtain ⟨i, hi⟩ := List.getElem?_of_mem hm
    have hil : i < dom.length := (List.getElem?_eq_some_iff.mp hi).1
    have h1 : (cwK cA h dom ++ [(q, encC cA (some c))])[i]? = some (q, encC cA (h q)) := by
      rw [List.getElem?_append_left (by omega)]
      exact cwK_at hi
    have h2 : (cwK cA h dom ++ [(q, encC cA (some c))])[dom.length]? = some (q, encC cA (some c)) := by
      rw [← hlen, List.getElem?_append_right (Nat.le_refl _), Nat.sub_self]
      rfl
    have := hD.1 i dom.length _ _ h1 h2 rfl
    omega
  have hn : h q = none := by
    cases e : h q with
    | none => rfl
    | some c0 => exact absurd ((hd q).mp (by rw [e]; exact fun e => by cases e)) hq
  have hw : cwK cA h dom ++ [(q, encC cA (some c))] = cwK cA (hup h q c) (dom ++ [q]) := by
    unfold cwK
    rw [List.map_append]
    congr 1
    · apply List.map_congr_left
      intro a ha
      rw [hup_ne (fun (e : a = q) => hq (e ▸ ha))]
    · simp [hup_self]
  refine ⟨hn, dom ++ [q], fun x => ?_, hw ▸ hP, hw ▸ hD⟩
  by_cases e : x = q
  · subst e
    rw [hup_self]
    simp
  · rw [hup_ne e, hd x]
    simp [e]
/-- locals -/
def lvf : Nat → ac_L → List (Nat × Value)
  | _, [] => []
  | i, some v :: l => (i, v) :: lvf (i + 1) l
  | i, none :: l => lvf (i + 1) l
theorem lvf_mem : ∀ (l : ac_L) (i j : Nat) (v : Value), (j, v) ∈ lvf i l ↔ ∃ k, j = i + k ∧ gI l k = some v
  | [], i, j, v => by simp [lvf, gI]
  | some w :: l, i, j, v => by
    rw [lvf, List.mem_cons, lvf_mem l (i + 1) j v]
    constructor
    · rintro (h | ⟨k, h1, h2⟩)
      · cases h
        exact ⟨0, rfl, rfl⟩
      · exact ⟨k + 1, by omega, h2⟩
    · rintro ⟨k, h1, h2⟩
      cases k with
      | zero =>
        left
        have : w = v := by simpa [gI] using h2
        rw [this, h1]
        rfl
      | succ k => exact Or.inr ⟨k, by omega, h2⟩
  | none :: l, i, j, v => by
    rw [lvf, lvf_mem l (i + 1) j v]
    constructor
    · rintro ⟨k, h1, h2⟩
      exact ⟨k + 1, by omega, h2⟩
    · rintro ⟨k, h1, h2⟩
      cases k with
      | zero => simp [gI] at h2
      | succ k => exact ⟨k, by omega, h2⟩
theorem lvf_mem0 {l : ac_L} {j : Nat} {v : Value} : (j, v) ∈ lvf 0 l ↔ gI l j = some v := by
  rw [lvf_mem]
  constructor
  · rintro ⟨k, h1, h2⟩
    rw [h1, Nat.zero_add]; exact h2
  · intro h
    exact ⟨j, by omega, h⟩
theorem gI_sI : ∀ (l : ac_L) (i j : Nat) (x : Option Value) (v : Value), gI (sI l i x) j = some v → (j = i ∧ x = some v) ∨ (j ≠ i ∧ gI l j = some v)
  | [], i, j, x, v, h => by simp [sI, gI] at h
  | w :: l, 0, 0, x, v, h => Or.inl ⟨rfl, h⟩
  | w :: l, 0, j + 1, x, v, h => Or.inr ⟨by omega, h⟩
  | w :: l, i + 1, 0, x, v, h => Or.inr ⟨by omega, h⟩
  | w :: l, i + 1, j + 1, x, v, h => by
    rcases gI_sI l i j x v h with ⟨h1, h2⟩ | ⟨h1, h2⟩
    · exact Or.inl ⟨by omega, h2⟩
    · exact Or.inr ⟨by omega, h2⟩
theorem low1_ne {ls : ac_L} {j i : Nat} {w : Value} (h : low1 ls i = true) (hj : j + 1 = i) (hg : gI ls j = some w) : ¬ w.category = 2 := by
  subst hj
  have h1 : (!(cat2 (gI ls j))) = true := h
  rw [hg] at h1
  cases w <;> simp [cat2, Value.category] at h1 ⊢
theorem lv_get {la : Array Slot} {nL : Nat} {ls : ac_L} {i : Nat} {v : Value} (h : lv_has la nL (lvf 0 ls)) (hg : gI ls i = some v) : la[i]? = some (.val v) := h.2.2 (i, v) (lvf_mem0.mpr hg)
theorem lv_put1 {la : Array Slot} {nL : Nat} {ls : ac_L} {i : Nat} {v : Value} (hlo : low1 ls i = true) (h : lv_has la nL ((i, v) :: (lvf 0 ls).filter (fun q => !(q.1 == i) && !(q.1 + 1 == i && q.2.category == 2)))) : lv_has la nL (lvf 0 (sI ls i (some v))) := by
  refine ⟨h.1, h.2.1, fun q hq => ?_⟩
  obtain ⟨j, w⟩ := q
  rcases gI_sI _ _ _ _ _ (lvf_mem0.mp hq) with ⟨h1, h2⟩ | ⟨h1, h2⟩
  · have e : v = w := Option.some.inj h2
    rw [h1, ← e]
    exact h.2.2 (i, v) List.mem_cons_self
  · refine h.2.2 (j, w) (List.mem_cons_of_mem _ (List.mem_filter.mpr ⟨lvf_mem0.mpr h2, ?_⟩))
    by_cases e : j + 1 = i
    · have := low1_ne hlo e h2
      simp [h1, this]
    · simp [h1, e]
theorem lv_put2 {la : Array Slot} {nL : Nat} {ls : ac_L} {i : Nat} {v : Value} (hlo : low1 ls i = true) (h : lv_has la nL ((i, v) :: (lvf 0 ls).filter (fun q => !(q.1 == i) && (!(q.1 == i + 1) && !(q.1 + 1 == i && q.2.category == 2))))) : lv_has la nL (lvf 0 (sI (sI ls i (some v)) (i + 1) none)) := by
  refine ⟨h.1, h.2.1, fun q hq => ?_⟩
  obtain ⟨j, w⟩ := q
  rcases gI_sI _ _ _ _ _ (lvf_mem0.mp hq) with ⟨h1, h2⟩ | ⟨h0, h1⟩
  · cases h2
  · rcases gI_sI _ _ _ _ _ h1 with ⟨h1, h2⟩ | ⟨h1, h2⟩
    · have e : v = w := Option.some.inj h2
      rw [h1, ← e]
      exact h.2.2 (i, v) List.mem_cons_self
    · refine h.2.2 (j, w) (List.mem_cons_of_mem _ (List.mem_filter.mpr ⟨lvf_mem0.mpr h2, ?_⟩))
      by_cases e : j + 1 = i
      · have := low1_ne hlo e h2
        simp [h1, h0, this]
      · simp [h1, h0, e]
/-- at a method's entry -/
def entA : List Value → ac_L
  | [] => []
  | v :: vs => if cat2 (some v) = true then some v :: none :: entA vs else some v :: entA vs
def entL (as : List Value) (n : Nat) : ac_L := entA as ++ List.replicate (n - (entA as).length) none
theorem cat2_iff (v : Value) : cat2 (some v) = true ↔ v.category = 2 := by cases v <;> simp [cat2, Value.category]
theorem entA_mem : ∀ (as : List Value) (i j : Nat) (v : Value), gI (entA as) j = some v → (i + j, v) ∈ lv_args i as
  | [], i, j, v, h => by simp [entA, gI] at h
  | w :: as, i, j, v, h => by
    rw [entA] at h
    rw [lv_args]
    by_cases hc : cat2 (some w) = true
    · rw [if_pos hc] at h
      rw [if_pos ((cat2_iff w).mp hc)]
      match j, h with
      | 0, h =>
        have : w = v := by simpa [gI] using h
        rw [this]
        exact List.mem_cons_self
      | 1, h => simp [gI] at h
      | j + 2, h =>
        have h1 := entA_mem as (i + 2) j v h
        rw [show i + (j + 2) = i + 2 + j by omega]
        exact List.mem_cons_of_mem _ h1
    · rw [if_neg hc] at h
      rw [if_neg (fun e => hc ((cat2_iff w).mpr e))]
      match j, h with
      | 0, h =>
        have : w = v := by simpa [gI] using h
        rw [this]
        exact List.mem_cons_self
      | j + 1, h =>
        have h1 := entA_mem as (i + 1) j v h
        rw [show i + (j + 1) = i + 1 + j by omega]
        exact List.mem_cons_of_mem _ h1
theorem gI_rep : ∀ (n j : Nat) (v : Value), ¬ gI (List.replicate n none) j = some v
  | 0, j, v, h => by simp [gI] at h
  | n + 1, 0, v, h => by simp [List.replicate, gI] at h
  | n + 1, j + 1, v, h => gI_rep n j v h
theorem gI_pad : ∀ (l : ac_L) (n j : Nat) (v : Value), gI (l ++ List.replicate n none) j = some v → gI l j = some v
  | [], n, j, v, h => absurd h (gI_rep n j v)
  | w :: l, n, 0, v, h => h
  | w :: l, n, j + 1, v, h => gI_pad l n j v h
theorem lv_ent {la : Array Slot} {n : Nat} {as : List Value} (h : lv_has la n (lv_args 0 as)) : lv_has la n (lvf 0 (entL as n)) := by
  refine ⟨h.1, h.2.1, fun q hq => ?_⟩
  obtain ⟨j, v⟩ := q
  have h1 := entA_mem as 0 j v (gI_pad _ _ _ _ (lvf_mem0.mp hq))
  rw [Nat.zero_add] at h1
  exact h.2.2 _ h1
