/-! ===== the start of the world ===== -/
def T0 : TT := (fun _ => kI (-1), fun _ => 0, fun _ => 0)
def S0 : StT := (V0, T0, (fun _ => false, fun _ _ => 0), (fun _ => 0, 0), (kI 0, kI (-1)))
theorem PW.mem {l : List (Nat × Nat)} {i : Nat} (h : i ∈ l.map (·.1)) : (i, adl l i) ∈ l := by
  induction l with
  | nil => cases h
  | cons e l ih =>
    obtain ⟨k, x⟩ := e
    by_cases g : i = k
    · subst g
      rw [adl_eq]
      exact List.mem_cons_self
    · rw [adl_ne g]
      exact List.mem_cons_of_mem _ (ih ((List.mem_cons.mp h).resolve_left g))
def sumA : List (Nat × Nat) → Nat
  | [] => 0
  | e :: l => e.2 + sumA l
theorem sumA_ge {l : List (Nat × Nat)} {e : Nat × Nat} (h : e ∈ l) : e.2 ≤ sumA l := by
  induction l with
  | nil => cases h
  | cons a l ih =>
    show e.2 ≤ a.2 + sumA l
    rcases List.mem_cons.mp h with rfl | h
    · omega
    · have := ih h
      omega
theorem nd_eq {l : List (Nat × Nat)} (h : (l.map (·.2)).Nodup) {a b : Nat × Nat} (ha : a ∈ l) (hb : b ∈ l) (e : a.2 = b.2) : a = b := by
  induction l with
  | nil => cases ha
  | cons c l ih =>
    have n := List.nodup_cons.mp h
    rcases List.mem_cons.mp ha with e1 | ha'
    · rcases List.mem_cons.mp hb with e2 | hb'
      · rw [e1, e2]
      · exact absurd (List.mem_map.mpr ⟨b, hb', by rw [← e, e1]⟩ : c.2 ∈ l.map (·.2)) n.1
    · rcases List.mem_cons.mp hb with e2 | hb'
      · exact absurd (List.mem_map.mpr ⟨a, ha', by rw [e, e2]⟩ : c.2 ∈ l.map (·.2)) n.1
      · exact ih n.2 ha' hb'
theorem PW.world {l : List (Nat × Nat)} {w : Wst} {h : ac_H} (W : PW l [] w h) (hk : ∀ i, i < 97 → (shp i).1 < 2 → i ∈ l.map (·.1)) : ∃ ad, WW ad w h ∧ ∀ i, i ∈ l.map (·.1) → ad i = adl l i := by
  have e1 : ∀ i, i ∈ l.map (·.1) → (fun i => if i ∈ l.map (·.1) then adl l i else sumA l + 1 + i) i = adl l i := fun i hi => if_pos hi
  have nd : (l.map (·.2)).Nodup := (List.nodup_append.mp W.2.1).1
  refine ⟨fun i => if i ∈ l.map (·.1) then adl l i else sumA l + 1 + i, ⟨fun i j e => ?_, fun i hi h9 => ?_⟩, e1⟩
  · have e : (if i ∈ l.map (·.1) then adl l i else sumA l + 1 + i) = (if j ∈ l.map (·.1) then adl l j else sumA l + 1 + j) := e
    by_cases hi : i ∈ l.map (·.1)
    · have m1 := PW.mem hi
      rw [if_pos hi] at e
      by_cases hj : j ∈ l.map (·.1)
      · rw [if_pos hj] at e
        have m2 := PW.mem hj
        exact congrArg Prod.fst (nd_eq nd m1 m2 e)
      · rw [if_neg hj] at e
        have := sumA_ge m1
        have : adl l i ≤ sumA l := this
        omega
    · rw [if_neg hi] at e
      by_cases hj : j ∈ l.map (·.1)
      · rw [if_pos hj] at e
        have := sumA_ge (PW.mem hj)
        have : adl l j ≤ sumA l := this
        omega
      · rw [if_neg hj] at e
        omega
  · have hi := hk i hi h9
    show h (if i ∈ l.map (·.1) then adl l i else sumA l + 1 + i) = _
    rw [if_pos hi]
    have m1 := PW.mem hi
    rw [W.2.2.1 _ m1]
    exact congrArg some (cellOf_clo (W.2.2.2.2 _ m1) (fun j hj => e1 j hj)).symm

theorem V0_ok : VOK V0 := VOK_of DOK_V0 ⟨by decide, by decide⟩
theorem nm_V0 : nm V0 = 0 := by decide
theorem wk_V0 : wk V0 = 0 := by decide
theorem S0_ok : SOK S0 := ⟨V0_ok, fun t _ => ⟨Or.inl rfl, (show btw 0 0 60 from ⟨by decide, by decide⟩)⟩, fun j _ h => (nomatch h), Nat.zero_le _, fun _ => (show (0 : Nat) < 256 by decide)⟩
theorem RMo_0 : RMo w00 S0 := by
  refine ⟨rfl, ⟨fun t ht => ?_, fun k hk => rfl⟩, fun j hj => ⟨rfl, fun h => (nomatch h)⟩, ⟨rfl, fun k hk => absurd hk (Nat.not_lt_zero _)⟩, rfl, rfl⟩
  have h3 : t = 0 ∨ t = 1 ∨ t = 2 ∨ t = 3 := by omega
  rcases h3 with rfl | rfl | rfl | rfl <;> exact ⟨rfl, rfl⟩
theorem RCl_0 : RCl w00 S0 := by
  refine ⟨⟨10, ⟨Or.inl rfl, rfl, rfl⟩, ?_⟩, fun t ht => ?_, fun j hj => ⟨rfl, fun h => (nomatch h)⟩, ⟨rfl, fun k hk => absurd hk (Nat.not_lt_zero _)⟩, rfl, rfl⟩
  · have hb0 : ∀ m, hb 0 m = false := hb_zero0
    have hn : ∀ m, ¬ m < nm V0 := fun m => by rw [nm_V0]; omega
    have hz : ∀ (m : Nat) (p : Bool), hb 0 m = (decide (m < nm V0) && p) := fun m p => by rw [hb0, decide_eq_false (hn m), Bool.false_and]
    exact ⟨⟨rfl, rfl, rfl, rfl, rfl, rfl⟩, fun m h => absurd h (hn m), fun j h => absurd h (by show ¬ j < wk V0; rw [wk_V0]; omega), fun m => hz m _, fun m => hz m _, fun m => hz m _, fun m => hz m _⟩
  · have h3 : t = 0 ∨ t = 1 ∨ t = 2 ∨ t = 3 := by omega
    rcases h3 with rfl | rfl | rfl | rfl <;> exact ⟨rfl, fun z => absurd rfl z, rfl, fun k hk => rfl⟩
