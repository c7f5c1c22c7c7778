/-! ===== which count was most often, told in two ways ===== -/
theorem cnt_le_n {p : Nat → Bool} {n : Nat} (h : ∀ j, n ≤ j → p j = false) : ∀ k, cnt p k ≤ n
  | 0 => Nat.zero_le _
  | k + 1 => by
    unfold cnt
    by_cases e : n ≤ k
    · rw [h k e]
      have := cnt_le_n h k
      simpa using this
    · have := cnt_le p k
      split <;> omega
theorem pc_sok {n : Nat} {s : Int32} (h : sok n s) : pc s ≤ n := cnt_le_n h.2 12
theorem cnt_pos {p : Nat → Bool} : ∀ {n : Nat}, 1 ≤ cnt p n → ∃ j, j < n ∧ p j = true
  | 0, h => by simp [cnt] at h
  | n + 1, h => by
    by_cases e : p n = true
    · exact ⟨n, by omega, e⟩
    · unfold cnt at h
      rw [if_neg e] at h
      obtain ⟨j, h1, h2⟩ := cnt_pos (n := n) (by omega)
      exact ⟨j, by omega, h2⟩
theorem cnt_ge1 {p : Nat → Bool} : ∀ {n j : Nat}, j < n → p j = true → 1 ≤ cnt p n
  | 0, j, h, _ => by omega
  | n + 1, j, h, hp => by
    unfold cnt
    by_cases e : j = n
    · subst e
      rw [if_pos hp]
      omega
    · have := cnt_ge1 (n := n) (j := j) (by omega) hp
      omega
def JN (V : VT) (u k : Nat) : Nat := cnt (fun j => decide (pc (vS V j) = k)) u
theorem just_JN {V : VT} {u k : Nat} (hk : k ≤ 100) : justV V (kI (k : Int)) u = kI (JN V u k : Int) ∧ JN V u k ≤ u := by
  obtain ⟨c, h1, h2, h3⟩ := just_N (V := V) (k := kI (k : Int)) u
  have e : c = JN V u k := by
    rw [h3]
    exact cnt_congr (fun j _ => by
      have := pc_le (vS V j)
      simp only [kN_inj (a := pc (vS V j)) (b := k) (by omega) (by omega)])
  rw [← e]
  exact ⟨h2, h1⟩
def mmF (V : VT) (u j : Nat) (st : Int32 × Int32) : Int32 × Int32 := if justV V (kI (pc (vS V j) : Int)) u < st.2 then st else if ¬ justV V (kI (pc (vS V j) : Int)) u = st.2 then (kI (pc (vS V j) : Int), justV V (kI (pc (vS V j) : Int)) u) else if kI (pc (vS V j) : Int) < st.1 then (kI (pc (vS V j) : Int), justV V (kI (pc (vS V j) : Int)) u) else st
theorem most_eq {V : VT} {u : Nat} (hV : VOK V) (hu : u ≤ wk V) (hu1 : 1 ≤ u) : (fo (mmF V u) (kI 0, kI 0) u).1 = mostV V u := by
  have hn := hV.n.2
  have hw := hV.w.2
  have hc : ∀ j, j < u → pc (vS V j) ≤ nm V := fun j hj => pc_sok (hV.2.2 j (by omega))
  have A : ∀ m, 1 ≤ m → m ≤ u → ∃ b : Nat, (fo (mmF V u) (kI 0, kI 0) m) = (kI (b : Int), kI (JN V u b : Int)) ∧ (∃ j, j < m ∧ pc (vS V j) = b) ∧ ∀ j, j < m → JN V u (pc (vS V j)) ≤ JN V u b ∧ (JN V u (pc (vS V j)) = JN V u b → b ≤ pc (vS V j)) := by
    intro m
    induction m with
    | zero => intro h; omega
    | succ m ih =>
      intro _ hm
      have hcm := hc m (by omega)
      obtain ⟨j1, j2⟩ := just_JN (V := V) (u := u) (k := pc (vS V m)) (by omega)
      have hpos : 1 ≤ JN V u (pc (vS V m)) := cnt_ge1 (j := m) (by omega) (by simp)
      have es : fo (mmF V u) (kI 0, kI 0) (m + 1) = mmF V u m (fo (mmF V u) (kI 0, kI 0) m) := rfl
      by_cases h0 : m = 0
      · subst h0
        refine ⟨pc (vS V 0), ?_, ⟨0, by omega, rfl⟩, fun j hj => ?_⟩
        · rw [es]
          show mmF V u 0 (kI 0, kI 0) = _
          unfold mmF
          rw [j1]
          rw [if_neg (by rw [show kI 0 = kI ((0 : Nat) : Int) from rfl, kN_lt (by omega) (by omega)]; omega), if_pos (by show ¬ kI _ = kI ((0 : Nat) : Int); rw [kN_inj (by omega) (by omega)]; omega)]
        · have : j = 0 := by omega
          subst this
          exact ⟨Nat.le_refl _, fun _ => Nat.le_refl _⟩
      · obtain ⟨b, b1', b2, b3⟩ := ih (by omega) (by omega)
        obtain ⟨j0, hj0, hjb⟩ := b2
        have hbn : b ≤ 12 := by rw [← hjb]; have := hc j0 (by omega); omega
        obtain ⟨j3, j4⟩ := just_JN (V := V) (u := u) (k := b) (by omega)
        rw [es, b1']
        unfold mmF
        simp only [j1]
        have t1 : kI (JN V u (pc (vS V m)) : Int) < kI (JN V u b : Int) ↔ JN V u (pc (vS V m)) < JN V u b := kN_lt (by omega) (by omega)
        have t2 : kI (JN V u (pc (vS V m)) : Int) = kI (JN V u b : Int) ↔ JN V u (pc (vS V m)) = JN V u b := kN_inj (by omega) (by omega)
        have t3 : kI (pc (vS V m) : Int) < kI (b : Int) ↔ pc (vS V m) < b := kN_lt (by omega) (by omega)
        by_cases c1 : JN V u (pc (vS V m)) < JN V u b
        · rw [if_pos (t1.mpr c1)]
          refine ⟨b, rfl, ⟨j0, by omega, hjb⟩, fun j hj => ?_⟩
          by_cases e : j = m
          · subst e; exact ⟨by omega, fun h => by omega⟩
          · exact b3 j (by omega)
        · rw [if_neg (fun z => c1 (t1.mp z))]
          by_cases c2 : ¬ JN V u (pc (vS V m)) = JN V u b
          · rw [if_pos (fun z => c2 (t2.mp z))]
            refine ⟨pc (vS V m), rfl, ⟨m, by omega, rfl⟩, fun j hj => ?_⟩
            by_cases e : j = m
            · subst e; exact ⟨Nat.le_refl _, fun _ => Nat.le_refl _⟩
            · have := b3 j (by omega)
              exact ⟨by omega, fun h => by omega⟩
          · rw [if_neg (fun z => c2 (fun y => z (t2.mpr y)))]
            have c2 : JN V u (pc (vS V m)) = JN V u b := Decidable.not_not.mp c2
            by_cases c3 : pc (vS V m) < b
            · rw [if_pos (t3.mpr c3)]
              refine ⟨pc (vS V m), rfl, ⟨m, by omega, rfl⟩, fun j hj => ?_⟩
              by_cases e : j = m
              · subst e; exact ⟨Nat.le_refl _, fun _ => Nat.le_refl _⟩
              · have := b3 j (by omega)
                exact ⟨by omega, fun h => by have := this.2 (by omega); omega⟩
            · rw [if_neg (fun z => c3 (t3.mp z))]
              refine ⟨b, rfl, ⟨j0, by omega, hjb⟩, fun j hj => ?_⟩
              by_cases e : j = m
              · subst e; exact ⟨by omega, fun _ => by omega⟩
              · exact b3 j (by omega)
  have B : ∀ m, m ≤ nm V + 1 → ∃ b : Nat, b ≤ 12 ∧ ∃ M : Nat, M ≤ u ∧ fo (mostF V u) (kI 0, kI 0) m = (kI (b : Int), kI (M : Int)) ∧ (∀ k, k < m → JN V u k ≤ M) ∧ (1 ≤ M → b < m ∧ JN V u b = M ∧ ∀ k, k < b → JN V u k < M) := by
    intro m
    induction m with
    | zero => intro _; exact ⟨0, by omega, 0, by omega, rfl, fun k h => by omega, fun h => by omega⟩
    | succ m ih =>
      intro hm
      obtain ⟨b, hb9, M, hM, e1, e2, e3⟩ := ih (by omega)
      obtain ⟨j1, j2⟩ := just_JN (V := V) (u := u) (k := m) (by omega)
      have es : fo (mostF V u) (kI 0, kI 0) (m + 1) = mostF V u m (fo (mostF V u) (kI 0, kI 0) m) := rfl
      rw [es, e1]
      unfold mostF
      simp only [j1]
      have t1 : kI (M : Int) < kI (JN V u m : Int) ↔ M < JN V u m := kN_lt (by omega) (by omega)
      by_cases c1 : M < JN V u m
      · rw [if_pos (t1.mpr c1)]
        refine ⟨m, by omega, JN V u m, j2, rfl, fun k hk => ?_, fun _ => ⟨by omega, rfl, fun k hk => ?_⟩⟩
        · by_cases e : k = m
          · subst e; exact Nat.le_refl _
          · have := e2 k (by omega); omega
        · have := e2 k (by omega); omega
      · rw [if_neg (fun z => c1 (t1.mp z))]
        refine ⟨b, hb9, M, hM, rfl, fun k hk => ?_, fun h => ?_⟩
        · by_cases e : k = m
          · subst e; omega
          · exact e2 k (by omega)
        · obtain ⟨x1, x2, x3⟩ := e3 h
          exact ⟨by omega, x2, x3⟩
  obtain ⟨b, a1, ⟨j0, hj0, hjb⟩, a3⟩ := A u hu1 (Nat.le_refl _)
  obtain ⟨b', hb9, M, hM, e1, e2, e3⟩ := B (nm V + 1) (Nat.le_refl _)
  have hbn : b ≤ nm V := by rw [← hjb]; exact hc j0 hj0
  have hpos : 1 ≤ JN V u b := cnt_ge1 (j := j0) hj0 (by simp [hjb])
  have h1 : JN V u b ≤ M := e2 b (by omega)
  obtain ⟨x1, x2, x3⟩ := e3 (by omega)
  obtain ⟨j', hj', hjb'⟩ := cnt_pos (p := fun j => decide (pc (vS V j) = b')) (n := u) (by show 1 ≤ JN V u b'; omega)
  have hjb' : pc (vS V j') = b' := of_decide_eq_true hjb'
  have h2 := a3 j' hj'
  rw [hjb'] at h2
  have h3 : JN V u b = M := by omega
  have h4 : b ≤ b' := h2.2 (by omega)
  have h5 : b' ≤ b := by
    refine Nat.le_of_not_lt (fun h => ?_)
    have := x3 b h
    omega
  have h6 : b = b' := by omega
  unfold mostV
  rw [a1, e1, h6]
