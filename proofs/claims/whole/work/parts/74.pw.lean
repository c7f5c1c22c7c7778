/-! ===== the making of the world ===== -/
def adl (l : List (Nat × Nat)) (i : Nat) : Nat := (l.lookup i).getD 0
def clo (K : List Nat) (w : Wst) (i : Nat) : Bool := match shp i with
  | (0, c, _) => (List.range (nfl.getD c 0)).all (fun j => !(isRf c j) || K.contains (rfx w i j))
  | (_, t, n) => decide (t < 4) || (List.range n).all (fun j => K.contains (rax i j))
def PW (l : List (Nat × Nat)) (av : List (Nat × ac_C)) (w : Wst) (h : ac_H) : Prop := (l.map (·.1)).Nodup ∧ (l.map (·.2) ++ av.map (·.1)).Nodup ∧ (∀ e ∈ l, h e.2 = some (cellOf (adl l) w e.1)) ∧ (∀ e ∈ av, h e.1 = some e.2) ∧ ∀ e ∈ l, clo (l.map (·.1)) w e.1 = true
theorem cellOf_clo {K : List Nat} {w : Wst} {i : Nat} {ad ad' : Nat → Nat} (hc : clo K w i = true) (ha : ∀ j, j ∈ K → ad' j = ad j) : cellOf ad' w i = cellOf ad w i := by
  unfold clo at hc
  unfold cellOf
  rcases hs : shp i with ⟨k, t, n⟩
  rw [hs] at hc
  cases k with
  | zero =>
    have hc : (List.range (nfl.getD t 0)).all (fun j => !(isRf t j) || K.contains (rfx w i j)) = true := hc
    have e : (List.range (nfl.getD t 0)).map (fun j => if isRf t j = true then Value.ref (ad' (rfx w i j)) else .int (wn w i j)) = (List.range (nfl.getD t 0)).map (fun j => if isRf t j = true then Value.ref (ad (rfx w i j)) else .int (wn w i j)) := by
      refine List.map_congr_left (fun j hj => ?_)
      have g := List.all_eq_true.mp hc j hj
      by_cases e : isRf t j = true
      · rw [if_pos e, if_pos e]
        rw [e] at g
        have g : K.contains (rfx w i j) = true := by simpa using g
        rw [ha _ (List.contains_iff_mem.mp g)]
      · rw [if_neg e, if_neg e]
    show (Sum.inr (t, _) : ac_C) = Sum.inr (t, _)
    rw [e]
  | succ k =>
    have hc : (decide (t < 4) || (List.range n).all (fun j => K.contains (rax i j))) = true := hc
    show (Sum.inl (t, n, if t = 1 then _ else if t < 4 then _ else _) : ac_C) = Sum.inl (t, n, if t = 1 then _ else if t < 4 then _ else _)
    by_cases e1 : t = 1
    · rw [if_pos e1, if_pos e1]
    rw [if_neg e1, if_neg e1]
    by_cases e2 : t < 4
    · rw [if_pos e2, if_pos e2]
    rw [if_neg e2, if_neg e2]
    rw [decide_eq_false e2, Bool.false_or] at hc
    have e : (fun j => if j < n then some (ad' (rax i j)) else none) = (fun j => if j < n then some (ad (rax i j)) else none) := funext fun j => by
      by_cases hj : j < n
      · rw [if_pos hj, if_pos hj, ha _ (List.contains_iff_mem.mp (List.all_eq_true.mp hc j (List.mem_range.mpr hj)))]
      · rw [if_neg hj, if_neg hj]
    rw [e]
theorem clo_mono {K K' : List Nat} {w : Wst} {i : Nat} (hc : clo K w i = true) (hK : ∀ j, j ∈ K → j ∈ K') : clo K' w i = true := by
  unfold clo at hc ⊢
  rcases hs : shp i with ⟨k, t, n⟩
  rw [hs] at hc
  cases k with
  | zero =>
    have hc : (List.range (nfl.getD t 0)).all (fun j => !(isRf t j) || K.contains (rfx w i j)) = true := hc
    refine List.all_eq_true.mpr (fun j hj => ?_)
    have g := List.all_eq_true.mp hc j hj
    rw [Bool.or_eq_true] at g ⊢
    exact g.elim Or.inl (fun g => Or.inr (List.contains_iff_mem.mpr (hK _ (List.contains_iff_mem.mp g))))
  | succ k =>
    have hc : (decide (t < 4) || (List.range n).all (fun j => K.contains (rax i j))) = true := hc
    show (decide (t < 4) || (List.range n).all (fun j => K'.contains (rax i j))) = true
    rw [Bool.or_eq_true] at hc ⊢
    exact hc.elim Or.inl (fun g => Or.inr (List.all_eq_true.mpr (fun j hj => List.contains_iff_mem.mpr (hK _ (List.contains_iff_mem.mp (List.all_eq_true.mp g j hj))))))
theorem PW.nil {w : Wst} {h : ac_H} : PW [] [] w h := ⟨List.nodup_nil, List.nodup_nil, fun _ h => (nomatch h), fun _ h => (nomatch h), fun _ h => (nomatch h)⟩
theorem PW.at {l : List (Nat × Nat)} {av : List (Nat × ac_C)} {w : Wst} {h : ac_H} {x : Nat} {c : ac_C} (W : PW l ((x, c) :: av) w h) : h x = some c := W.2.2.2.1 (x, c) List.mem_cons_self
theorem PW.put {l : List (Nat × Nat)} {av : List (Nat × ac_C)} {w : Wst} {h : ac_H} {x : Nat} {c : ac_C} (W : PW l ((x, c) :: av) w h) (c' : ac_C) : PW l ((x, c') :: av) w (hup h x c') := by
  obtain ⟨n1, n2, hl, ha, hc⟩ := W
  have n2' := List.nodup_append.mp n2
  have hx : x ∉ av.map (·.1) := (List.nodup_cons.mp n2'.2.1).1
  refine ⟨n1, n2, fun e he => ?_, fun e he => ?_, hc⟩
  · rw [hup_ne (n2'.2.2 _ (List.mem_map_of_mem he) x List.mem_cons_self)]
    exact hl e he
  · rcases List.mem_cons.mp he with rfl | he
    · exact hup_self _ _ _
    · rw [hup_ne (fun z => hx (List.mem_map.mpr ⟨e, he, z⟩))]
      exact ha e (List.mem_cons_of_mem _ he)
theorem PW.pend {l : List (Nat × Nat)} {av : List (Nat × ac_C)} {w : Wst} {h : ac_H} {q : Nat} (W : PW l av w h) (hq : h q = none) (c : ac_C) : PW l ((q, c) :: av) w (hup h q c) := by
  obtain ⟨n1, n2, hl, ha, hc⟩ := W
  have n2' := List.nodup_append.mp n2
  have q1 : ∀ e ∈ l, e.2 ≠ q := fun e he z => by
    have := hl e he
    rw [z, hq] at this
    cases this
  have q2 : ∀ e ∈ av, e.1 ≠ q := fun e he z => by
    have := ha e he
    rw [z, hq] at this
    cases this
  refine ⟨n1, List.nodup_append.mpr ⟨n2'.1, List.nodup_cons.mpr ⟨fun z => ?_, n2'.2.1⟩, fun a h1 b h2 => ?_⟩, fun e he => ?_, fun e he => ?_, hc⟩
  · obtain ⟨e, he, e2⟩ := List.mem_map.mp z
    exact q2 e he e2
  · rcases List.mem_cons.mp h2 with rfl | h2
    · obtain ⟨e, he, e2⟩ := List.mem_map.mp h1
      exact e2 ▸ q1 e he
    · exact n2'.2.2 a h1 b h2
  · rw [hup_ne (q1 e he)]
    exact hl e he
  · rcases List.mem_cons.mp he with rfl | he
    · exact hup_self _ _ _
    · rw [hup_ne (q2 e he)]
      exact ha e he
theorem adl_ne {l : List (Nat × Nat)} {k x j : Nat} (h : j ≠ k) : adl ((k, x) :: l) j = adl l j := by
  unfold adl
  rw [List.lookup_cons, show (j == k) = false from by simpa using h]
theorem adl_eq {l : List (Nat × Nat)} {k x : Nat} : adl ((k, x) :: l) k = x := by
  unfold adl
  rw [List.lookup_cons, beq_self_eq_true]
  rfl
theorem PW.done {l : List (Nat × Nat)} {av : List (Nat × ac_C)} {w : Wst} {h : ac_H} {x : Nat} {c : ac_C} (k : Nat) (W : PW l ((x, c) :: av) w h) (hk : k ∉ l.map (·.1)) (he : c = cellOf (adl ((k, x) :: l)) w k) (hcl : clo (k :: l.map (·.1)) w k = true) : PW ((k, x) :: l) av w h := by
  obtain ⟨n1, n2, hl, ha, hc⟩ := W
  have n2' := List.nodup_append.mp n2
  have n3 := List.nodup_cons.mp n2'.2.1
  refine ⟨List.nodup_cons.mpr ⟨hk, n1⟩, ?_, fun e h9 => ?_, fun e h9 => ha e (List.mem_cons_of_mem _ h9), fun e h9 => ?_⟩
  · refine List.nodup_cons.mpr ⟨fun z => ?_, List.nodup_append.mpr ⟨n2'.1, n3.2, fun a h1 b h2 => n2'.2.2 a h1 b (List.mem_cons_of_mem _ h2)⟩⟩
    rcases List.mem_append.mp z with z | z
    · exact n2'.2.2 x z x List.mem_cons_self rfl
    · exact n3.1 z
  · rcases List.mem_cons.mp h9 with rfl | h9
    · rw [ha (x, c) List.mem_cons_self, he]
    · rw [hl e h9]
      refine congrArg some (cellOf_clo (hc e h9) (fun j hj => adl_ne (fun (z : j = k) => hk (by rw [← z]; exact hj)))).symm
  · rcases List.mem_cons.mp h9 with rfl | h9
    · exact hcl
    · exact clo_mono (hc e h9) (fun j hj => List.mem_cons_of_mem _ hj)
theorem PW.sw {l : List (Nat × Nat)} {av : List (Nat × ac_C)} {w : Wst} {h : ac_H} {a b : Nat × ac_C} (W : PW l (a :: b :: av) w h) : PW l (b :: a :: av) w h := by
  obtain ⟨n1, n2, hl, ha, hc⟩ := W
  have n2' := List.nodup_append.mp n2
  have n3 := List.nodup_cons.mp n2'.2.1
  have n4 := List.nodup_cons.mp n3.2
  have m3 : a.1 ∉ (b :: av).map (·.1) := n3.1
  refine ⟨n1, List.nodup_append.mpr ⟨n2'.1, List.nodup_cons.mpr ⟨fun z => ?_, List.nodup_cons.mpr ⟨fun z => m3 (List.mem_cons_of_mem _ z), n4.2⟩⟩, fun x h1 y h2 => n2'.2.2 x h1 y ?_⟩, hl, fun e he => ha e ?_, hc⟩
  · rcases List.mem_cons.mp z with z | z
    · exact m3 (List.mem_map.mpr ⟨b, List.mem_cons_self, z⟩)
    · exact n4.1 z
  · simp only [List.map_cons, List.mem_cons] at h2 ⊢
    rcases h2 with h2 | h2 | h2
    · exact Or.inr (Or.inl h2)
    · exact Or.inl h2
    · exact Or.inr (Or.inr h2)
  · simp only [List.mem_cons] at he ⊢
    rcases he with h2 | h2 | h2
    · exact Or.inr (Or.inl h2)
    · exact Or.inl h2
    · exact Or.inr (Or.inr h2)
section STN
variable {call : Nat → List Value → ac_H → ac_P → Prop} {cs : Nat → Nat × Nat} {ga : Nat → Nat} {L : Nat} {xs : Nat → Int32} {sl : Nat → List Int32} {mb : Nat × Nat} {hands : List (Nat × Int)} {rt : Option FieldType} {Q : ac_P} {J : Nat → ac_X}
variable {is : ac_I} {ls : ac_L} {s : List Value} {h : ac_H} {bg : Nat × Nat} {z : Nat} {l : List (Nat × Nat)} {av : List (Nat × ac_C)} {w : Wst}
theorem n_mex {a : Nat} (hs : s.length ≤ 4) (kk : xB call cs ga L xs sl mb hands rt Q J is ls s h bg) : xB call cs ga L xs sl mb hands rt Q J ((.monitorexit, z) :: is) ls (.ref a :: s) h bg := by
  simp only [xB]
  exact ⟨hs, kk⟩
theorem n_new {k : Nat} (W : PW l av w h) (hb : bgle (bgad bg (1, nfl.getD k 0)) mb) (kk : ∀ q h', PW l ((q, .inr (k, dflt k)) :: av) w h' → xB call cs ga L xs sl mb hands rt Q J is ls (.ref q :: s) h' (bgad bg (1, nfl.getD k 0))) : xB call cs ga L xs sl mb hands rt Q J ((.new k, z) :: is) ls s h bg := by
  simp only [xB]
  exact ⟨hb, fun q hq => kk q _ (W.pend hq _)⟩
theorem n_arI {n : Int32} {N : Nat} (W : PW l av w h) (hn : ¬ n < 0) (hN : n.toNatClampNeg = N) (h1 : N ≤ 100000) (hb : bgle (bgad bg (1, N)) mb) (kk : ∀ q h', PW l ((q, .inl (0, N, .inl (fun _ => 0))) :: av) w h' → xB call cs ga L xs sl mb hands rt Q J is ls (.ref q :: s) h' (bgad bg (1, N))) : xB call cs ga L xs sl mb hands rt Q J ((.newarray .int, z) :: is) ls (.int n :: s) h bg := by
  subst hN
  simp only [xB]
  exact ⟨hn, h1, hb, fun q hq => kk q _ (W.pend hq _)⟩
theorem n_arL {n : Int32} {N : Nat} (W : PW l av w h) (hn : ¬ n < 0) (hN : n.toNatClampNeg = N) (h1 : N ≤ 100000) (hb : bgle (bgad bg (1, N)) mb) (kk : ∀ q h', PW l ((q, .inl (1, N, .inr (.inl (fun _ => 0)))) :: av) w h' → xB call cs ga L xs sl mb hands rt Q J is ls (.ref q :: s) h' (bgad bg (1, N))) : xB call cs ga L xs sl mb hands rt Q J ((.newarray .long, z) :: is) ls (.int n :: s) h bg := by
  subst hN
  simp only [xB]
  exact ⟨hn, h1, hb, fun q hq => kk q _ (W.pend hq _)⟩
theorem n_arB {n : Int32} {N : Nat} (W : PW l av w h) (hn : ¬ n < 0) (hN : n.toNatClampNeg = N) (h1 : N ≤ 100000) (hb : bgle (bgad bg (1, N)) mb) (kk : ∀ q h', PW l ((q, .inl (2, N, .inl (fun _ => 0))) :: av) w h' → xB call cs ga L xs sl mb hands rt Q J is ls (.ref q :: s) h' (bgad bg (1, N))) : xB call cs ga L xs sl mb hands rt Q J ((.newarray .boolean, z) :: is) ls (.int n :: s) h bg := by
  subst hN
  simp only [xB]
  exact ⟨hn, h1, hb, fun q hq => kk q _ (W.pend hq _)⟩
theorem n_arY {n : Int32} {N : Nat} (W : PW l av w h) (hn : ¬ n < 0) (hN : n.toNatClampNeg = N) (h1 : N ≤ 100000) (hb : bgle (bgad bg (1, N)) mb) (kk : ∀ q h', PW l ((q, .inl (3, N, .inl (fun _ => 0))) :: av) w h' → xB call cs ga L xs sl mb hands rt Q J is ls (.ref q :: s) h' (bgad bg (1, N))) : xB call cs ga L xs sl mb hands rt Q J ((.newarray .byte, z) :: is) ls (.int n :: s) h bg := by
  subst hN
  simp only [xB]
  exact ⟨hn, h1, hb, fun q hq => kk q _ (W.pend hq _)⟩
theorem n_arR {n : Int32} {N t : Nat} (W : PW l av w h) (ht : t = 5 ∨ t = 6) (hn : ¬ n < 0) (hN : n.toNatClampNeg = N) (h1 : N ≤ 100000) (hb : bgle (bgad bg (1, N)) mb) (kk : ∀ q h', PW l ((q, .inl (t, N, .inr (.inr (.inr (.inr (fun _ => none)))))) :: av) w h' → xB call cs ga L xs sl mb hands rt Q J is ls (.ref q :: s) h' (bgad bg (1, N))) : xB call cs ga L xs sl mb hands rt Q J ((.anewarray t, z) :: is) ls (.int n :: s) h bg := by
  subst hN
  simp only [xB]
  exact ⟨ht, hn, h1, hb, fun q hq => kk q _ (W.pend hq _)⟩
theorem n_pf {k a : Nat} {v : Value} {c : Nat} {fs : List Value} (W : PW l ((a, .inr (c, fs)) :: av) w h) (ho : okF k v) (hc : c = k / 32) (hv : k % 32 < fs.length) (kk : ∀ h', PW l ((a, .inr (c, fs.set (k % 32) v)) :: av) w h' → xB call cs ga L xs sl mb hands rt Q J is ls s h' bg) : xB call cs ga L xs sl mb hands rt Q J ((.putfield k, z) :: is) ls (v :: .ref a :: s) h bg := by
  have e := pF_c (v := v) W.at hc hv
  have g := kk _ (W.put _)
  cases v <;> simp only [xB, e] <;> exact ⟨ho, g⟩
theorem n_gf {k a : Nat} {v : Value} {c : Nat} {fs : List Value} (ha : h a = some (.inr (c, fs))) (hc : c = k / 32) (hv : fs[k % 32]? = some v) (kk : xB call cs ga L xs sl mb hands rt Q J is ls (v :: s) h bg) : xB call cs ga L xs sl mb hands rt Q J ((.getfield k, z) :: is) ls (.ref a :: s) h bg := by
  simp only [xB, gF_c ha hc hv]
  exact kk
theorem n_ast {a b i t n : Nat} {x : Int32} {f : Nat → Option Nat} (W : PW l ((a, .inl (t, n, .inr (.inr (.inr (.inr f))))) :: av) w h) (ht : (t = 5 ∧ isO h (some (.ref b)) 3) ∨ (t = 6 ∧ isO h (some (.ref b)) 0)) (hx : vp_in x n) (hi : x.toNatClampNeg = i) (kk : ∀ h', PW l ((a, .inl (t, n, .inr (.inr (.inr (.inr (va_up f i (some b))))))) :: av) w h' → xB call cs ga L xs sl mb hands rt Q J is ls s h' bg) : xB call cs ga L xs sl mb hands rt Q J ((.aastore, z) :: is) ls (.ref b :: .int x :: .ref a :: s) h bg := by
  subst hi
  simp only [xB, W.at]
  exact ⟨ht, hx, kk _ (W.put _)⟩
theorem n_ist {a i n : Nat} {x v : Int32} {f : Nat → Int32} (W : PW l ((a, .inl (0, n, .inl f)) :: av) w h) (hx : vp_in x n) (hi : x.toNatClampNeg = i) (kk : ∀ h', PW l ((a, .inl (0, n, .inl (upd f i v))) :: av) w h' → xB call cs ga L xs sl mb hands rt Q J is ls s h' bg) : xB call cs ga L xs sl mb hands rt Q J ((.iastore, z) :: is) ls (.int v :: .int x :: .ref a :: s) h bg := by
  subst hi
  simp only [xB, W.at]
  exact ⟨hx, kk _ (W.put _)⟩
theorem n_ini {k a : Nat} {st as : List Value} (hp : popn (k % 16) st [] = some (.ref a :: as, s)) (hs : s.length ≤ 4) (hb : bgle (bgad bg (cs (k / 16))) mb) (hc : call (k / 16) (.ref a :: as) h (xK Q hands (xB call cs ga L xs sl mb hands rt Q J is) ls s (bgad bg (cs (k / 16))))) : xB call cs ga L xs sl mb hands rt Q J ((.dload k, z) :: is) ls st h bg := by
  simp only [xB, hp]
  exact ⟨hs, hb, hc⟩
end STN
def wn0 (i j : Nat) : Int32 := if 10 ≤ i ∧ i < 40 ∧ i % 5 = 0 then (if j = 1 then 1 else if j = 2 then 10 else 0) else if i = 42 ∧ j = 3 then kI (-1) else if i = 80 ∧ j = 15 then kI (-1) else 0
def wr0 (i j : Nat) : Nat := if i = 0 then (if j = 0 then 10 else 15) else if i = 42 then 15 else 20
def wa0 (i : Nat) : Nat → Int32 := if i = 81 then V0 else if i = 93 then upd (upd (upd (upd (fun _ => 0) 0 (kI (-1))) 1 (kI (-1))) 2 (kI (-1))) 3 (kI (-1)) else fun _ => 0
def w00 : Wst := (wn0, wr0, wa0, fun _ _ => 0)
