/-! ===== what is kept; weeks as they go by ===== -/
def kp (l : List Nat) (w w' : Wst) : Prop := ∀ i, i ∉ l → wn w' i = wn w i ∧ wr w' i = wr w i ∧ wa w' i = wa w i ∧ wl w' i = wl w i
theorem kp_refl {l : List Nat} {w : Wst} : kp l w w := fun _ _ => ⟨rfl, rfl, rfl, rfl⟩
theorem kp.trans {l : List Nat} {w w' w'' : Wst} (h : kp l w w') (g : kp l w' w'') : kp l w w'' := fun i hi => ⟨(g i hi).1.trans (h i hi).1, (g i hi).2.1.trans (h i hi).2.1, (g i hi).2.2.1.trans (h i hi).2.2.1, (g i hi).2.2.2.trans (h i hi).2.2.2⟩
theorem kp.mono {l l' : List Nat} {w w' : Wst} (h : kp l w w') (hl : ∀ a ∈ l, a ∈ l') : kp l' w w' := fun i hi => h i (fun z => hi (hl i z))
theorem kp_sn {l : List Nat} {w : Wst} {i j : Nat} {x : Int32} (hi : i ∈ l) : kp l w (sn w i j x) := fun a ha => ⟨by
  funext b
  rw [wn_sn]
  exact if_neg (fun (z : a = i ∧ b = j) => ha (z.1 ▸ hi)), rfl, rfl, rfl⟩
theorem kp_sr {l : List Nat} {w : Wst} {i j x : Nat} (hi : i ∈ l) : kp l w (sr w i j x) := fun a ha => ⟨rfl, by
  funext b
  rw [wr_sr]
  exact if_neg (fun (z : a = i ∧ b = j) => ha (z.1 ▸ hi)), rfl, rfl⟩
theorem kp_sa {l : List Nat} {w : Wst} {i : Nat} {f : Nat → Int32} (hi : i ∈ l) : kp l w (sa w i f) := fun a ha => ⟨rfl, rfl, by
  rw [wa_sa]
  exact if_neg (fun (z : a = i) => ha (z ▸ hi)), rfl⟩
theorem kp_sv {l : List Nat} {w : Wst} {i : Nat} {f : Nat → Int64} (hi : i ∈ l) : kp l w (sv w i f) := fun a ha => ⟨rfl, rfl, rfl, by
  rw [wl_sv]
  exact if_neg (fun (z : a = i) => ha (z ▸ hi))⟩
theorem CR.kp {l : List Nat} {w w' : Wst} {i : Nat} {V : VT} (h : CR w i V) (k : kp l w w') (hl : ∀ j, j < 5 → i + j ∉ l) : CR w' i V := by
  obtain ⟨h1, h2, h3, h4⟩ := h
  have k0 := k i (hl 0 (by omega))
  have k1 := k (i + 1) (hl 1 (by omega))
  have k2 := k (i + 2) (hl 2 (by omega))
  have k3 := k (i + 3) (hl 3 (by omega))
  have k4 := k (i + 4) (hl 4 (by omega))
  unfold CR
  rw [k0.1, k1.2.2.1, k2.2.2.1, k3.2.2.1, k4.2.2.1]
  exact ⟨h1, h2, h3, h4⟩
abbrev kpp := kp
theorem CR.far {l : List Nat} {w w' : Wst} {i : Nat} {V : VT} (h : CR w i V) (k : kpp l w w') (hC : isC i) (hl : ∀ a ∈ l, 40 ≤ a) : CR w' i V := h.kp k (fun j hj z => by
  have := hl _ z
  unfold isC at hC
  omega)
theorem sn_sn (w : Wst) (i j : Nat) (x y : Int32) : sn (sn w i j x) i j y = sn w i j y := by
  unfold sn
  refine Prod.ext ?_ rfl
  funext a b
  show (if a = i ∧ b = j then y else if a = i ∧ b = j then x else wn w a b) = if a = i ∧ b = j then y else wn w a b
  split <;> rfl
theorem sn_self (w : Wst) (i j : Nat) : sn w i j (wn w i j) = w := by
  unfold sn
  refine Prod.ext ?_ rfl
  funext a b
  show (if a = i ∧ b = j then wn w i j else wn w a b) = wn w a b
  split
  · rename_i h
    rw [h.1, h.2]
  · rfl
/-- draws -/
def dnx (x : Int32) : Int32 := kI 1103515245 * x + kI 12345
def dvl (x : Int32) : Int32 := (x.toUInt32 >>> ((kI 16).toUInt32 &&& Int32.toUInt32 31)).toInt32 - (x.toUInt32 >>> ((kI 16).toUInt32 &&& Int32.toUInt32 31)).toInt32 / kI 100 * kI 100
def seenG (V : VT) (fog : Bool) (come x : Int32) : Nat → Nat × Int32
  | 0 => (0, x)
  | k + 1 => if (hb come k || decide (vU V k = 1)) = true then (if fog = true then ((if dvl (dnx (seenG V fog come x k).2) < V 3 then (seenG V fog come x k).1 else (seenG V fog come x k).1 + 1), dnx (seenG V fog come x k).2) else ((seenG V fog come x k).1 + 1, (seenG V fog come x k).2)) else seenG V fog come x k
def seenH (V : VT) (hats x : Int32) : Nat → Nat × Int32
  | 0 => (0, x)
  | k + 1 => if hb hats k = true then ((if dvl (dnx (seenH V hats x k).2) < V 3 then (seenH V hats x k).1 else (seenH V hats x k).1 + 1), dnx (seenH V hats x k).2) else seenH V hats x k
theorem seenH_eq {V : VT} {come x : Int32} {m : Nat} (hm : m ≤ 12) : ∀ k, k ≤ m → seenH V (hatsV V come m) x k = seenG V true come x k
  | 0, _ => rfl
  | k + 1, h => by
    unfold seenH seenG
    rw [seenH_eq hm k (by omega)]
    have e : hb (hatsV V come m) k = (hb come k || decide (vU V k = 1)) := by
      unfold hatsV
      rw [hb_mkS (by omega)]
      simp [show k < m by omega]
    rw [e]
    simp only [if_true]
theorem seenH_eq2 {V : VT} {come x : Int32} {m : Nat} (hm : m ≤ 12) : ∀ k, m ≤ k → seenH V (hatsV V come m) x k = seenG V true come x m
  | 0, h => by
    rw [show m = 0 by omega]
    rfl
  | k + 1, h => by
    by_cases e : m = k + 1
    · rw [← e]
      exact seenH_eq hm m (Nat.le_refl _)
    · unfold seenH
      have e : hb (hatsV V come m) k = false := by
        unfold hatsV
        rw [hb_mkS (by omega)]
        simp [show ¬ k < m by omega]
      rw [e, seenH_eq2 hm k (by omega)]
      rfl
theorem seen0_eq {V : VT} {come x : Int32} : ∀ m, seenG V false come x m = (cnt (fun j => hb come j || decide (vU V j = 1)) m, x)
  | 0 => rfl
  | m + 1 => by
    unfold seenG cnt
    rw [seen0_eq m]
    split <;> rfl
theorem pc_hats {V : VT} {come : Int32} {m : Nat} (hm : m ≤ 12) : pc (hatsV V come m) = cnt (fun j => hb come j || decide (vU V j = 1)) m := by
  have e1 : cnt (hb (hatsV V come m)) m = cnt (fun j => hb come j || decide (vU V j = 1)) m := cnt_congr (fun j hj => by
    unfold hatsV
    rw [hb_mkS (by omega)]
    simp [hj])
  rw [← e1]
  have : ∀ k, m ≤ k → cnt (hb (hatsV V come m)) k = cnt (hb (hatsV V come m)) m := by
    intro k
    induction k with
    | zero => intro h; rw [show m = 0 by omega]
    | succ k ih =>
      intro h
      by_cases e : m = k + 1
      · rw [e]
      · show cnt _ k + (if hb (hatsV V come m) k = true then 1 else 0) = _
        have e2 : hb (hatsV V come m) k = false := by
          unfold hatsV
          rw [hb_mkS (by omega)]
          simp [show ¬ k < m by omega]
        rw [e2, ih (by omega)]
        rfl
  exact this 12 hm
theorem seenG_le {V : VT} {fog : Bool} {come x : Int32} : ∀ m, (seenG V fog come x m).1 ≤ m
  | 0 => Nat.le_refl _
  | m + 1 => by
    have := seenG_le (V := V) (fog := fog) (come := come) (x := x) m
    unfold seenG
    split
    · split
      · split <;> simp <;> omega
      · simp; omega
    · omega
/-- weeks gone by: who came, and how many -/
abbrev PT : Type := (Nat → Int32) × Nat
def lastP (p : PT) : Int32 := if 0 < p.2 then p.1 (p.2 - 1) else kI 0
def lrnV (V : VT) (p : PT) (m : Nat) : Int32 := sm (fun j => payV V (p.1 j ||| b1 m) m) p.2
def nN (V : VT) (m : Nat) : Nat := (vN V m).toInt.toNat
def comesG (V : VT) (p : PT) (fog : Bool) (m : Nat) (c : Int32 × Int32) : Bool × Int32 :=
  if vR V m = kI 0 then (true, c.2) else if vR V m = kI 2 then (hb (lastP p) m, c.2) else if vR V m = kI 3 then (!hb (lastP p) m, c.2) else if vR V m = kI 4 then (decide (kI (pc (lastP p) : Int) < vN V m), c.2) else if vR V m = kI 5 then (decide (vN V m < kI (pc (lastP p) : Int)), c.2) else if vR V m = kI 6 then (decide (p.2 % nN V m = 0), c.2) else if vR V m = kI 7 then (bySee V m (kI ((seenG V fog c.1 c.2 m).1 : Int)), (seenG V fog c.1 c.2 m).2) else if vR V m = kI 8 then (bySee V m (kI ((seenG V fog c.1 c.2 m).1 : Int)), (seenG V fog c.1 c.2 m).2) else if vR V m = kI 9 then (hb (thoughtsV V (lastP p) (nN V m)) m, c.2) else if vR V m = kI 10 then (decide (0 < lrnV V p m), c.2) else (false, c.2)
def goesF (V : VT) (p : PT) (fog : Bool) (m : Nat) (c : Int32 × Int32) : Int32 × Int32 := (c.1 ||| (if (comesG V p fog m c).1 = true then b1 m else kI 0), (comesG V p fog m c).2)
def goesG (V : VT) (p : PT) (fog : Bool) (x : Int32) : Int32 × Int32 := fo (goesF V p fog) (kI 0, x) (nm V)
def nextP (V : VT) (p : PT) : Int32 := (goesG V p false (kI 0)).1
def goP (V : VT) (p : PT) : PT := (upd p.1 p.2 (nextP V p), p.2 + 1)
def runP (V : VT) (p : PT) : Nat → PT
  | 0 => p
  | k + 1 => goP V (runP V p k)
def startP (V : VT) : PT := (vS V, wk V)
theorem comesG_nofog {V : VT} {p : PT} {m : Nat} {c x y : Int32} : (comesG V p false m (c, x)).1 = (comesG V p false m (c, y)).1 ∧ (comesG V p false m (c, x)).2 = x := by
  unfold comesG
  simp only [seen0_eq]
  constructor
  · repeat' split
    all_goals rfl
  · repeat' split
    all_goals rfl
theorem goesF_nofog {V : VT} {p : PT} {m : Nat} {c x y : Int32} : (goesF V p false m (c, x)).1 = (goesF V p false m (c, y)).1 ∧ (goesF V p false m (c, x)).2 = x := by
  obtain ⟨h1, h2⟩ := comesG_nofog (V := V) (p := p) (m := m) (c := c) (x := x) (y := y)
  refine ⟨?_, h2⟩
  show c ||| (if (comesG V p false m (c, x)).1 = true then b1 m else kI 0) = c ||| (if (comesG V p false m (c, y)).1 = true then b1 m else kI 0)
  rw [h1]
theorem fo_nofog {V : VT} {p : PT} {x y : Int32} : ∀ n, (fo (goesF V p false) (kI 0, x) n).1 = (fo (goesF V p false) (kI 0, y) n).1 ∧ (fo (goesF V p false) (kI 0, x) n).2 = x
  | 0 => ⟨rfl, rfl⟩
  | n + 1 => by
    obtain ⟨h1, h2⟩ := fo_nofog (V := V) (p := p) (x := x) (y := y) n
    obtain ⟨-, h3⟩ := fo_nofog (V := V) (p := p) (x := y) (y := y) n
    have e1 : fo (goesF V p false) (kI 0, x) n = ((fo (goesF V p false) (kI 0, y) n).1, x) := Prod.ext h1 h2
    have e2 : fo (goesF V p false) (kI 0, y) n = ((fo (goesF V p false) (kI 0, y) n).1, y) := Prod.ext rfl h3
    show (goesF V p false n (fo (goesF V p false) (kI 0, x) n)).1 = (goesF V p false n (fo (goesF V p false) (kI 0, y) n)).1 ∧ (goesF V p false n (fo (goesF V p false) (kI 0, x) n)).2 = x
    rw [e1]
    constructor
    · rw [e2]
      exact goesF_nofog.1
    · exact (goesF_nofog (y := y)).2
theorem goes_nofog {V : VT} {p : PT} {x : Int32} : goesG V p false x = (nextP V p, x) := Prod.ext (fo_nofog _).1 (fo_nofog (y := x) _).2
theorem sok_goesF {V : VT} {p : PT} {fog : Bool} {c : Int32 × Int32} {m : Nat} (hn : nm V ≤ 12) (hm : m < nm V) (h : sok (nm V) c.1) : sok (nm V) (goesF V p fog m c).1 := by
  unfold goesF
  refine h.or ?_
  split
  · exact sok.b1 hn hm
  · exact sok.zero hn
theorem sok_goes {V : VT} {p : PT} {fog : Bool} {x : Int32} (hn : nm V ≤ 12) : ∀ k, k ≤ nm V → sok (nm V) (fo (goesF V p fog) (kI 0, x) k).1
  | 0, _ => sok.zero hn
  | k + 1, h => sok_goesF hn (by omega) (sok_goes hn k (by omega))
theorem sok_next {V : VT} {p : PT} (hn : nm V ≤ 12) : sok (nm V) (nextP V p) := sok_goes hn _ (Nat.le_refl _)
def POK (V : VT) (p : PT) : Prop := p.2 ≤ 470 ∧ ∀ j, j < p.2 → sok (nm V) (p.1 j)
theorem POK.last {V : VT} {p : PT} (h : POK V p) (hn : nm V ≤ 12) : sok (nm V) (lastP p) := by
  unfold lastP
  split
  · exact h.2 _ (by omega)
  · exact sok.zero hn
theorem POK.start {V : VT} (hV : VOK V) : POK V (startP V) := ⟨by have := hV.w.2; show wk V ≤ 470; omega, hV.2.2⟩
theorem POK.go {V : VT} {p : PT} (h : POK V p) (hn : nm V ≤ 12) (hp : p.2 < 470) : POK V (goP V p) := by
  refine ⟨by show p.2 + 1 ≤ 470; omega, fun j hj => ?_⟩
  show sok _ (upd p.1 p.2 (nextP V p) j)
  unfold upd
  split
  · exact sok_next hn
  · exact h.2 j (by have : j < p.2 + 1 := hj; omega)
theorem runP_len {V : VT} {p : PT} : ∀ k, (runP V p k).2 = p.2 + k
  | 0 => rfl
  | k + 1 => by
    show (runP V p k).2 + 1 = _
    rw [runP_len k]
    omega
theorem POK.run {V : VT} {p : PT} (h : POK V p) (hn : nm V ≤ 12) : ∀ k, p.2 + k ≤ 470 → POK V (runP V p k)
  | 0, _ => h
  | k + 1, hk => (h.run hn k (by omega)).go hn (by rw [runP_len]; omega)
theorem last_go {V : VT} {p : PT} : lastP (goP V p) = nextP V p := by
  show (if 0 < p.2 + 1 then upd p.1 p.2 (nextP V p) (p.2 + 1 - 1) else kI 0) = _
  rw [if_pos (by omega), Nat.add_sub_cancel]
  exact if_pos rfl
theorem lrn_go {V : VT} {p : PT} {m : Nat} : lrnV V (goP V p) m = lrnV V p m + payV V (nextP V p ||| b1 m) m := by
  unfold lrnV goP
  show sm _ p.2 + payV V (upd p.1 p.2 (nextP V p) p.2 ||| b1 m) m = _
  have e : upd p.1 p.2 (nextP V p) p.2 = nextP V p := if_pos rfl
  rw [e]
  congr 1
  exact sm_congr (fun j hj => by
    have e : upd p.1 p.2 (nextP V p) j = p.1 j := if_neg (by omega)
    show payV V (upd p.1 p.2 (nextP V p) j ||| b1 m) m = _
    rw [e])
/-- the course's cells -/
def CoR (w : Wst) (i : Nat) (V : VT) (p : PT) (fog : Bool) : Prop := wr w 40 0 = i ∧ wn w 40 1 = kI (p.2 : Int) ∧ wn w 40 2 = lastP p ∧ wn w 40 3 = bI fog ∧ ∀ m, m < nm V → vR V m = kI 10 → wa w 41 m = lrnV V p m
theorem CoR.draw {w : Wst} {i : Nat} {V : VT} {p : PT} {fog : Bool} {x : Int32} (h : CoR w i V p fog) : CoR (sn w 40 4 x) i V p fog := h
theorem CR.draw {w : Wst} {i : Nat} {V : VT} {x : Int32} (h : CR w i V) (hC : isC i) : CR (sn w 40 4 x) i V := h.far (l := [40]) (kp_sn (by simp)) hC (by simp)
