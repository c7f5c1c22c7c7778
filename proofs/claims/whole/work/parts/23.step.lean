/-! ===== the world: cells by number ===== -/
abbrev Wst : Type := (Nat → Nat → Int32) × (Nat → Nat → Nat) × (Nat → Nat → Int32) × (Nat → Nat → Int64)
def wn (w : Wst) : Nat → Nat → Int32 := w.1
def wr (w : Wst) : Nat → Nat → Nat := w.2.1
def wa (w : Wst) : Nat → Nat → Int32 := w.2.2.1
def wl (w : Wst) : Nat → Nat → Int64 := w.2.2.2
def sn (w : Wst) (i j : Nat) (x : Int32) : Wst := (fun a b => if a = i ∧ b = j then x else wn w a b, w.2)
def sr (w : Wst) (i j : Nat) (x : Nat) : Wst := (w.1, fun a b => if a = i ∧ b = j then x else wr w a b, w.2.2)
def sa (w : Wst) (i : Nat) (f : Nat → Int32) : Wst := (w.1, w.2.1, fun a => if a = i then f else wa w a, w.2.2.2)
def sv (w : Wst) (i : Nat) (f : Nat → Int64) : Wst := (w.1, w.2.1, w.2.2.1, fun a => if a = i then f else wl w a)
theorem wn_sn (w : Wst) (i j : Nat) (x : Int32) (a b : Nat) : wn (sn w i j x) a b = if a = i ∧ b = j then x else wn w a b := rfl
theorem wr_sn (w : Wst) (i j : Nat) (x : Int32) : wr (sn w i j x) = wr w := rfl
theorem wa_sn (w : Wst) (i j : Nat) (x : Int32) : wa (sn w i j x) = wa w := rfl
theorem wl_sn (w : Wst) (i j : Nat) (x : Int32) : wl (sn w i j x) = wl w := rfl
theorem wn_sr (w : Wst) (i j x : Nat) : wn (sr w i j x) = wn w := rfl
theorem wr_sr (w : Wst) (i j x : Nat) (a b : Nat) : wr (sr w i j x) a b = if a = i ∧ b = j then x else wr w a b := rfl
theorem wa_sr (w : Wst) (i j x : Nat) : wa (sr w i j x) = wa w := rfl
theorem wl_sr (w : Wst) (i j x : Nat) : wl (sr w i j x) = wl w := rfl
theorem wn_sa (w : Wst) (i : Nat) (f : Nat → Int32) : wn (sa w i f) = wn w := rfl
theorem wr_sa (w : Wst) (i : Nat) (f : Nat → Int32) : wr (sa w i f) = wr w := rfl
theorem wa_sa (w : Wst) (i : Nat) (f : Nat → Int32) (a : Nat) : wa (sa w i f) a = if a = i then f else wa w a := rfl
theorem wl_sa (w : Wst) (i : Nat) (f : Nat → Int32) : wl (sa w i f) = wl w := rfl
theorem wn_sv (w : Wst) (i : Nat) (f : Nat → Int64) : wn (sv w i f) = wn w := rfl
theorem wr_sv (w : Wst) (i : Nat) (f : Nat → Int64) : wr (sv w i f) = wr w := rfl
theorem wa_sv (w : Wst) (i : Nat) (f : Nat → Int64) : wa (sv w i f) = wa w := rfl
theorem wl_sv (w : Wst) (i : Nat) (f : Nat → Int64) (a : Nat) : wl (sv w i f) a = if a = i then f else wl w a := rfl
def shT : List (Nat × Nat × Nat) := [(0, 6, 0), (2, 0, 0), (2, 0, 0), (2, 0, 0), (2, 0, 0), (2, 0, 0), (2, 0, 0), (2, 0, 0), (2, 0, 0), (2, 0, 0), (0, 0, 0), (1, 0, 12), (1, 0, 12), (1, 0, 12), (1, 0, 60), (0, 0, 0), (1, 0, 12), (1, 0, 12), (1, 0, 12), (1, 0, 60), (0, 0, 0), (1, 0, 12), (1, 0, 12), (1, 0, 12), (1, 0, 60), (0, 0, 0), (1, 0, 12), (1, 0, 12), (1, 0, 12), (1, 0, 60), (0, 0, 0), (1, 0, 12), (1, 0, 12), (1, 0, 12), (1, 0, 60), (0, 0, 0), (1, 0, 12), (1, 0, 12), (1, 0, 12), (1, 0, 60), (0, 1, 0), (1, 0, 12), (0, 2, 0), (1, 3, 700), (0, 4, 0), (1, 0, 12), (1, 4, 13), (1, 0, 14), (1, 0, 14), (1, 0, 14), (1, 0, 14), (1, 0, 14), (1, 0, 14), (1, 0, 14), (1, 0, 14), (1, 0, 14), (1, 0, 14), (1, 0, 14), (1, 0, 14), (1, 0, 14), (0, 5, 0), (1, 0, 8), (1, 5, 4), (0, 3, 0), (1, 1, 60), (0, 3, 0), (1, 1, 60), (0, 3, 0), (1, 1, 60), (0, 3, 0), (1, 1, 60), (1, 6, 3), (1, 2, 3), (1, 0, 401), (1, 1, 13), (2, 0, 0), (2, 0, 0), (2, 0, 0), (2, 0, 0), (2, 0, 0), (0, 7, 0), (1, 0, 114), (1, 0, 114), (1, 0, 342), (1, 2, 3), (1, 0, 700), (1, 0, 480), (1, 0, 12), (1, 0, 182), (1, 0, 8), (1, 0, 3), (1, 1, 14), (1, 0, 401), (1, 0, 4), (1, 0, 4), (1, 1, 240), (1, 1, 1)]
def shp (i : Nat) : Nat × Nat × Nat := shT.getD i (2, 0, 0)
theorem shp_0 : shp 0 = (0, 6, 0) := rfl
theorem shp_10 : shp 10 = (0, 0, 0) := rfl
theorem shp_11 : shp 11 = (1, 0, 12) := rfl
theorem shp_12 : shp 12 = (1, 0, 12) := rfl
theorem shp_13 : shp 13 = (1, 0, 12) := rfl
theorem shp_14 : shp 14 = (1, 0, 60) := rfl
theorem shp_15 : shp 15 = (0, 0, 0) := rfl
theorem shp_16 : shp 16 = (1, 0, 12) := rfl
theorem shp_17 : shp 17 = (1, 0, 12) := rfl
theorem shp_18 : shp 18 = (1, 0, 12) := rfl
theorem shp_19 : shp 19 = (1, 0, 60) := rfl
theorem shp_20 : shp 20 = (0, 0, 0) := rfl
theorem shp_21 : shp 21 = (1, 0, 12) := rfl
theorem shp_22 : shp 22 = (1, 0, 12) := rfl
theorem shp_23 : shp 23 = (1, 0, 12) := rfl
theorem shp_24 : shp 24 = (1, 0, 60) := rfl
theorem shp_25 : shp 25 = (0, 0, 0) := rfl
theorem shp_26 : shp 26 = (1, 0, 12) := rfl
theorem shp_27 : shp 27 = (1, 0, 12) := rfl
theorem shp_28 : shp 28 = (1, 0, 12) := rfl
theorem shp_29 : shp 29 = (1, 0, 60) := rfl
theorem shp_30 : shp 30 = (0, 0, 0) := rfl
theorem shp_31 : shp 31 = (1, 0, 12) := rfl
theorem shp_32 : shp 32 = (1, 0, 12) := rfl
theorem shp_33 : shp 33 = (1, 0, 12) := rfl
theorem shp_34 : shp 34 = (1, 0, 60) := rfl
theorem shp_35 : shp 35 = (0, 0, 0) := rfl
theorem shp_36 : shp 36 = (1, 0, 12) := rfl
theorem shp_37 : shp 37 = (1, 0, 12) := rfl
theorem shp_38 : shp 38 = (1, 0, 12) := rfl
theorem shp_39 : shp 39 = (1, 0, 60) := rfl
theorem shp_40 : shp 40 = (0, 1, 0) := rfl
theorem shp_41 : shp 41 = (1, 0, 12) := rfl
theorem shp_42 : shp 42 = (0, 2, 0) := rfl
theorem shp_43 : shp 43 = (1, 3, 700) := rfl
theorem shp_44 : shp 44 = (0, 4, 0) := rfl
theorem shp_45 : shp 45 = (1, 0, 12) := rfl
theorem shp_46 : shp 46 = (1, 4, 13) := rfl
theorem shp_47 : shp 47 = (1, 0, 14) := rfl
theorem shp_48 : shp 48 = (1, 0, 14) := rfl
theorem shp_49 : shp 49 = (1, 0, 14) := rfl
theorem shp_50 : shp 50 = (1, 0, 14) := rfl
theorem shp_51 : shp 51 = (1, 0, 14) := rfl
theorem shp_52 : shp 52 = (1, 0, 14) := rfl
theorem shp_53 : shp 53 = (1, 0, 14) := rfl
theorem shp_54 : shp 54 = (1, 0, 14) := rfl
theorem shp_55 : shp 55 = (1, 0, 14) := rfl
theorem shp_56 : shp 56 = (1, 0, 14) := rfl
theorem shp_57 : shp 57 = (1, 0, 14) := rfl
theorem shp_58 : shp 58 = (1, 0, 14) := rfl
theorem shp_59 : shp 59 = (1, 0, 14) := rfl
theorem shp_60 : shp 60 = (0, 5, 0) := rfl
theorem shp_61 : shp 61 = (1, 0, 8) := rfl
theorem shp_62 : shp 62 = (1, 5, 4) := rfl
theorem shp_63 : shp 63 = (0, 3, 0) := rfl
theorem shp_64 : shp 64 = (1, 1, 60) := rfl
theorem shp_65 : shp 65 = (0, 3, 0) := rfl
theorem shp_66 : shp 66 = (1, 1, 60) := rfl
theorem shp_67 : shp 67 = (0, 3, 0) := rfl
theorem shp_68 : shp 68 = (1, 1, 60) := rfl
theorem shp_69 : shp 69 = (0, 3, 0) := rfl
theorem shp_70 : shp 70 = (1, 1, 60) := rfl
theorem shp_71 : shp 71 = (1, 6, 3) := rfl
theorem shp_72 : shp 72 = (1, 2, 3) := rfl
theorem shp_73 : shp 73 = (1, 0, 401) := rfl
theorem shp_74 : shp 74 = (1, 1, 13) := rfl
theorem shp_80 : shp 80 = (0, 7, 0) := rfl
theorem shp_81 : shp 81 = (1, 0, 114) := rfl
theorem shp_82 : shp 82 = (1, 0, 114) := rfl
theorem shp_83 : shp 83 = (1, 0, 342) := rfl
theorem shp_84 : shp 84 = (1, 2, 3) := rfl
theorem shp_85 : shp 85 = (1, 0, 700) := rfl
theorem shp_86 : shp 86 = (1, 0, 480) := rfl
theorem shp_87 : shp 87 = (1, 0, 12) := rfl
theorem shp_88 : shp 88 = (1, 0, 182) := rfl
theorem shp_89 : shp 89 = (1, 0, 8) := rfl
theorem shp_90 : shp 90 = (1, 0, 3) := rfl
theorem shp_91 : shp 91 = (1, 1, 14) := rfl
theorem shp_92 : shp 92 = (1, 0, 401) := rfl
theorem shp_93 : shp 93 = (1, 0, 4) := rfl
theorem shp_94 : shp 94 = (1, 0, 4) := rfl
theorem shp_95 : shp 95 = (1, 1, 240) := rfl
theorem shp_96 : shp 96 = (1, 1, 1) := rfl
/-- which fields hold references -/
def isRf (c j : Nat) : Bool := match c with
  | 0 => Nat.ble 10 j
  | 1 => j == 0 || j == 5
  | 2 => j == 0 || j == 8
  | 3 => j == 3
  | 4 => true
  | 5 => j == 0 || j == 1
  | 6 => true
  | _ => j == 0 || j == 1 || j == 2 || j == 3 || j == 5 || j == 16 || Nat.ble 19 j
/-- where they point: what is said by w may change -/
def rfx (w : Wst) (i j : Nat) : Nat := match (shp i).2.1 with
  | 0 => i + (j - 9)
  | 1 => if j = 0 then wr w i 0 else i + 1
  | 2 => if j = 0 then i + 1 else wr w i 8
  | 3 => i + 1
  | 4 => i + 1 + j
  | 5 => if j = 0 then i + 1 else wr w i 1
  | 6 => if j < 2 then wr w i j else [0, 0, 20, 42, 40, 44, 60, 62, 71, 72, 73, 74].getD j 0
  | _ => [81, 82, 83, 84, 0, 85, 0, 0, 0, 0, 0, 0, 0, 0, 0, 0, 86, 0, 0, 87, 88, 89, 90, 91, 92, 93, 94, 95].getD j 0
/-- what the arrays of references hold -/
def rax (i j : Nat) : Nat := if i = 46 then 47 + j else if i = 62 then 63 + 2 * j else 25 + 5 * j
def cellOf (ad : Nat → Nat) (w : Wst) (i : Nat) : ac_C := match shp i with
  | (0, c, _) => .inr (c, (List.range (nfl.getD c 0)).map (fun j => if isRf c j = true then .ref (ad (rfx w i j)) else .int (wn w i j)))
  | (_, t, n) => .inl (t, n, if t = 1 then .inr (.inl (wl w i)) else if t < 4 then .inl (wa w i) else .inr (.inr (.inr (.inr (fun j => if j < n then some (ad (rax i j)) else none)))))
theorem cellOf_eq {ad : Nat → Nat} {w w' : Wst} {i : Nat} (h1 : ∀ b, wn w' i b = wn w i b) (h2 : ∀ b, wr w' i b = wr w i b) (h3 : wa w' i = wa w i) (h4 : wl w' i = wl w i) : cellOf ad w' i = cellOf ad w i := by
  have h5 : ∀ j, rfx w' i j = rfx w i j := fun j => by
    unfold rfx
    simp only [h2]
  unfold cellOf
  simp only [h1, h3, h4, h5]
theorem sh_lt {i k t n : Nat} (hs : shp i = (k, t, n)) (hk : k < 2) : (shp i).1 < 2 := by
  rw [hs]
  exact hk
def WW (ad : Nat → Nat) (w : Wst) (h : ac_H) : Prop := (∀ i j, ad i = ad j → i = j) ∧ ∀ i, i < 97 → (shp i).1 < 2 → h (ad i) = some (cellOf ad w i)
theorem cellOf_obj {ad : Nat → Nat} {w : Wst} {i c : Nat} (hs : shp i = (0, c, 0)) : cellOf ad w i = .inr (c, (List.range (nfl.getD c 0)).map (fun j => if isRf c j = true then .ref (ad (rfx w i j)) else .int (wn w i j))) := by
  unfold cellOf
  rw [hs]
  rfl
theorem cellOf_arr {ad : Nat → Nat} {w : Wst} {i t n : Nat} (hs : shp i = (1, t, n)) : cellOf ad w i = .inl (t, n, if t = 1 then .inr (.inl (wl w i)) else if t < 4 then .inl (wa w i) else .inr (.inr (.inr (.inr (fun j => if j < n then some (ad (rax i j)) else none))))) := by
  unfold cellOf
  rw [hs]
  rfl
theorem WW.obj {ad : Nat → Nat} {w : Wst} {h : ac_H} (W : WW ad w h) {i c : Nat} (hi : i < 97) (hs : shp i = (0, c, 0)) : h (ad i) = some (.inr (c, (List.range (nfl.getD c 0)).map (fun j => if isRf c j = true then .ref (ad (rfx w i j)) else .int (wn w i j)))) := by
  rw [W.2 i hi (sh_lt hs (by decide)), cellOf_obj hs]
theorem WW.iarr {ad : Nat → Nat} {w : Wst} {h : ac_H} (W : WW ad w h) {i n : Nat} (hi : i < 97) (hs : shp i = (1, 0, n)) : h (ad i) = some (.inl (0, n, .inl (wa w i))) := by
  rw [W.2 i hi (sh_lt hs (by decide)), cellOf_arr hs]
  rfl
theorem WW.larr {ad : Nat → Nat} {w : Wst} {h : ac_H} (W : WW ad w h) {i n : Nat} (hi : i < 97) (hs : shp i = (1, 1, n)) : h (ad i) = some (.inl (1, n, .inr (.inl (wl w i)))) := by
  rw [W.2 i hi (sh_lt hs (by decide)), cellOf_arr hs]
  rfl
theorem WW.barr {ad : Nat → Nat} {w : Wst} {h : ac_H} (W : WW ad w h) {i t n : Nat} (hi : i < 97) (hs : shp i = (1, t, n)) (ht : t = 2 ∨ t = 3) : h (ad i) = some (.inl (t, n, .inl (wa w i))) := by
  rw [W.2 i hi (sh_lt hs (by decide)), cellOf_arr hs]
  rcases ht with rfl | rfl <;> rfl
theorem WW.up {ad : Nat → Nat} {w w' : Wst} {h : ac_H} (W : WW ad w h) {i : Nat} {c : ac_C} (hc : cellOf ad w' i = c) (ho : ∀ j, j ≠ i → cellOf ad w' j = cellOf ad w j) : WW ad w' (hup h (ad i) c) := by
  refine ⟨W.1, fun j hj h9 => ?_⟩
  by_cases e : j = i
  · subst e
    rw [hup_self, hc]
  · rw [hup_ne (fun z => e (W.1 _ _ z)), ho j e]
    exact W.2 j hj h9
theorem isO_W {ad : Nat → Nat} {w : Wst} {h : ac_H} (W : WW ad w h) {i c : Nat} (hi : i < 97) (hs : shp i = (0, c, 0)) : isO h (some (.ref (ad i))) c := ⟨_, W.obj hi hs⟩
theorem okI {k : Nat} {x : Int32} (hf : fty k = .int) : okF k (.int x) := by
  unfold okF
  rw [hf]
  exact ⟨rfl, rfl⟩
theorem okB {k : Nat} {b : Bool} (hf : fty k = .boolean) : okF k (.int (if b = true then 1 else 0)) := by
  unfold okF
  rw [hf]
  cases b <;> exact ⟨rfl, rfl⟩
theorem gF_c {k : Nat} {h : ac_H} {a c : Nat} {fs : List Value} {v : Value} (ha : h a = some (.inr (c, fs))) (hc : c = k / 32) (hv : fs[k % 32]? = some v) : gF k h a = some v := by
  unfold gF
  rw [ha]
  show (if c = k / 32 then fs[k % 32]? else none) = some v
  rw [if_pos hc, hv]
theorem pF_c {k : Nat} {h : ac_H} {a c : Nat} {fs : List Value} {v : Value} (ha : h a = some (.inr (c, fs))) (hc : c = k / 32) (hv : k % 32 < fs.length) : pF k h a v = some (hup h a (.inr (c, fs.set (k % 32) v))) := by
  unfold pF
  rw [ha]
  show (if c = k / 32 ∧ k % 32 < fs.length then some (hup h a (.inr (c, fs.set (k % 32) v))) else none) = _
  rw [if_pos ⟨hc, hv⟩]
theorem map_set {α : Type} (n j : Nat) (f : Nat → α) (v : α) : ((List.range n).map f).set j v = (List.range n).map (fun b => if b = j then v else f b) := by
  apply List.ext_getElem?
  intro b
  by_cases hb : b < n
  · by_cases e : j = b
    · subst e
      rw [List.getElem?_set_self (by simpa using hb), List.getElem?_map, List.getElem?_range hb]
      simp
    · rw [List.getElem?_set_ne e, List.getElem?_map, List.getElem?_map, List.getElem?_range hb]
      simp [Ne.symm e]
  · rw [List.getElem?_eq_none (by simpa using hb), List.getElem?_eq_none (by simpa using hb)]
theorem vp_inN {j n : Nat} (hj : j < n) (hn : n ≤ 1000) : vp_in (kI j) n ∧ (kI (j : Int)).toNatClampNeg = j := by
  have h1 : (kI (j : Int)).toInt = j := by
    unfold kI
    rw [Int32.toInt_ofInt_of_le] <;> omega
  have h2 : (kI (j : Int)).toNatClampNeg = j := by
    show (kI (j : Int)).toInt.toNat = j
    rw [h1]
    rfl
  refine ⟨?_, h2⟩
  unfold vp_in
  rw [h2, Int32.lt_iff_toInt_lt, h1]
  show ¬ ((j : Int) < (0 : Int32).toInt ∨ n ≤ j)
  have : (0 : Int32).toInt = 0 := rfl
  omega
section STP
variable {call : Nat → List Value → ac_H → ac_P → Prop} {cs : Nat → Nat × Nat} {ga : Nat → Nat} {L : Nat} {xs : Nat → Int32} {sl : Nat → List Int32} {mb : Nat × Nat} {hands : List (Nat × Int)} {rt : Option FieldType} {Q : ac_P} {J : Nat → ac_X}
variable {is : ac_I} {ls : ac_L} {s : List Value} {h : ac_H} {bg : Nat × Nat} {z : Nat} {ad : Nat → Nat} {w : Wst}
theorem x_sipush {n : Int} (kk : xB call cs ga L xs sl mb hands rt Q J is ls (.int (kI n) :: s) h bg) : xB call cs ga L xs sl mb hands rt Q J ((.sipush n, z) :: is) ls s h bg := by
  simp only [xB]
  exact kk
theorem x_iload {n : Nat} {x : Int32} (hg : gI ls n = some (.int x)) (kk : xB call cs ga L xs sl mb hands rt Q J is ls (.int x :: s) h bg) : xB call cs ga L xs sl mb hands rt Q J ((.iload n, z) :: is) ls s h bg := by
  simp only [xB, hg]
  exact kk
theorem x_lload {n : Nat} {x : Int64} (hg : gI ls n = some (.long x)) (kk : xB call cs ga L xs sl mb hands rt Q J is ls (.long x :: s) h bg) : xB call cs ga L xs sl mb hands rt Q J ((.lload n, z) :: is) ls s h bg := by
  simp only [xB, hg]
  exact kk
theorem x_aload {n : Nat} {x : Nat} (hg : gI ls n = some (.ref x)) (kk : xB call cs ga L xs sl mb hands rt Q J is ls (.ref x :: s) h bg) : xB call cs ga L xs sl mb hands rt Q J ((.aload n, z) :: is) ls s h bg := by
  simp only [xB, hg]
  exact kk
theorem x_istore {n : Nat} {x : Int32} (hl : low1 ls n = true) (kk : xB call cs ga L xs sl mb hands rt Q J is (sI ls n (some (.int x))) s h bg) : xB call cs ga L xs sl mb hands rt Q J ((.istore n, z) :: is) ls (.int x :: s) h bg := by
  simp only [xB]
  exact ⟨hl, kk⟩
theorem x_astore {n : Nat} {x : Nat} (hl : low1 ls n = true) (kk : xB call cs ga L xs sl mb hands rt Q J is (sI ls n (some (.ref x))) s h bg) : xB call cs ga L xs sl mb hands rt Q J ((.astore n, z) :: is) ls (.ref x :: s) h bg := by
  simp only [xB]
  exact ⟨hl, kk⟩
theorem x_lstore {n : Nat} {x : Int64} (hl : low1 ls n = true) (kk : xB call cs ga L xs sl mb hands rt Q J is (sI (sI ls n (some (.long x))) (n + 1) none) s h bg) : xB call cs ga L xs sl mb hands rt Q J ((.lstore n, z) :: is) ls (.long x :: s) h bg := by
  simp only [xB]
  exact ⟨hl, kk⟩
theorem x_iinc {n : Nat} {k : Int} {x : Int32} (hg : gI ls n = some (.int x)) (hl : low1 ls n = true) (kk : xB call cs ga L xs sl mb hands rt Q J is (sI ls n (some (.int (x + kI k)))) s h bg) : xB call cs ga L xs sl mb hands rt Q J ((.iinc n k, z) :: is) ls s h bg := by
  simp only [xB, hg]
  exact ⟨hl, kk⟩
theorem x_iadd {x y : Int32} (kk : xB call cs ga L xs sl mb hands rt Q J is ls (.int (x + y) :: s) h bg) : xB call cs ga L xs sl mb hands rt Q J ((.iadd, z) :: is) ls (.int y :: .int x :: s) h bg := by
  simp only [xB]
  exact kk
theorem x_isub {x y : Int32} (kk : xB call cs ga L xs sl mb hands rt Q J is ls (.int (x - y) :: s) h bg) : xB call cs ga L xs sl mb hands rt Q J ((.isub, z) :: is) ls (.int y :: .int x :: s) h bg := by
  simp only [xB]
  exact kk
theorem x_imul {x y : Int32} (kk : xB call cs ga L xs sl mb hands rt Q J is ls (.int (x * y) :: s) h bg) : xB call cs ga L xs sl mb hands rt Q J ((.imul, z) :: is) ls (.int y :: .int x :: s) h bg := by
  simp only [xB]
  exact kk
theorem x_iand {x y : Int32} (kk : xB call cs ga L xs sl mb hands rt Q J is ls (.int (x &&& y) :: s) h bg) : xB call cs ga L xs sl mb hands rt Q J ((.iand, z) :: is) ls (.int y :: .int x :: s) h bg := by
  simp only [xB]
  exact kk
theorem x_ior {x y : Int32} (kk : xB call cs ga L xs sl mb hands rt Q J is ls (.int (x ||| y) :: s) h bg) : xB call cs ga L xs sl mb hands rt Q J ((.ior, z) :: is) ls (.int y :: .int x :: s) h bg := by
  simp only [xB]
  exact kk
theorem x_ixor {x y : Int32} (kk : xB call cs ga L xs sl mb hands rt Q J is ls (.int (x ^^^ y) :: s) h bg) : xB call cs ga L xs sl mb hands rt Q J ((.ixor, z) :: is) ls (.int y :: .int x :: s) h bg := by
  simp only [xB]
  exact kk
theorem x_ishl {x y : Int32} (kk : xB call cs ga L xs sl mb hands rt Q J is ls (.int (x <<< (y &&& 31)) :: s) h bg) : xB call cs ga L xs sl mb hands rt Q J ((.ishl, z) :: is) ls (.int y :: .int x :: s) h bg := by
  simp only [xB]
  exact kk
theorem x_ishr {x y : Int32} (kk : xB call cs ga L xs sl mb hands rt Q J is ls (.int (x >>> (y &&& 31)) :: s) h bg) : xB call cs ga L xs sl mb hands rt Q J ((.ishr, z) :: is) ls (.int y :: .int x :: s) h bg := by
  simp only [xB]
  exact kk
theorem x_iushr {x y : Int32} (kk : xB call cs ga L xs sl mb hands rt Q J is ls (.int ((x.toUInt32 >>> (y.toUInt32 &&& Int32.toUInt32 31)).toInt32) :: s) h bg) : xB call cs ga L xs sl mb hands rt Q J ((.iushr, z) :: is) ls (.int y :: .int x :: s) h bg := by
  simp only [xB]
  exact kk
theorem x_idiv {x y : Int32} (hy : ¬ y = 0) (kk : xB call cs ga L xs sl mb hands rt Q J is ls (.int (x / y) :: s) h bg) : xB call cs ga L xs sl mb hands rt Q J ((.idiv, z) :: is) ls (.int y :: .int x :: s) h bg := by
  simp only [xB]
  exact ⟨hy, kk⟩
theorem x_irem {x y : Int32} (hy : ¬ y = 0) (kk : xB call cs ga L xs sl mb hands rt Q J is ls (.int (x - x / y * y) :: s) h bg) : xB call cs ga L xs sl mb hands rt Q J ((.irem, z) :: is) ls (.int y :: .int x :: s) h bg := by
  simp only [xB]
  exact ⟨hy, kk⟩
theorem x_ineg {x : Int32} (kk : xB call cs ga L xs sl mb hands rt Q J is ls (.int (-x) :: s) h bg) : xB call cs ga L xs sl mb hands rt Q J ((.ineg, z) :: is) ls (.int x :: s) h bg := by
  simp only [xB]
  exact kk
theorem x_ladd {x y : Int64} (kk : xB call cs ga L xs sl mb hands rt Q J is ls (.long (x + y) :: s) h bg) : xB call cs ga L xs sl mb hands rt Q J ((.ladd, z) :: is) ls (.long y :: .long x :: s) h bg := by
  simp only [xB]
  exact kk
theorem x_lsub {x y : Int64} (kk : xB call cs ga L xs sl mb hands rt Q J is ls (.long (x - y) :: s) h bg) : xB call cs ga L xs sl mb hands rt Q J ((.lsub, z) :: is) ls (.long y :: .long x :: s) h bg := by
  simp only [xB]
  exact kk
theorem x_lmul {x y : Int64} (kk : xB call cs ga L xs sl mb hands rt Q J is ls (.long (x * y) :: s) h bg) : xB call cs ga L xs sl mb hands rt Q J ((.lmul, z) :: is) ls (.long y :: .long x :: s) h bg := by
  simp only [xB]
  exact kk
theorem x_land {x y : Int64} (kk : xB call cs ga L xs sl mb hands rt Q J is ls (.long (x &&& y) :: s) h bg) : xB call cs ga L xs sl mb hands rt Q J ((.land, z) :: is) ls (.long y :: .long x :: s) h bg := by
  simp only [xB]
  exact kk
theorem x_lor {x y : Int64} (kk : xB call cs ga L xs sl mb hands rt Q J is ls (.long (x ||| y) :: s) h bg) : xB call cs ga L xs sl mb hands rt Q J ((.lor, z) :: is) ls (.long y :: .long x :: s) h bg := by
  simp only [xB]
  exact kk
theorem x_lxor {x y : Int64} (kk : xB call cs ga L xs sl mb hands rt Q J is ls (.long (x ^^^ y) :: s) h bg) : xB call cs ga L xs sl mb hands rt Q J ((.lxor, z) :: is) ls (.long y :: .long x :: s) h bg := by
  simp only [xB]
  exact kk
theorem x_ldiv {x y : Int64} (hy : ¬ y = 0) (kk : xB call cs ga L xs sl mb hands rt Q J is ls (.long (x / y) :: s) h bg) : xB call cs ga L xs sl mb hands rt Q J ((.ldiv, z) :: is) ls (.long y :: .long x :: s) h bg := by
  simp only [xB]
  exact ⟨hy, kk⟩
theorem x_lrem {x y : Int64} (hy : ¬ y = 0) (kk : xB call cs ga L xs sl mb hands rt Q J is ls (.long (x - x / y * y) :: s) h bg) : xB call cs ga L xs sl mb hands rt Q J ((.lrem, z) :: is) ls (.long y :: .long x :: s) h bg := by
  simp only [xB]
  exact ⟨hy, kk⟩
theorem x_lcmp {x y : Int64} (kk : xB call cs ga L xs sl mb hands rt Q J is ls (.int (lg_cmp x y) :: s) h bg) : xB call cs ga L xs sl mb hands rt Q J ((.lcmp, z) :: is) ls (.long y :: .long x :: s) h bg := by
  simp only [xB]
  exact kk
theorem x_lshl {x : Int64} {y : Int32} (kk : xB call cs ga L xs sl mb hands rt Q J is ls (.long (x <<< (y.toInt64 &&& 63)) :: s) h bg) : xB call cs ga L xs sl mb hands rt Q J ((.lshl, z) :: is) ls (.int y :: .long x :: s) h bg := by
  simp only [xB]
  exact kk
theorem x_lshr {x : Int64} {y : Int32} (kk : xB call cs ga L xs sl mb hands rt Q J is ls (.long (x >>> (y.toInt64 &&& 63)) :: s) h bg) : xB call cs ga L xs sl mb hands rt Q J ((.lshr, z) :: is) ls (.int y :: .long x :: s) h bg := by
  simp only [xB]
  exact kk
theorem x_i2l {x : Int32} (kk : xB call cs ga L xs sl mb hands rt Q J is ls (.long x.toInt64 :: s) h bg) : xB call cs ga L xs sl mb hands rt Q J ((.i2l, z) :: is) ls (.int x :: s) h bg := by
  simp only [xB]
  exact kk
theorem x_l2i {x : Int64} (kk : xB call cs ga L xs sl mb hands rt Q J is ls (.int x.toInt32 :: s) h bg) : xB call cs ga L xs sl mb hands rt Q J ((.l2i, z) :: is) ls (.long x :: s) h bg := by
  simp only [xB]
  exact kk
theorem x_i2b {x : Int32} (kk : xB call cs ga L xs sl mb hands rt Q J is ls (.int (x.toInt8.toInt32) :: s) h bg) : xB call cs ga L xs sl mb hands rt Q J ((.i2b, z) :: is) ls (.int x :: s) h bg := by
  simp only [xB]
  exact kk
theorem x_i2s {x : Int32} (kk : xB call cs ga L xs sl mb hands rt Q J is ls (.int (x.toInt16.toInt32) :: s) h bg) : xB call cs ga L xs sl mb hands rt Q J ((.i2s, z) :: is) ls (.int x :: s) h bg := by
  simp only [xB]
  exact kk
theorem x_i2c {x : Int32} (kk : xB call cs ga L xs sl mb hands rt Q J is ls (.int ((x.toUInt32 % 65536).toInt32) :: s) h bg) : xB call cs ga L xs sl mb hands rt Q J ((.i2c, z) :: is) ls (.int x :: s) h bg := by
  simp only [xB]
  exact kk
theorem x_dupi {x : Int32} (kk : xB call cs ga L xs sl mb hands rt Q J is ls (.int x :: .int x :: s) h bg) : xB call cs ga L xs sl mb hands rt Q J ((.dup, z) :: is) ls (.int x :: s) h bg := by
  simp only [xB]
  exact kk
theorem x_dupr {x : Nat} (kk : xB call cs ga L xs sl mb hands rt Q J is ls (.ref x :: .ref x :: s) h bg) : xB call cs ga L xs sl mb hands rt Q J ((.dup, z) :: is) ls (.ref x :: s) h bg := by
  simp only [xB]
  exact kk
theorem x_popi {x : Int32} (kk : xB call cs ga L xs sl mb hands rt Q J is ls s h bg) : xB call cs ga L xs sl mb hands rt Q J ((.pop, z) :: is) ls (.int x :: s) h bg := by
  simp only [xB]
  exact kk
theorem x_popr {x : Nat} (kk : xB call cs ga L xs sl mb hands rt Q J is ls s h bg) : xB call cs ga L xs sl mb hands rt Q J ((.pop, z) :: is) ls (.ref x :: s) h bg := by
  simp only [xB]
  exact kk
theorem x_pop2 {x : Int64} (kk : xB call cs ga L xs sl mb hands rt Q J is ls s h bg) : xB call cs ga L xs sl mb hands rt Q J ((.pop2, z) :: is) ls (.long x :: s) h bg := by
  simp only [xB]
  exact kk
theorem x_dup2 {y : Int32} {x : Nat} (kk : xB call cs ga L xs sl mb hands rt Q J is ls (.int y :: .ref x :: .int y :: .ref x :: s) h bg) : xB call cs ga L xs sl mb hands rt Q J ((.dup2, z) :: is) ls (.int y :: .ref x :: s) h bg := by
  simp only [xB]
  exact kk
theorem x_dup2l {x : Int64} (kk : xB call cs ga L xs sl mb hands rt Q J is ls (.long x :: .long x :: s) h bg) : xB call cs ga L xs sl mb hands rt Q J ((.dup2, z) :: is) ls (.long x :: s) h bg := by
  simp only [xB]
  exact kk
theorem x_ldc2 {n : Nat} (kk : xB call cs ga L xs sl mb hands rt Q J is ls (.long (Int64.ofNat n) :: s) h bg) : xB call cs ga L xs sl mb hands rt Q J ((.ldc2_w n, z) :: is) ls s h bg := by
  simp only [xB]
  exact kk
theorem x_br {c : ClassFile.Cond} {b : Int} {x : Int32} (k1 : cI c x 0 → J b.toNat ls s h bg) (k2 : ¬ cI c x 0 → xB call cs ga L xs sl mb hands rt Q J is ls s h bg) : xB call cs ga L xs sl mb hands rt Q J ((.ifCond c b, z) :: is) ls (.int x :: s) h bg := by
  simp only [xB]
  exact ⟨k1, k2⟩
theorem x_br2 {c : ClassFile.Cond} {b : Int} {x y : Int32} (k1 : cI c x y → J b.toNat ls s h bg) (k2 : ¬ cI c x y → xB call cs ga L xs sl mb hands rt Q J is ls s h bg) : xB call cs ga L xs sl mb hands rt Q J ((.if_icmp c b, z) :: is) ls (.int y :: .int x :: s) h bg := by
  simp only [xB]
  exact ⟨k1, k2⟩
theorem x_goto {b : Int} (k1 : J b.toNat ls s h bg) : xB call cs ga L xs sl mb hands rt Q J ((.goto b, z) :: is) ls s h bg := by
  simp only [xB]
  exact k1
theorem x_ts {x : Int32} {d lo hi : Int} {offs : Array Int} {b : Int} (hb : tsel x d lo hi offs = some b) (k1 : J b.toNat ls s h bg) : xB call cs ga L xs sl mb hands rt Q J ((.tableswitch d lo hi offs, z) :: is) ls (.int x :: s) h bg := by
  simp only [xB, hb]
  exact k1
theorem x_lsw {x : Int32} {d : Int} {ps : Array (Int × Int)} {b : Int} (hb : Op.lookupswitch.offset ps.toList d x.toInt = b) (k1 : J b.toNat ls s h bg) : xB call cs ga L xs sl mb hands rt Q J ((.lookupswitch d ps, z) :: is) ls (.int x :: s) h bg := by
  simp only [xB, hb]
  exact k1
theorem x_iret {v : Int32} (hn : nrw rt v) (hq : Q (.inl (some (.int v))) h) : xB call cs ga L xs sl mb hands rt Q J ((.ireturn, z) :: is) ls [.int v] h bg := by
  simp only [xB]
  exact ⟨hn, hq⟩
theorem x_lret {v : Int64} (hn : rt = some .long) (hq : Q (.inl (some (.long v))) h) : xB call cs ga L xs sl mb hands rt Q J ((.lreturn, z) :: is) ls [.long v] h bg := by
  simp only [xB]
  exact ⟨hn, hq⟩
theorem x_aret {v : Nat} (hn : isR rt) (hq : Q (.inl (some (.ref v))) h) : xB call cs ga L xs sl mb hands rt Q J ((.areturn, z) :: is) ls [.ref v] h bg := by
  simp only [xB]
  exact ⟨hn, hq⟩
theorem x_vret (hn : rt = none) (hq : Q (.inl none) h) : xB call cs ga L xs sl mb hands rt Q J ((.return_, z) :: is) ls [] h bg := by
  simp only [xB]
  exact ⟨hn, hq⟩
theorem x_thr {k : Nat} (hb : bgle (bgad bg (1, 6)) mb) (hs : s.length ≤ 4) (hk : k < 4) (hq : Q (.inr k) h) : xB call cs ga L xs sl mb hands rt Q J ((.instanceof k, z) :: is) ls s h bg := by
  simp only [xB]
  exact ⟨hb, hs, hk, hq⟩
theorem x_cv {k d a : Nat} {st as : List Value} (hp : popn (d / 16) st [] = some (.ref a :: as, s)) (hs : s.length ≤ 4) (ho : isO h (some (.ref a)) (d % 16)) (hc : call k (.ref a :: as) h (xK Q hands (xB call cs ga L xs sl mb hands rt Q J is) ls s bg)) : xB call cs ga L xs sl mb hands rt Q J ((.multianewarray k d, z) :: is) ls st h bg := by
  simp only [xB, hp]
  exact ⟨hs, ho, hc⟩
theorem x_cs {k d : Nat} {st as : List Value} (hp : popn d st [] = some (as, s)) (hs : s.length ≤ 4) (hc : call k as h (xK Q hands (xB call cs ga L xs sl mb hands rt Q J is) ls s bg)) : xB call cs ga L xs sl mb hands rt Q J ((.invokeinterface k d, z) :: is) ls st h bg := by
  simp only [xB, hp]
  exact ⟨hs, hc⟩
theorem x_cvb {k a : Nat} {st as : List Value} (hp : popn (k / 16 % 16) st [] = some (.ref a :: as, s)) (hs : s.length ≤ 4) (ho : isO h (some (.ref a)) (k % 16)) (hb : bgle (bgad bg (cs (k / 256))) mb) (hc : call (k / 256) (.ref a :: as) h (xK Q hands (xB call cs ga L xs sl mb hands rt Q J is) ls s (bgad bg (cs (k / 256))))) : xB call cs ga L xs sl mb hands rt Q J ((.putstatic k, z) :: is) ls st h bg := by
  simp only [xB, hp]
  exact ⟨hs, ho, hb, hc⟩
theorem x_csb {k : Nat} {st as : List Value} (hp : popn (k % 16) st [] = some (as, s)) (hs : s.length ≤ 4) (hb : bgle (bgad bg (cs (k / 16))) mb) (hc : call (k / 16) as h (xK Q hands (xB call cs ga L xs sl mb hands rt Q J is) ls s (bgad bg (cs (k / 16))))) : xB call cs ga L xs sl mb hands rt Q J ((.ret k, z) :: is) ls st h bg := by
  simp only [xB, hp]
  exact ⟨hs, hb, hc⟩
theorem w_geti (W : WW ad w h) {i k : Nat} (c j : Nat) (hi : i < 97) (hs : shp i = (0, c, 0)) (hk : k = 32 * c + j) (hj : (Nat.blt j (nfl.getD c 0) && Nat.blt j 32 && !isRf c j) = true) (kk : xB call cs ga L xs sl mb hands rt Q J is ls (.int (wn w i j) :: s) h bg) : xB call cs ga L xs sl mb hands rt Q J ((.getfield k, z) :: is) ls (.ref (ad i) :: s) h bg := by
  simp only [Bool.and_eq_true, Nat.blt_eq, Bool.not_eq_true'] at hj
  have hv : gF k h (ad i) = some (.int (wn w i j)) := by
    refine gF_c (W.obj hi hs) (by omega) ?_
    have e : k % 32 = j := by omega
    rw [e, List.getElem?_map, List.getElem?_range hj.1.1]
    show some (if isRf c j = true then _ else _) = _
    rw [if_neg (by rw [hj.2]; decide)]
  simp only [xB, hv]
  exact kk
theorem w_getr (W : WW ad w h) {i k : Nat} (c j : Nat) {t : Nat} (hi : i < 97) (hs : shp i = (0, c, 0)) (hk : k = 32 * c + j) (hj : (Nat.blt j (nfl.getD c 0) && Nat.blt j 32 && isRf c j) = true) (ht : rfx w i j = t) (kk : xB call cs ga L xs sl mb hands rt Q J is ls (.ref (ad t) :: s) h bg) : xB call cs ga L xs sl mb hands rt Q J ((.getfield k, z) :: is) ls (.ref (ad i) :: s) h bg := by
  simp only [Bool.and_eq_true, Nat.blt_eq] at hj
  have hv : gF k h (ad i) = some (.ref (ad t)) := by
    refine gF_c (W.obj hi hs) (by omega) ?_
    have e : k % 32 = j := by omega
    rw [e, List.getElem?_map, List.getElem?_range hj.1.1]
    show some (if isRf c j = true then _ else _) = _
    rw [if_pos hj.2, ht]
  simp only [xB, hv]
  exact kk
theorem w_puti (W : WW ad w h) {i k : Nat} (c j : Nat) {x : Int32} (hi : i < 97) (hs : shp i = (0, c, 0)) (hk : k = 32 * c + j) (hj : (Nat.blt j (nfl.getD c 0) && Nat.blt j 32 && !isRf c j) = true) (ho : okF k (.int x)) (kk : ∀ h', WW ad (sn w i j x) h' → xB call cs ga L xs sl mb hands rt Q J is ls s h' bg) : xB call cs ga L xs sl mb hands rt Q J ((.putfield k, z) :: is) ls (.int x :: .ref (ad i) :: s) h bg := by
  simp only [Bool.and_eq_true, Nat.blt_eq, Bool.not_eq_true'] at hj
  have e : k % 32 = j := by omega
  have hv : pF k h (ad i) (.int x) = _ := pF_c (W.obj hi hs) (by omega) (by rw [e, List.length_map, List.length_range]; exact hj.1.1)
  simp only [xB, hv]
  refine ⟨ho, kk _ (W.up ?_ fun a ha => cellOf_eq (fun b => ?_) (fun b => rfl) rfl rfl)⟩
  · rw [cellOf_obj hs, e, map_set]
    refine congrArg Sum.inr (congrArg (Prod.mk c) (congrArg (fun f => List.map f (List.range (nfl.getD c 0))) (funext fun b => ?_)))
    by_cases eb : b = j
    · subst eb
      rw [if_pos rfl, if_neg (by rw [hj.2]; decide), wn_sn, if_pos ⟨rfl, rfl⟩]
    · rw [if_neg eb]
      by_cases er : isRf c b = true
      · rw [if_pos er, if_pos er]
        rfl
      · rw [if_neg er, if_neg er, wn_sn, if_neg (fun q => eb q.2)]
  · rw [wn_sn, if_neg (fun q => ha q.1)]
theorem w_putr (W : WW ad w h) {i k : Nat} (c j t : Nat) (hi : i < 97) (hs : shp i = (0, c, 0)) (hk : k = 32 * c + j) (hj : (Nat.blt j (nfl.getD c 0) && Nat.blt j 32 && isRf c j) = true) (ho : okF k (.ref (ad t))) (hr : ∀ b, rfx (sr w i j t) i b = if b = j then t else rfx w i b) (kk : ∀ h', WW ad (sr w i j t) h' → xB call cs ga L xs sl mb hands rt Q J is ls s h' bg) : xB call cs ga L xs sl mb hands rt Q J ((.putfield k, z) :: is) ls (.ref (ad t) :: .ref (ad i) :: s) h bg := by
  simp only [Bool.and_eq_true, Nat.blt_eq] at hj
  have e : k % 32 = j := by omega
  have hv : pF k h (ad i) (.ref (ad t)) = _ := pF_c (W.obj hi hs) (by omega) (by rw [e, List.length_map, List.length_range]; exact hj.1.1)
  simp only [xB, hv]
  refine ⟨ho, kk _ (W.up ?_ fun a ha => cellOf_eq (fun b => rfl) (fun b => ?_) rfl rfl)⟩
  · rw [cellOf_obj hs, e, map_set]
    refine congrArg Sum.inr (congrArg (Prod.mk c) (congrArg (fun f => List.map f (List.range (nfl.getD c 0))) (funext fun b => ?_)))
    rw [hr]
    by_cases eb : b = j
    · subst eb
      rw [if_pos rfl, if_pos hj.2, if_pos rfl]
    · rw [if_neg eb, if_neg eb]
      rfl
  · rw [wr_sr, if_neg (fun q => ha q.1)]
theorem w_iald (W : WW ad w h) {i n : Nat} (j : Nat) {x : Int32} (hi : i < 97) (hs : shp i = (1, 0, n)) (hx : x = kI j) (hj : j < n) (hn : n ≤ 1000) (kk : xB call cs ga L xs sl mb hands rt Q J is ls (.int (wa w i j) :: s) h bg) : xB call cs ga L xs sl mb hands rt Q J ((.iaload, z) :: is) ls (.int x :: .ref (ad i) :: s) h bg := by
  subst hx
  obtain ⟨h1, h2⟩ := vp_inN hj hn
  simp only [xB, W.iarr hi hs, h2]
  exact ⟨h1, kk⟩
theorem w_lald (W : WW ad w h) {i n : Nat} (j : Nat) {x : Int32} (hi : i < 97) (hs : shp i = (1, 1, n)) (hx : x = kI j) (hj : j < n) (hn : n ≤ 1000) (kk : xB call cs ga L xs sl mb hands rt Q J is ls (.long (wl w i j) :: s) h bg) : xB call cs ga L xs sl mb hands rt Q J ((.laload, z) :: is) ls (.int x :: .ref (ad i) :: s) h bg := by
  subst hx
  obtain ⟨h1, h2⟩ := vp_inN hj hn
  simp only [xB, W.larr hi hs, h2]
  exact ⟨h1, kk⟩
theorem w_bald (W : WW ad w h) {i t n : Nat} (j : Nat) {x : Int32} (hi : i < 97) (hs : shp i = (1, t, n)) (ht : t = 2 ∨ t = 3) (hx : x = kI j) (hj : j < n) (hn : n ≤ 1000) (kk : xB call cs ga L xs sl mb hands rt Q J is ls (.int (wa w i j) :: s) h bg) : xB call cs ga L xs sl mb hands rt Q J ((.baload, z) :: is) ls (.int x :: .ref (ad i) :: s) h bg := by
  subst hx
  obtain ⟨h1, h2⟩ := vp_inN hj hn
  simp only [xB, W.barr hi hs ht]
  rcases ht with rfl | rfl
  · simp only [h2]
    exact ⟨h1, kk⟩
  · simp only [h2]
    exact ⟨h1, kk⟩
theorem w_aald (W : WW ad w h) {i t n : Nat} (j : Nat) {x : Int32} (hi : i < 97) (hs : shp i = (1, t, n)) (ht : 4 ≤ t ∧ t < 7) (hx : x = kI j) (hj : j < n) (hn : n ≤ 1000) (kk : xB call cs ga L xs sl mb hands rt Q J is ls (.ref (ad (rax i j)) :: s) h bg) : xB call cs ga L xs sl mb hands rt Q J ((.aaload, z) :: is) ls (.int x :: .ref (ad i) :: s) h bg := by
  subst hx
  obtain ⟨h1, h2⟩ := vp_inN hj hn
  have hc : h (ad i) = some (.inl (t, n, .inr (.inr (.inr (.inr (fun j => if j < n then some (ad (rax i j)) else none)))))) := by
    rw [W.2 i hi (sh_lt hs (by decide)), cellOf_arr hs, if_neg (by omega), if_neg (by omega)]
  simp only [xB, hc, h2, if_pos hj]
  exact ⟨ht, h1, kk⟩
theorem w_len (W : WW ad w h) {i t n : Nat} (hi : i < 97) (hs : shp i = (1, t, n)) (ht : t < 7) (kk : xB call cs ga L xs sl mb hands rt Q J is ls (.int (Int32.ofNat n) :: s) h bg) : xB call cs ga L xs sl mb hands rt Q J ((.arraylength, z) :: is) ls (.ref (ad i) :: s) h bg := by
  simp only [xB, W.2 i hi (sh_lt hs (by decide)), cellOf_arr hs]
  exact ⟨ht, kk⟩
theorem w_iast (W : WW ad w h) {i n : Nat} (j : Nat) {x v : Int32} (hi : i < 97) (hs : shp i = (1, 0, n)) (hx : x = kI j) (hj : j < n) (hn : n ≤ 1000) (kk : ∀ h', WW ad (sa w i (upd (wa w i) j v)) h' → xB call cs ga L xs sl mb hands rt Q J is ls s h' bg) : xB call cs ga L xs sl mb hands rt Q J ((.iastore, z) :: is) ls (.int v :: .int x :: .ref (ad i) :: s) h bg := by
  subst hx
  obtain ⟨h1, h2⟩ := vp_inN hj hn
  simp only [xB, W.iarr hi hs, h2]
  refine ⟨h1, kk _ (W.up ?_ fun a ha => cellOf_eq (fun b => rfl) (fun b => rfl) ?_ rfl)⟩
  · rw [cellOf_arr hs, wa_sa, if_pos rfl]
    rfl
  · rw [wa_sa, if_neg ha]
theorem w_bast (W : WW ad w h) {i t n : Nat} (j : Nat) {x v : Int32} (hi : i < 97) (hs : shp i = (1, t, n)) (ht : t = 2 ∨ t = 3) (hx : x = kI j) (hj : j < n) (hn : n ≤ 1000) (kk : ∀ h', WW ad (sa w i (upd (wa w i) j (vp_nar (if t = 2 then .boolean else .byte) v))) h' → xB call cs ga L xs sl mb hands rt Q J is ls s h' bg) : xB call cs ga L xs sl mb hands rt Q J ((.bastore, z) :: is) ls (.int v :: .int x :: .ref (ad i) :: s) h bg := by
  subst hx
  obtain ⟨h1, h2⟩ := vp_inN hj hn
  simp only [xB, W.barr hi hs ht]
  rcases ht with rfl | rfl
  · simp only [h2]
    refine ⟨h1, kk _ (W.up ?_ fun a ha => cellOf_eq (fun b => rfl) (fun b => rfl) ?_ rfl)⟩
    · rw [cellOf_arr hs]
      simp [wa_sa]
    · rw [wa_sa, if_neg ha]
  · simp only [h2]
    refine ⟨h1, kk _ (W.up ?_ fun a ha => cellOf_eq (fun b => rfl) (fun b => rfl) ?_ rfl)⟩
    · rw [cellOf_arr hs]
      simp [wa_sa]
    · rw [wa_sa, if_neg ha]
theorem w_last (W : WW ad w h) {i n : Nat} (j : Nat) {x : Int32} {v : Int64} (hi : i < 97) (hs : shp i = (1, 1, n)) (hx : x = kI j) (hj : j < n) (hn : n ≤ 1000) (kk : ∀ h', WW ad (sv w i (vp_updL (wl w i) j v)) h' → xB call cs ga L xs sl mb hands rt Q J is ls s h' bg) : xB call cs ga L xs sl mb hands rt Q J ((.lastore, z) :: is) ls (.long v :: .int x :: .ref (ad i) :: s) h bg := by
  subst hx
  obtain ⟨h1, h2⟩ := vp_inN hj hn
  simp only [xB, W.larr hi hs, h2]
  refine ⟨h1, kk _ (W.up ?_ fun a ha => cellOf_eq (fun b => rfl) (fun b => rfl) rfl ?_)⟩
  · rw [cellOf_arr hs]
    simp [wl_sv]
  · rw [wl_sv, if_neg ha]
theorem w_cpy (W : WW ad w h) {i k n : Nat} {sp dp l : Int32} (hi : i < 97) (hk : k < 97) (hs : shp i = (1, 0, n)) (hs2 : shp k = (1, 0, n)) (h1 : sp = kI 0) (h2 : dp = kI 0) (h3 : l = kI n) (hn : n ≤ 1000) (hst : s.length ≤ 4) (kk : ∀ h', WW ad (sa w k (va_cpy (wa w i) (wa w k) 0 0 n)) h' → xB call cs ga L xs sl mb hands rt Q J is ls s h' bg) : xB call cs ga L xs sl mb hands rt Q J ((.monitorenter, z) :: is) ls (.int l :: .int dp :: .ref (ad k) :: .int sp :: .ref (ad i) :: s) h bg := by
  subst h1 h2 h3
  have e0 : (kI 0).toNatClampNeg = 0 := rfl
  have e1 : (kI (n : Int)).toInt = n := by
    unfold kI
    rw [Int32.toInt_ofInt_of_le] <;> omega
  have e2 : (kI (n : Int)).toNatClampNeg = n := by
    show (kI (n : Int)).toInt.toNat = n
    rw [e1]
    rfl
  simp only [xB, W.iarr hi hs, W.iarr hk hs2, e0, e2]
  refine ⟨hst, by decide, by decide, ?_, by omega, by omega, kk _ (W.up ?_ fun a ha => cellOf_eq (fun b => rfl) (fun b => rfl) ?_ rfl)⟩
  · rw [Int32.lt_iff_toInt_lt, e1]
    have : (0 : Int32).toInt = 0 := rfl
    omega
  · rw [cellOf_arr hs2, wa_sa, if_pos rfl]
    rfl
  · rw [wa_sa, if_neg ha]
end STP
theorem xk_go {call : Nat → List Value → ac_H → ac_P → Prop} {cs : Nat → Nat × Nat} {ga : Nat → Nat} {L : Nat} {xs : Nat → Int32} {sl : Nat → List Int32} {mb : Nat × Nat} {hands : List (Nat × Int)} {rt : Option FieldType} {Q : ac_P} {J : Nat → ac_X} {is : ac_I} {ls : ac_L} {s : List Value} {h : ac_H} {bg : Nat × Nat} {v : Value} (kk : xB call cs ga L xs sl mb hands rt Q J is ls (v :: s) h bg) : xK Q hands (xB call cs ga L xs sl mb hands rt Q J is) ls s bg (.inl (some v)) h := kk
theorem xk_v {call : Nat → List Value → ac_H → ac_P → Prop} {cs : Nat → Nat × Nat} {ga : Nat → Nat} {L : Nat} {xs : Nat → Int32} {sl : Nat → List Int32} {mb : Nat × Nat} {hands : List (Nat × Int)} {rt : Option FieldType} {Q : ac_P} {J : Nat → ac_X} {is : ac_I} {ls : ac_L} {s : List Value} {h : ac_H} {bg : Nat × Nat} (kk : xB call cs ga L xs sl mb hands rt Q J is ls s h bg) : xK Q hands (xB call cs ga L xs sl mb hands rt Q J is) ls s bg (.inl none) h := kk
theorem WP.enter {ga : Nat → Nat} {L : Nat} {xs : Nat → Int32} {d k : Nat} {as : List Value} {h : ac_H} {P : ac_P} {md : ac_M} (hk : methods[k]? = some md) (hl : (entA as).length ≤ mL md) (body : ∀ J : Nat → ac_X, xBody ga L xs (WP ga L xs d) md P J → J 0 (entL as (mL md)) [] h (0, 0)) : WP ga L xs (d + 1) k as h P := ⟨md, hk, hl, body⟩
