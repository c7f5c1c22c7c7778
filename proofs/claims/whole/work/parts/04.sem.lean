/-! ===== the abstract machine: a predicate transformer over the printed code (abstract: indices renumbered by program, blocks by number) ===== -/
abbrev ac_C : Type := (Nat × vp_A) ⊕ (Nat × List Value)
abbrev ac_H : Type := Nat → Option ac_C
abbrev ac_O : Type := Option Value ⊕ Nat
abbrev ac_P : Type := ac_O → ac_H → Prop
abbrev ac_L : Type := List (Option Value)
abbrev ac_X : Type := ac_L → List Value → ac_H → Nat × Nat → Prop
abbrev ac_I : Type := List (Instr × Nat)
def hup (h : ac_H) (a : Nat) (c : ac_C) : ac_H := fun x => if x = a then some c else h x
def gI : ac_L → Nat → Option Value
  | [], _ => none
  | v :: _, 0 => v
  | _ :: l, n + 1 => gI l n
def sI : ac_L → Nat → Option Value → ac_L
  | [], _, _ => []
  | _ :: l, 0, x => x :: l
  | v :: l, n + 1, x => v :: sI l n x
def cat2 : Option Value → Bool
  | some (.long _) => true
  | some (.double _) => true
  | _ => false
/-- the place below i holds nothing of two slots -/
def low1 (ls : ac_L) : Nat → Bool
  | 0 => true
  | j + 1 => !(cat2 (gI ls j))
def popn : Nat → List Value → List Value → Option (List Value × List Value)
  | 0, st, as => some (as, st)
  | n + 1, v :: st, as => popn n st (v :: as)
  | _ + 1, [], _ => none
def kI (n : Int) : Int32 := Int32.ofInt n
def cI (c : ClassFile.Cond) (x y : Int32) : Prop := match c with
  | .eq => x = y
  | .ne => ¬ x = y
  | .lt => x < y
  | .ge => y ≤ x
  | .gt => y < x
  | .le => x ≤ y
/-- the fields of the eight classes, by number -/
def fty (k : Nat) : FieldType := match k / 32 with
  | 0 => tyX0 (k % 32)
  | 1 => tyX1 (k % 32)
  | 2 => tyX2 (k % 32)
  | 3 => tyX3 (k % 32)
  | 4 => tyX4 (k % 32)
  | 5 => tyX5 (k % 32)
  | 6 => tyX6 (k % 32)
  | _ => tyX7 (k % 32)
def gF (k : Nat) (h : ac_H) (a : Nat) : Option Value := match h a with
  | some (.inr (c, fs)) => if c = k / 32 then fs[k % 32]? else none
  | _ => none
def pF (k : Nat) (h : ac_H) (a : Nat) (v : Value) : Option ac_H := match h a with
  | some (.inr (c, fs)) => if c = k / 32 ∧ k % 32 < fs.length then some (hup h a (.inr (c, fs.set (k % 32) v))) else none
  | _ => none
def okF (k : Nat) (v : Value) : Prop := narrow (fty k) v = v ∧ fits (fty k) v = true
def dfl : FieldType → Value := defaultValue
def nfl : List Nat := [14, 6, 9, 4, 2, 6, 12, 28]
def dflt (c : Nat) : List Value := (List.range (nfl.getD c 0)).map (fun j => defaultValue (fty (32 * c + j)))
def isO (h : ac_H) (v : Option Value) (c : Nat) : Prop := match v with
  | some (.ref a) => ∃ fs, h a = some (.inr (c, fs))
  | _ => False
def nrw (rt : Option FieldType) (v : Int32) : Prop := match rt with
  | some ty => narrow ty (.int v) = .int v
  | none => False
def isR (rt : Option FieldType) : Prop := (∃ n, rt = some (.object n)) ∨ ∃ t, rt = some (.array t)
def aty : Nat → FieldType
  | 0 => .int
  | 1 => .long
  | 2 => .boolean
  | 3 => .byte
  | 4 => .array .int
  | 5 => .object RX3
  | _ => .object RX0
def leastN : List Int32 := [0, 0, 0, 0, 0, 0, 1, 0, 0, 0, 0]
def mostN : List Int32 := [0, 0, 0, 0, 12, 12, 12, 12, 12, 6, 0]
def tsel (x : Int32) (d lo hi : Int) (offs : Array Int) : Option Int := if x.toInt < lo ∨ hi < x.toInt then some d else offs[(x.toInt - lo).toNat]?
/-- a call's outcome: on with the answer, or thrown: caught here (the handler answers a constant), or on to the caller -/
def xK (Q : ac_P) (hands : List (Nat × Int)) (k : ac_X) (ls : ac_L) (rest : List Value) (bg : Nat × Nat) : ac_P
  | .inl none, h => k ls rest h bg
  | .inl (some v), h => k ls (v :: rest) h bg
  | .inr e, h => match hands.lookup e with
    | some c => Q (.inl (some (.int (kI c)))) h
    | none => Q (.inr e) h
def bgle (a b : Nat × Nat) : Prop := a.1 ≤ b.1 ∧ a.2 ≤ b.2
def bgad (a b : Nat × Nat) : Nat × Nat := (a.1 + b.1, a.2 + b.2)
def hgr (h : ac_H) (l : List Nat) (c : ac_C) : ac_H := fun x => if x ∈ l then some c else h x
section XB
variable (call : Nat → List Value → ac_H → ac_P → Prop) (cst : Nat → Nat × Nat) (ga : Nat → Nat) (L : Nat) (xs : Nat → Int32) (sl : Nat → List Int32) (mb : Nat × Nat) (hands : List (Nat × Int)) (rt : Option FieldType) (Q : ac_P) (J : Nat → ac_X)
def xB : ac_I → ac_X
  | [], _, _, _, _ => False
  | (i, _) :: is, ls, st, h, bg => match i with
    | .sipush n => xB is ls (.int (kI n) :: st) h bg
    | .ldc2_w n => xB is ls (.long (Int64.ofNat n) :: st) h bg
    | .ldc n => xB is ls (.ref (ga (3 + n)) :: st) h bg
    | .getstatic n => xB is ls (.ref (ga (1 + n)) :: st) h bg
    | .iload n => (match gI ls n with | some (.int x) => xB is ls (.int x :: st) h bg | _ => False)
    | .lload n => (match gI ls n with | some (.long x) => xB is ls (.long x :: st) h bg | _ => False)
    | .aload n => (match gI ls n with | some (.ref x) => xB is ls (.ref x :: st) h bg | _ => False)
    | .istore n => (match st with | .int x :: s => low1 ls n = true ∧ xB is (sI ls n (some (.int x))) s h bg | _ => False)
    | .astore n => (match st with | .ref x :: s => low1 ls n = true ∧ xB is (sI ls n (some (.ref x))) s h bg | _ => False)
    | .lstore n => (match st with | .long x :: s => low1 ls n = true ∧ xB is (sI (sI ls n (some (.long x))) (n + 1) none) s h bg | _ => False)
    | .iinc n k => (match gI ls n with | some (.int x) => low1 ls n = true ∧ xB is (sI ls n (some (.int (x + kI k)))) st h bg | _ => False)
    | .iadd => (match st with | .int y :: .int x :: s => xB is ls (.int (x + y) :: s) h bg | _ => False)
    | .isub => (match st with | .int y :: .int x :: s => xB is ls (.int (x - y) :: s) h bg | _ => False)
    | .imul => (match st with | .int y :: .int x :: s => xB is ls (.int (x * y) :: s) h bg | _ => False)
    | .iand => (match st with | .int y :: .int x :: s => xB is ls (.int (x &&& y) :: s) h bg | _ => False)
    | .ior => (match st with | .int y :: .int x :: s => xB is ls (.int (x ||| y) :: s) h bg | _ => False)
    | .ixor => (match st with | .int y :: .int x :: s => xB is ls (.int (x ^^^ y) :: s) h bg | _ => False)
    | .ishl => (match st with | .int y :: .int x :: s => xB is ls (.int (x <<< (y &&& 31)) :: s) h bg | _ => False)
    | .ishr => (match st with | .int y :: .int x :: s => xB is ls (.int (x >>> (y &&& 31)) :: s) h bg | _ => False)
    | .iushr => (match st with | .int y :: .int x :: s => xB is ls (.int ((x.toUInt32 >>> (y.toUInt32 &&& Int32.toUInt32 31)).toInt32) :: s) h bg | _ => False)
    | .idiv => (match st with | .int y :: .int x :: s => ¬ y = 0 ∧ xB is ls (.int (x / y) :: s) h bg | _ => False)
    | .irem => (match st with | .int y :: .int x :: s => ¬ y = 0 ∧ xB is ls (.int (x - x / y * y) :: s) h bg | _ => False)
    | .ineg => (match st with | .int x :: s => xB is ls (.int (-x) :: s) h bg | _ => False)
    | .ladd => (match st with | .long y :: .long x :: s => xB is ls (.long (x + y) :: s) h bg | _ => False)
    | .lsub => (match st with | .long y :: .long x :: s => xB is ls (.long (x - y) :: s) h bg | _ => False)
    | .lmul => (match st with | .long y :: .long x :: s => xB is ls (.long (x * y) :: s) h bg | _ => False)
    | .land => (match st with | .long y :: .long x :: s => xB is ls (.long (x &&& y) :: s) h bg | _ => False)
    | .lor => (match st with | .long y :: .long x :: s => xB is ls (.long (x ||| y) :: s) h bg | _ => False)
    | .lxor => (match st with | .long y :: .long x :: s => xB is ls (.long (x ^^^ y) :: s) h bg | _ => False)
    | .ldiv => (match st with | .long y :: .long x :: s => ¬ y = 0 ∧ xB is ls (.long (x / y) :: s) h bg | _ => False)
    | .lrem => (match st with | .long y :: .long x :: s => ¬ y = 0 ∧ xB is ls (.long (x - x / y * y) :: s) h bg | _ => False)
    | .lcmp => (match st with | .long y :: .long x :: s => xB is ls (.int (lg_cmp x y) :: s) h bg | _ => False)
    | .lshl => (match st with | .int y :: .long x :: s => xB is ls (.long (x <<< (y.toInt64 &&& 63)) :: s) h bg | _ => False)
    | .lshr => (match st with | .int y :: .long x :: s => xB is ls (.long (x >>> (y.toInt64 &&& 63)) :: s) h bg | _ => False)
    | .i2l => (match st with | .int x :: s => xB is ls (.long x.toInt64 :: s) h bg | _ => False)
    | .l2i => (match st with | .long x :: s => xB is ls (.int x.toInt32 :: s) h bg | _ => False)
    | .i2b => (match st with | .int x :: s => xB is ls (.int (x.toInt8.toInt32) :: s) h bg | _ => False)
    | .i2s => (match st with | .int x :: s => xB is ls (.int (x.toInt16.toInt32) :: s) h bg | _ => False)
    | .i2c => (match st with | .int x :: s => xB is ls (.int ((x.toUInt32 % 65536).toInt32) :: s) h bg | _ => False)
    | .dup => (match st with | .int x :: s => xB is ls (.int x :: .int x :: s) h bg | .ref x :: s => xB is ls (.ref x :: .ref x :: s) h bg | _ => False)
    | .pop => (match st with | .int x :: s => xB is ls s h bg | .ref x :: s => xB is ls s h bg | _ => False)
    | .pop2 => (match st with | .long x :: s => xB is ls s h bg | _ => False)
    | .dup2 => (match st with | .int y :: .ref x :: s => xB is ls (.int y :: .ref x :: .int y :: .ref x :: s) h bg | .long x :: s => xB is ls (.long x :: .long x :: s) h bg | _ => False)
    | .iaload => (match st with | .int i :: .ref a :: s => (match h a with | some (.inl (0, n, .inl f)) => vp_in i n ∧ xB is ls (.int (f i.toNatClampNeg) :: s) h bg | _ => False) | _ => False)
    | .laload => (match st with | .int i :: .ref a :: s => (match h a with | some (.inl (1, n, .inr (.inl f))) => vp_in i n ∧ xB is ls (.long (f i.toNatClampNeg) :: s) h bg | _ => False) | _ => False)
    | .baload => (match st with | .int i :: .ref a :: s => (match h a with | some (.inl (2, n, .inl f)) => vp_in i n ∧ xB is ls (.int (f i.toNatClampNeg) :: s) h bg | some (.inl (3, n, .inl f)) => vp_in i n ∧ xB is ls (.int (f i.toNatClampNeg) :: s) h bg | _ => False) | _ => False)
    | .aaload => (match st with | .int i :: .ref a :: s => (match h a with | some (.inl (t, n, .inr (.inr (.inr (.inr f))))) => (4 ≤ t ∧ t < 7) ∧ vp_in i n ∧ (match f i.toNatClampNeg with | some q => xB is ls (.ref q :: s) h bg | none => False) | _ => False) | _ => False)
    | .iastore => (match st with | .int x :: .int i :: .ref a :: s => (match h a with | some (.inl (0, n, .inl f)) => vp_in i n ∧ xB is ls s (hup h a (.inl (0, n, .inl (upd f i.toNatClampNeg x)))) bg | _ => False) | _ => False)
    | .lastore => (match st with | .long x :: .int i :: .ref a :: s => (match h a with | some (.inl (1, n, .inr (.inl f))) => vp_in i n ∧ xB is ls s (hup h a (.inl (1, n, .inr (.inl (vp_updL f i.toNatClampNeg x))))) bg | _ => False) | _ => False)
    | .bastore => (match st with | .int x :: .int i :: .ref a :: s => (match h a with | some (.inl (2, n, .inl f)) => vp_in i n ∧ xB is ls s (hup h a (.inl (2, n, .inl (upd f i.toNatClampNeg (vp_nar .boolean x))))) bg | some (.inl (3, n, .inl f)) => vp_in i n ∧ xB is ls s (hup h a (.inl (3, n, .inl (upd f i.toNatClampNeg (vp_nar .byte x))))) bg | _ => False) | _ => False)
    | .aastore => (match st with | .ref v :: .int i :: .ref a :: s => (match h a with | some (.inl (t, n, .inr (.inr (.inr (.inr f))))) => ((t = 5 ∧ isO h (some (.ref v)) 3) ∨ (t = 6 ∧ isO h (some (.ref v)) 0)) ∧ vp_in i n ∧ xB is ls s (hup h a (.inl (t, n, .inr (.inr (.inr (.inr (va_up f i.toNatClampNeg (some v)))))))) bg | _ => False) | _ => False)
    | .arraylength => (match st with | .ref a :: s => (match h a with | some (.inl (t, x)) => t < 7 ∧ xB is ls (.int (Int32.ofNat x.1) :: s) h bg | _ => False) | _ => False)
    | .faload => (match st with | .int i :: .ref a :: s => a = ga 0 ∧ vp_in i L ∧ xB is ls (.int (xs i.toNatClampNeg) :: s) h bg | _ => False)
    | .caload => (match st with | .ref a :: s => a = ga 0 ∧ xB is ls (.int (Int32.ofNat L) :: s) h bg | _ => False)
    | .daload => (match st with | .int i :: .ref a :: s => a = ga 1 ∧ vp_in i 11 ∧ xB is ls (.int (leastN.getD i.toNatClampNeg 0) :: s) h bg | _ => False)
    | .saload => (match st with | .int i :: .ref a :: s => a = ga 2 ∧ vp_in i 11 ∧ xB is ls (.int (mostN.getD i.toNatClampNeg 0) :: s) h bg | _ => False)
    | .invokedynamic w => (match w, st with | 0, .ref a :: s => ∃ t, t < 17 ∧ a = ga (3 + t) ∧ s.length ≤ 4 ∧ xB is ls (.int (Int32.ofNat (sl t).length) :: s) h bg | 1, .int i :: .ref a :: s => ∃ t, t < 17 ∧ a = ga (3 + t) ∧ vp_in i (sl t).length ∧ s.length ≤ 4 ∧ xB is ls (.int ((sl t).getD i.toNatClampNeg 0) :: s) h bg | _, _ => False)
    | .getfield k => (match st with | .ref a :: s => (match gF k h a with | some v => xB is ls (v :: s) h bg | none => False) | _ => False)
    | .putfield k => (match st with | v :: .ref a :: s => okF k v ∧ (match pF k h a v with | some h1 => xB is ls s h1 bg | none => False) | _ => False)
    | .new k => bgle (bgad bg (1, nfl.getD k 0)) mb ∧ ∀ q, h q = none → xB is ls (.ref q :: st) (hup h q (.inr (k, dflt k))) (bgad bg (1, nfl.getD k 0))
    | .newarray ty => (match st with
      | .int n :: s => ¬ n < 0 ∧ n.toNatClampNeg ≤ 100000 ∧ bgle (bgad bg (1, n.toNatClampNeg)) mb ∧ ∀ q, h q = none → (match ty with
        | .int => xB is ls (.ref q :: s) (hup h q (.inl (0, n.toNatClampNeg, .inl (fun _ => 0)))) (bgad bg (1, n.toNatClampNeg))
        | .long => xB is ls (.ref q :: s) (hup h q (.inl (1, n.toNatClampNeg, .inr (.inl (fun _ => 0))))) (bgad bg (1, n.toNatClampNeg))
        | .boolean => xB is ls (.ref q :: s) (hup h q (.inl (2, n.toNatClampNeg, .inl (fun _ => 0)))) (bgad bg (1, n.toNatClampNeg))
        | .byte => xB is ls (.ref q :: s) (hup h q (.inl (3, n.toNatClampNeg, .inl (fun _ => 0)))) (bgad bg (1, n.toNatClampNeg))
        | _ => False)
      | _ => False)
    | .anewarray t => (match st with | .int n :: s => (t = 5 ∨ t = 6) ∧ ¬ n < 0 ∧ n.toNatClampNeg ≤ 100000 ∧ bgle (bgad bg (1, n.toNatClampNeg)) mb ∧ ∀ q, h q = none → xB is ls (.ref q :: s) (hup h q (.inl (t, n.toNatClampNeg, .inr (.inr (.inr (.inr (fun _ => none))))))) (bgad bg (1, n.toNatClampNeg)) | _ => False)
    | .swap => (match st with | .int k :: .int n :: s => ¬ n < 0 ∧ ¬ k < 0 ∧ n.toNatClampNeg ≤ 1000 ∧ k.toNatClampNeg ≤ 1000 ∧ bgle (bgad bg (1 + n.toNatClampNeg, n.toNatClampNeg + n.toNatClampNeg * k.toNatClampNeg)) mb ∧ ∀ (q : Nat) (r : Nat → Nat), h q = none → (∀ i, i < n.toNatClampNeg → h (r i) = none ∧ r i ≠ q) → (∀ i j, i < n.toNatClampNeg → j < n.toNatClampNeg → r i = r j → i = j) → xB is ls (.ref q :: s) (hup (hgr h ((List.range n.toNatClampNeg).map r) (.inl (0, k.toNatClampNeg, .inl (fun _ => 0)))) q (.inl (4, n.toNatClampNeg, .inr (.inr (.inr (.inr (fun i => if i < n.toNatClampNeg then some (r i) else none))))))) (bgad bg (1 + n.toNatClampNeg, n.toNatClampNeg + n.toNatClampNeg * k.toNatClampNeg)) | _ => False)
    | .monitorexit => (match st with | .ref a :: s => s.length ≤ 4 ∧ xB is ls s h bg | _ => False)
    | .monitorenter => (match st with | .int n :: .int dp :: .ref b :: .int sp :: .ref a :: s => (match h a, h b with | some (.inl (0, n0, .inl f)), some (.inl (0, n1, .inl g)) => s.length ≤ 4 ∧ ¬ sp < 0 ∧ ¬ dp < 0 ∧ ¬ n < 0 ∧ sp.toNatClampNeg + n.toNatClampNeg ≤ n0 ∧ dp.toNatClampNeg + n.toNatClampNeg ≤ n1 ∧ xB is ls s (hup h b (.inl (0, n1, .inl (va_cpy f g sp.toNatClampNeg dp.toNatClampNeg n.toNatClampNeg)))) bg | _, _ => False) | _ => False)
    | .instanceof k => bgle (bgad bg (1, 6)) mb ∧ st.length ≤ 4 ∧ k < 4 ∧ Q (.inr k) h
    | .multianewarray k d => (match popn (d / 16) st [] with | some (as, s) => s.length ≤ 4 ∧ isO h as.head? (d % 16) ∧ call k as h (xK Q hands (xB is) ls s bg) | none => False)
    | .invokeinterface k d => (match popn d st [] with | some (as, s) => s.length ≤ 4 ∧ call k as h (xK Q hands (xB is) ls s bg) | none => False)
    | .putstatic k => (match popn (k / 16 % 16) st [] with | some (as, s) => s.length ≤ 4 ∧ isO h as.head? (k % 16) ∧ bgle (bgad bg (cst (k / 256))) mb ∧ call (k / 256) as h (xK Q hands (xB is) ls s (bgad bg (cst (k / 256)))) | none => False)
    | .ret k => (match popn (k % 16) st [] with | some (as, s) => s.length ≤ 4 ∧ bgle (bgad bg (cst (k / 16))) mb ∧ call (k / 16) as h (xK Q hands (xB is) ls s (bgad bg (cst (k / 16)))) | none => False)
    | .dload k => (match popn (k % 16) st [] with | some (.ref a :: as, s) => s.length ≤ 4 ∧ bgle (bgad bg (cst (k / 16))) mb ∧ call (k / 16) (.ref a :: as) h (xK Q hands (xB is) ls s (bgad bg (cst (k / 16)))) | _ => False)
    | .goto b => J b.toNat ls st h bg
    | .ifCond c b => (match st with | .int x :: s => (cI c x 0 → J b.toNat ls s h bg) ∧ (¬ cI c x 0 → xB is ls s h bg) | _ => False)
    | .if_icmp c b => (match st with | .int y :: .int x :: s => (cI c x y → J b.toNat ls s h bg) ∧ (¬ cI c x y → xB is ls s h bg) | _ => False)
    | .tableswitch d lo hi offs => (match st with | .int x :: s => (match tsel x d lo hi offs with | some b => J b.toNat ls s h bg | none => False) | _ => False)
    | .lookupswitch d ps => (match st with | .int x :: s => J (Op.lookupswitch.offset ps.toList d x.toInt).toNat ls s h bg | _ => False)
    | .ireturn => (match st with | [.int v] => nrw rt v ∧ Q (.inl (some (.int v))) h | _ => False)
    | .lreturn => (match st with | [.long v] => rt = some .long ∧ Q (.inl (some (.long v))) h | _ => False)
    | .areturn => (match st with | [.ref a] => isR rt ∧ Q (.inl (some (.ref a))) h | _ => False)
    | .return_ => (match st with | [] => rt = none ∧ Q (.inl none) h | _ => False)
    | _ => False
end XB
