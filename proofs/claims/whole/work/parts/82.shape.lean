/-! ===== an answer is of the method's kind ===== -/
def oS (rt : Option FieldType) : ac_O → Prop
  | .inr _ => True
  | .inl (some (.int _)) => ∃ ty, rt = some ty
  | .inl (some (.long _)) => rt = some .long
  | .inl (some (.ref _)) => isR rt
  | .inl none => rt = none
  | _ => False
theorem nrw_some {rt : Option FieldType} {v : Int32} (h : nrw rt v) : ∃ ty, rt = some ty := by
  cases rt with
  | none => exact h.elim
  | some ty => exact ⟨ty, rfl⟩
def isIr : Instr → Bool
  | .ireturn => true
  | _ => false
theorem xB_sh {call : Nat → List Value → ac_H → ac_P → Prop} {cs : Nat → Nat × Nat} {ga : Nat → Nat} {L : Nat} {xs : Nat → Int32} {sl : Nat → List Int32} {mb : Nat × Nat} {hands : List (Nat × Int)} {rt : Option FieldType} {Q Q' : ac_P} {J : Nat → ac_X} (hc : ∀ k as h A B, (∀ o h, A o h → B o h) → call k as h A → call k as h B) {O : ac_O → Prop} (hQ : ∀ o h, O o → Q o h → Q' o h) (Oe : ∀ e, O (.inr e)) (Oh : ∀ e c, hands.lookup e = some c → O (.inl (some (.int (kI c))))) (Ol : ∀ v, rt = some .long → O (.inl (some (.long v)))) (Or' : ∀ v, isR rt → O (.inl (some (.ref v)))) (On : rt = none → O (.inl none)) : ∀ (is : ac_I), ((∀ v, nrw rt v → O (.inl (some (.int v)))) ∨ is.all (fun e => !(isIr e.1)) = true) → ∀ (ls : ac_L) (st : List Value) (h : ac_H) (bg : Nat × Nat), xB call cs ga L xs sl mb hands rt Q J is ls st h bg → xB call cs ga L xs sl mb hands rt Q' J is ls st h bg := by
  intro is
  induction is with
  | nil => intro _ ls st h bg hx; exact hx
  | cons i is ih =>
    obtain ⟨i, n⟩ := i
    intro hI ls st h bg hx
    have ih := ih (hI.imp id (fun g => by
      rw [List.all_cons, Bool.and_eq_true] at g
      exact g.2))
    have hk : ∀ ls s bg o h, xK Q hands (xB call cs ga L xs sl mb hands rt Q J is) ls s bg o h → xK Q' hands (xB call cs ga L xs sl mb hands rt Q' J is) ls s bg o h := by
      intro ls s bg o h hx
      rcases o with (_ | v) | e
      · exact ih _ _ _ _ hx
      · exact ih _ _ _ _ hx
      · unfold xK at hx ⊢
        simp only at hx ⊢
        split
        · rename_i c e1
          rw [e1] at hx
          exact hQ _ _ (Oh _ _ e1) hx
        · rename_i e1
          rw [e1] at hx
          exact hQ _ _ (Oe _) hx
    cases i
    all_goals simp only [xB] at hx ⊢
    all_goals first
      | exact hx
      | exact ih _ _ _ _ hx
      | exact ⟨hx.1, ih _ _ _ _ hx.2⟩
      | skip
    all_goals repeat' (first
      | exact hx.elim
      | exact ih _ _ _ _ hx
      | exact ⟨hx.1, ih _ _ _ _ hx.2⟩
      | exact ⟨hx.1, hc _ _ _ _ _ (hk _ _ _) hx.2⟩
      | exact ⟨hx.1, hQ _ _ (Oe _) hx.2⟩
      | exact ⟨hx.1, fun z => ih _ _ _ _ (hx.2 z)⟩
      | exact ⟨hx.1, fun q hq => ih _ _ _ _ (hx.2 q hq)⟩
      | exact ⟨hx.1, fun q r a b c => ih _ _ _ _ (hx.2 q r a b c)⟩
      | exact ⟨hx.1, hx.2.1, ih _ _ _ _ hx.2.2⟩
      | exact ⟨hx.1, hx.2.1, hc _ _ _ _ _ (hk _ _ _) hx.2.2⟩
      | exact ⟨hx.1, hx.2.1, hQ _ _ (Oe _) hx.2.2⟩
      | exact ⟨hx.1, hx.2.1, fun z => ih _ _ _ _ (hx.2.2 z)⟩
      | exact ⟨hx.1, hx.2.1, fun q hq => ih _ _ _ _ (hx.2.2 q hq)⟩
      | exact ⟨hx.1, hx.2.1, fun q r a b c => ih _ _ _ _ (hx.2.2 q r a b c)⟩
      | exact ⟨hx.1, hx.2.1, hx.2.2.1, ih _ _ _ _ hx.2.2.2⟩
      | exact ⟨hx.1, hx.2.1, hx.2.2.1, hc _ _ _ _ _ (hk _ _ _) hx.2.2.2⟩
      | exact ⟨hx.1, hx.2.1, hx.2.2.1, hQ _ _ (Oe _) hx.2.2.2⟩
      | exact ⟨hx.1, hx.2.1, hx.2.2.1, fun z => ih _ _ _ _ (hx.2.2.2 z)⟩
      | exact ⟨hx.1, hx.2.1, hx.2.2.1, fun q hq => ih _ _ _ _ (hx.2.2.2 q hq)⟩
      | exact ⟨hx.1, hx.2.1, hx.2.2.1, fun q r a b c => ih _ _ _ _ (hx.2.2.2 q r a b c)⟩
      | exact ⟨hx.1, hx.2.1, hx.2.2.1, hx.2.2.2.1, ih _ _ _ _ hx.2.2.2.2⟩
      | exact ⟨hx.1, hx.2.1, hx.2.2.1, hx.2.2.2.1, hc _ _ _ _ _ (hk _ _ _) hx.2.2.2.2⟩
      | exact ⟨hx.1, hx.2.1, hx.2.2.1, hx.2.2.2.1, hQ _ _ (Oe _) hx.2.2.2.2⟩
      | exact ⟨hx.1, hx.2.1, hx.2.2.1, hx.2.2.2.1, fun z => ih _ _ _ _ (hx.2.2.2.2 z)⟩
      | exact ⟨hx.1, hx.2.1, hx.2.2.1, hx.2.2.2.1, fun q hq => ih _ _ _ _ (hx.2.2.2.2 q hq)⟩
      | exact ⟨hx.1, hx.2.1, hx.2.2.1, hx.2.2.2.1, fun q r a b c => ih _ _ _ _ (hx.2.2.2.2 q r a b c)⟩
      | exact ⟨hx.1, hx.2.1, hx.2.2.1, hx.2.2.2.1, hx.2.2.2.2.1, ih _ _ _ _ hx.2.2.2.2.2⟩
      | exact ⟨hx.1, hx.2.1, hx.2.2.1, hx.2.2.2.1, hx.2.2.2.2.1, hc _ _ _ _ _ (hk _ _ _) hx.2.2.2.2.2⟩
      | exact ⟨hx.1, hx.2.1, hx.2.2.1, hx.2.2.2.1, hx.2.2.2.2.1, hQ _ _ (Oe _) hx.2.2.2.2.2⟩
      | exact ⟨hx.1, hx.2.1, hx.2.2.1, hx.2.2.2.1, hx.2.2.2.2.1, fun z => ih _ _ _ _ (hx.2.2.2.2.2 z)⟩
      | exact ⟨hx.1, hx.2.1, hx.2.2.1, hx.2.2.2.1, hx.2.2.2.2.1, fun q hq => ih _ _ _ _ (hx.2.2.2.2.2 q hq)⟩
      | exact ⟨hx.1, hx.2.1, hx.2.2.1, hx.2.2.2.1, hx.2.2.2.2.1, fun q r a b c => ih _ _ _ _ (hx.2.2.2.2.2 q r a b c)⟩
      | exact ⟨hx.1, hx.2.1, hx.2.2.1, hx.2.2.2.1, hx.2.2.2.2.1, hx.2.2.2.2.2.1, ih _ _ _ _ hx.2.2.2.2.2.2⟩
      | exact ⟨hx.1, hx.2.1, hx.2.2.1, hx.2.2.2.1, hx.2.2.2.2.1, hx.2.2.2.2.2.1, hc _ _ _ _ _ (hk _ _ _) hx.2.2.2.2.2.2⟩
      | exact ⟨hx.1, hx.2.1, hx.2.2.1, hx.2.2.2.1, hx.2.2.2.2.1, hx.2.2.2.2.2.1, hQ _ _ (Oe _) hx.2.2.2.2.2.2⟩
      | exact ⟨hx.1, hx.2.1, hx.2.2.1, hx.2.2.2.1, hx.2.2.2.2.1, hx.2.2.2.2.2.1, fun z => ih _ _ _ _ (hx.2.2.2.2.2.2 z)⟩
      | exact ⟨hx.1, hx.2.1, hx.2.2.1, hx.2.2.2.1, hx.2.2.2.2.1, hx.2.2.2.2.2.1, fun q hq => ih _ _ _ _ (hx.2.2.2.2.2.2 q hq)⟩
      | exact ⟨hx.1, hx.2.1, hx.2.2.1, hx.2.2.2.1, hx.2.2.2.2.1, hx.2.2.2.2.2.1, fun q r a b c => ih _ _ _ _ (hx.2.2.2.2.2.2 q r a b c)⟩
      | exact ⟨hx.1, hx.2.1, hx.2.2.1, hx.2.2.2.1, hx.2.2.2.2.1, hx.2.2.2.2.2.1, hx.2.2.2.2.2.2.1, ih _ _ _ _ hx.2.2.2.2.2.2.2⟩
      | exact ⟨hx.1, hx.2.1, hx.2.2.1, hx.2.2.2.1, hx.2.2.2.2.1, hx.2.2.2.2.2.1, hx.2.2.2.2.2.2.1, hc _ _ _ _ _ (hk _ _ _) hx.2.2.2.2.2.2.2⟩
      | exact ⟨hx.1, hx.2.1, hx.2.2.1, hx.2.2.2.1, hx.2.2.2.2.1, hx.2.2.2.2.2.1, hx.2.2.2.2.2.2.1, hQ _ _ (Oe _) hx.2.2.2.2.2.2.2⟩
      | exact ⟨hx.1, hx.2.1, hx.2.2.1, hx.2.2.2.1, hx.2.2.2.2.1, hx.2.2.2.2.2.1, hx.2.2.2.2.2.2.1, fun z => ih _ _ _ _ (hx.2.2.2.2.2.2.2 z)⟩
      | exact ⟨hx.1, hx.2.1, hx.2.2.1, hx.2.2.2.1, hx.2.2.2.2.1, hx.2.2.2.2.2.1, hx.2.2.2.2.2.2.1, fun q hq => ih _ _ _ _ (hx.2.2.2.2.2.2.2 q hq)⟩
      | exact ⟨hx.1, hx.2.1, hx.2.2.1, hx.2.2.2.1, hx.2.2.2.2.1, hx.2.2.2.2.2.1, hx.2.2.2.2.2.2.1, fun q r a b c => ih _ _ _ _ (hx.2.2.2.2.2.2.2 q r a b c)⟩
      | exact ⟨hx.1, hQ _ _ (hI.elim (fun g => g _ hx.1) (fun g => by simp [isIr] at g)) hx.2⟩
      | exact ⟨hx.1, hQ _ _ (Ol _ hx.1) hx.2⟩
      | exact ⟨hx.1, hQ _ _ (Or' _ hx.1) hx.2⟩
      | exact ⟨hx.1, hQ _ _ (On hx.1) hx.2⟩
      | split at hx)
    all_goals first
      | exact hx
      | exact (match hx with | ⟨t, a, b, c, g⟩ => ⟨t, a, b, c, ih _ _ _ _ g⟩)
      | exact (match hx with | ⟨t, a, b, c, e, g⟩ => ⟨t, a, b, c, e, ih _ _ _ _ g⟩)
theorem WP.mono {ga : Nat → Nat} {L : Nat} {xs : Nat → Int32} : ∀ (d k : Nat) (as : List Value) (h : ac_H) (A B : ac_P), (∀ o h, A o h → B o h) → WP ga L xs d k as h A → WP ga L xs d k as h B
  | 0, _, _, _, _, _, _, hw => hw
  | d + 1, k, as, h, A, B, hAB, hw => by
    obtain ⟨md, hm, hl, hJ⟩ := hw
    exact ⟨md, hm, hl, fun J hB => hJ J (fun b pb is hb ls st h bg hx => hB b pb is hb ls st h bg (xB_sh (fun k as h A B => WP.mono d k as h A B) (O := fun _ => True) (fun o h _ => hAB o h) (fun _ => trivial) (fun _ _ _ => trivial) (fun _ _ => trivial) (fun _ _ => trivial) (fun _ => trivial) is (Or.inl (fun _ _ => trivial)) ls st h bg hx))⟩
theorem WP.shape {ga : Nat → Nat} {L : Nat} {xs : Nat → Int32} {d k : Nat} {as : List Value} {h : ac_H} {P : ac_P} {md : ac_M} (hm : methods[k]? = some md) (hh : mH md = []) (hw : WP ga L xs (d + 1) k as h (fun o h => oS (mR md) o → P o h)) : WP ga L xs (d + 1) k as h P := by
  obtain ⟨md', hm', hl, hJ⟩ := hw
  cases Option.some.inj (hm.symm.trans hm')
  exact ⟨md, hm, hl, fun J hB => hJ J (fun b pb is hb ls st h bg hx => hB b pb is hb ls st h bg (xB_sh (fun k as h A B => WP.mono d k as h A B) (O := oS (mR md)) (fun o h hs hq => hq hs) (fun _ => trivial) (fun e c he => by rw [hh] at he; cases he) (fun _ h => h) (fun _ h => h) (fun h => h) is (Or.inl (fun v hv => nrw_some hv)) ls st h bg hx))⟩
def oL : ac_O → Prop
  | .inr _ => True
  | .inl (some (.long _)) => True
  | _ => False
theorem WP.shapeL {ga : Nat → Nat} {L : Nat} {xs : Nat → Int32} {d k : Nat} {as : List Value} {h : ac_H} {P : ac_P} {md : ac_M} (hm : methods[k]? = some md) (hh : mH md = []) (hr : mR md = some .long) (hi : (mS md).all (fun q => q.2.all (fun e => !(isIr e.1))) = true) (hw : WP ga L xs (d + 1) k as h (fun o h => oL o → P o h)) : WP ga L xs (d + 1) k as h P := by
  obtain ⟨md', hm', hl, hJ⟩ := hw
  cases Option.some.inj (hm.symm.trans hm')
  refine ⟨md, hm, hl, fun J hB => hJ J (fun b pb is hb ls st h bg hx => hB b pb is hb ls st h bg (xB_sh (fun k as h A B => WP.mono d k as h A B) (O := oL) (fun o h hs hq => hq hs) (fun _ => trivial) (fun e c he => by rw [hh] at he; cases he) (fun _ _ => trivial) (fun _ h => ?_) (fun h => ?_) is (Or.inr (List.all_eq_true.mp hi _ (List.mem_of_getElem? hb))) ls st h bg hx))⟩
  · rcases h with ⟨_, h⟩ | ⟨_, h⟩ <;> rw [hr] at h <;> cases h
  · rw [hr] at h; cases h
def isI (rt : Option FieldType) : Prop := rt = some .int ∨ rt = some .boolean
theorem KQm.int {ad : Nat → Nat} {P : ac_P} {w : Wst} {T : Nat} {R : Int32} {S S' : StT} {rt : Option FieldType} (hr : isI rt) (kk : ∀ (h' : ac_H) (w' : Wst) (x : Int32), WW ad w' h' → kml w w' → (T = 0 → RMo w' S') → (¬ T = 0 → RMo w' S) → wn w' 80 4 = kI (T : Int) → (T = 0 → x = R) → P (.inl (some (.int x))) h') : KQm ad (fun o h => oS rt o → P o h) w T (some (.int R)) S S' := fun h' w' v W' k y n f e hs => by
  rcases v with _ | v
  · have hs : rt = none := hs
    rcases hr with hr | hr <;> rw [hr] at hs <;> cases hs
  · cases v with
    | int x => exact kk h' w' x W' k y n f (fun hT => by cases (e hT); rfl)
    | long x =>
      have hs : rt = some .long := hs
      rcases hr with hr | hr <;> rw [hr] at hs <;> cases hs
    | ref x =>
      have hs : isR rt := hs
      rcases hs with ⟨_, hs⟩ | ⟨_, hs⟩ <;> rcases hr with hr | hr <;> rw [hr] at hs <;> cases hs
    | _ => exact hs.elim
theorem KQm.long {ad : Nat → Nat} {P : ac_P} {w : Wst} {T : Nat} {R : Int64} {S S' : StT} (kk : ∀ (h' : ac_H) (w' : Wst) (x : Int64), WW ad w' h' → kml w w' → (T = 0 → RMo w' S') → (¬ T = 0 → RMo w' S) → wn w' 80 4 = kI (T : Int) → (T = 0 → x = R) → P (.inl (some (.long x))) h') : KQm ad (fun o h => oL o → P o h) w T (some (.long R)) S S' := fun h' w' v W' k y n f e hs => by
  rcases v with _ | v
  · exact hs.elim
  · cases v with
    | long x => exact kk h' w' x W' k y n f (fun hT => by cases (e hT); rfl)
    | _ => exact hs.elim
theorem KQm.void {ad : Nat → Nat} {P : ac_P} {w : Wst} {T : Nat} {S S' : StT} {rt : Option FieldType} (hr : rt = none) (kk : ∀ (h' : ac_H) (w' : Wst), WW ad w' h' → kml w w' → (T = 0 → RMo w' S') → (¬ T = 0 → RMo w' S) → wn w' 80 4 = kI (T : Int) → P (.inl none) h') : KQm ad (fun o h => oS rt o → P o h) w T none S S' := fun h' w' v W' k y n f e hs => by
  subst hr
  rcases v with _ | v
  · exact kk h' w' W' k y n f
  · cases v with
    | int x => obtain ⟨_, hs⟩ := hs; cases hs
    | long x => cases hs
    | ref x => rcases hs with ⟨_, hs⟩ | ⟨_, hs⟩ <;> cases hs
    | _ => exact hs.elim
