/-! ===== an answer is of the method's kind ===== -/
def oS (rt : Option FieldType) : ac_O → Prop
  | .inr _ => True
  | .inl (some (.int _)) => True
  | .inl (some (.long _)) => rt = some .long
  | .inl (some (.ref _)) => isR rt
  | .inl none => rt = none
  | _ => False
theorem xB_sh {call : Nat → List Value → ac_H → ac_P → Prop} {cs : Nat → Nat × Nat} {ga : Nat → Nat} {L : Nat} {xs : Nat → Int32} {sl : Nat → List Int32} {mb : Nat × Nat} {hands : List (Nat × Int)} {rt : Option FieldType} {Q Q' : ac_P} {J : Nat → ac_X} (hc : ∀ k as h A B, (∀ o h, A o h → B o h) → call k as h A → call k as h B) (hQ : ∀ o h, oS rt o → Q o h → Q' o h) : ∀ (is : ac_I) (ls : ac_L) (st : List Value) (h : ac_H) (bg : Nat × Nat), xB call cs ga L xs sl mb hands rt Q J is ls st h bg → xB call cs ga L xs sl mb hands rt Q' J is ls st h bg := by
  intro is
  induction is with
  | nil => intro ls st h bg hx; exact hx
  | cons i is ih =>
    obtain ⟨i, n⟩ := i
    intro ls st h bg hx
    have hk : ∀ ls s bg o h, xK Q hands (xB call cs ga L xs sl mb hands rt Q J is) ls s bg o h → xK Q' hands (xB call cs ga L xs sl mb hands rt Q' J is) ls s bg o h := by
      intro ls s bg o h hx
      rcases o with (_ | v) | e
      · exact ih _ _ _ _ hx
      · exact ih _ _ _ _ hx
      · unfold xK at hx ⊢
        simp only at hx ⊢
        split
        · rename_i c e1
          rw [e1] at hx
          exact hQ _ _ trivial hx
        · rename_i e1
          rw [e1] at hx
          exact hQ _ _ trivial hx
    cases i
    all_goals simp only [xB] at hx ⊢
    all_goals first
      | exact hx
      | exact ih _ _ _ _ hx
      | exact ⟨hx.1, ih _ _ _ _ hx.2⟩
      | skip
    all_goals repeat' (first
      | exact hx.elim
      | exact ih _ _ _ _ hx
      | exact ⟨hx.1, ih _ _ _ _ hx.2⟩
      | exact ⟨hx.1, hc _ _ _ _ _ (hk _ _ _) hx.2⟩
      | exact ⟨hx.1, hQ _ _ trivial hx.2⟩
      | exact ⟨hx.1, fun z => ih _ _ _ _ (hx.2 z)⟩
      | exact ⟨hx.1, fun q hq => ih _ _ _ _ (hx.2 q hq)⟩
      | exact ⟨hx.1, fun q r a b c => ih _ _ _ _ (hx.2 q r a b c)⟩
      | exact ⟨hx.1, hx.2.1, ih _ _ _ _ hx.2.2⟩
      | exact ⟨hx.1, hx.2.1, hc _ _ _ _ _ (hk _ _ _) hx.2.2⟩
      | exact ⟨hx.1, hx.2.1, hQ _ _ trivial hx.2.2⟩
      | exact ⟨hx.1, hx.2.1, fun z => ih _ _ _ _ (hx.2.2 z)⟩
      | exact ⟨hx.1, hx.2.1, fun q hq => ih _ _ _ _ (hx.2.2 q hq)⟩
      | exact ⟨hx.1, hx.2.1, fun q r a b c => ih _ _ _ _ (hx.2.2 q r a b c)⟩
      | exact ⟨hx.1, hx.2.1, hx.2.2.1, ih _ _ _ _ hx.2.2.2⟩
      | exact ⟨hx.1, hx.2.1, hx.2.2.1, hc _ _ _ _ _ (hk _ _ _) hx.2.2.2⟩
      | exact ⟨hx.1, hx.2.1, hx.2.2.1, hQ _ _ trivial hx.2.2.2⟩
      | exact ⟨hx.1, hx.2.1, hx.2.2.1, fun z => ih _ _ _ _ (hx.2.2.2 z)⟩
      | exact ⟨hx.1, hx.2.1, hx.2.2.1, fun q hq => ih _ _ _ _ (hx.2.2.2 q hq)⟩
      | exact ⟨hx.1, hx.2.1, hx.2.2.1, fun q r a b c => ih _ _ _ _ (hx.2.2.2 q r a b c)⟩
      | exact ⟨hx.1, hx.2.1, hx.2.2.1, hx.2.2.2.1, ih _ _ _ _ hx.2.2.2.2⟩
      | exact ⟨hx.1, hx.2.1, hx.2.2.1, hx.2.2.2.1, hc _ _ _ _ _ (hk _ _ _) hx.2.2.2.2⟩
      | exact ⟨hx.1, hx.2.1, hx.2.2.1, hx.2.2.2.1, hQ _ _ trivial hx.2.2.2.2⟩
      | exact ⟨hx.1, hx.2.1, hx.2.2.1, hx.2.2.2.1, fun z => ih _ _ _ _ (hx.2.2.2.2 z)⟩
      | exact ⟨hx.1, hx.2.1, hx.2.2.1, hx.2.2.2.1, fun q hq => ih _ _ _ _ (hx.2.2.2.2 q hq)⟩
      | exact ⟨hx.1, hx.2.1, hx.2.2.1, hx.2.2.2.1, fun q r a b c => ih _ _ _ _ (hx.2.2.2.2 q r a b c)⟩
      | exact ⟨hx.1, hx.2.1, hx.2.2.1, hx.2.2.2.1, hx.2.2.2.2.1, ih _ _ _ _ hx.2.2.2.2.2⟩
      | exact ⟨hx.1, hx.2.1, hx.2.2.1, hx.2.2.2.1, hx.2.2.2.2.1, hc _ _ _ _ _ (hk _ _ _) hx.2.2.2.2.2⟩
      | exact ⟨hx.1, hx.2.1, hx.2.2.1, hx.2.2.2.1, hx.2.2.2.2.1, hQ _ _ trivial hx.2.2.2.2.2⟩
      | exact ⟨hx.1, hx.2.1, hx.2.2.1, hx.2.2.2.1, hx.2.2.2.2.1, fun z => ih _ _ _ _ (hx.2.2.2.2.2 z)⟩
      | exact ⟨hx.1, hx.2.1, hx.2.2.1, hx.2.2.2.1, hx.2.2.2.2.1, fun q hq => ih _ _ _ _ (hx.2.2.2.2.2 q hq)⟩
      | exact ⟨hx.1, hx.2.1, hx.2.2.1, hx.2.2.2.1, hx.2.2.2.2.1, fun q r a b c => ih _ _ _ _ (hx.2.2.2.2.2 q r a b c)⟩
      | exact ⟨hx.1, hx.2.1, hx.2.2.1, hx.2.2.2.1, hx.2.2.2.2.1, hx.2.2.2.2.2.1, ih _ _ _ _ hx.2.2.2.2.2.2⟩
      | exact ⟨hx.1, hx.2.1, hx.2.2.1, hx.2.2.2.1, hx.2.2.2.2.1, hx.2.2.2.2.2.1, hc _ _ _ _ _ (hk _ _ _) hx.2.2.2.2.2.2⟩
      | exact ⟨hx.1, hx.2.1, hx.2.2.1, hx.2.2.2.1, hx.2.2.2.2.1, hx.2.2.2.2.2.1, hQ _ _ trivial hx.2.2.2.2.2.2⟩
      | exact ⟨hx.1, hx.2.1, hx.2.2.1, hx.2.2.2.1, hx.2.2.2.2.1, hx.2.2.2.2.2.1, fun z => ih _ _ _ _ (hx.2.2.2.2.2.2 z)⟩
      | exact ⟨hx.1, hx.2.1, hx.2.2.1, hx.2.2.2.1, hx.2.2.2.2.1, hx.2.2.2.2.2.1, fun q hq => ih _ _ _ _ (hx.2.2.2.2.2.2 q hq)⟩
      | exact ⟨hx.1, hx.2.1, hx.2.2.1, hx.2.2.2.1, hx.2.2.2.2.1, hx.2.2.2.2.2.1, fun q r a b c => ih _ _ _ _ (hx.2.2.2.2.2.2 q r a b c)⟩
      | exact ⟨hx.1, hx.2.1, hx.2.2.1, hx.2.2.2.1, hx.2.2.2.2.1, hx.2.2.2.2.2.1, hx.2.2.2.2.2.2.1, ih _ _ _ _ hx.2.2.2.2.2.2.2⟩
      | exact ⟨hx.1, hx.2.1, hx.2.2.1, hx.2.2.2.1, hx.2.2.2.2.1, hx.2.2.2.2.2.1, hx.2.2.2.2.2.2.1, hc _ _ _ _ _ (hk _ _ _) hx.2.2.2.2.2.2.2⟩
      | exact ⟨hx.1, hx.2.1, hx.2.2.1, hx.2.2.2.1, hx.2.2.2.2.1, hx.2.2.2.2.2.1, hx.2.2.2.2.2.2.1, hQ _ _ trivial hx.2.2.2.2.2.2.2⟩
      | exact ⟨hx.1, hx.2.1, hx.2.2.1, hx.2.2.2.1, hx.2.2.2.2.1, hx.2.2.2.2.2.1, hx.2.2.2.2.2.2.1, fun z => ih _ _ _ _ (hx.2.2.2.2.2.2.2 z)⟩
      | exact ⟨hx.1, hx.2.1, hx.2.2.1, hx.2.2.2.1, hx.2.2.2.2.1, hx.2.2.2.2.2.1, hx.2.2.2.2.2.2.1, fun q hq => ih _ _ _ _ (hx.2.2.2.2.2.2.2 q hq)⟩
      | exact ⟨hx.1, hx.2.1, hx.2.2.1, hx.2.2.2.1, hx.2.2.2.2.1, hx.2.2.2.2.2.1, hx.2.2.2.2.2.2.1, fun q r a b c => ih _ _ _ _ (hx.2.2.2.2.2.2.2 q r a b c)⟩
      | exact ⟨hx.1, hQ _ _ hx.1 hx.2⟩
      | split at hx)
    all_goals first
      | exact hx
      | exact (match hx with | ⟨t, a, b, c, g⟩ => ⟨t, a, b, c, ih _ _ _ _ g⟩)
      | exact (match hx with | ⟨t, a, b, c, e, g⟩ => ⟨t, a, b, c, e, ih _ _ _ _ g⟩)
theorem WP.mono {ga : Nat → Nat} {L : Nat} {xs : Nat → Int32} : ∀ (d k : Nat) (as : List Value) (h : ac_H) (A B : ac_P), (∀ o h, A o h → B o h) → WP ga L xs d k as h A → WP ga L xs d k as h B
  | 0, _, _, _, _, _, _, hw => hw
  | d + 1, k, as, h, A, B, hAB, hw => by
    obtain ⟨md, hm, hl, hJ⟩ := hw
    exact ⟨md, hm, hl, fun J hB => hJ J (fun b pb is hb ls st h bg hx => hB b pb is hb ls st h bg (xB_sh (fun k as h A B => WP.mono d k as h A B) (fun o h _ => hAB o h) is ls st h bg hx))⟩
theorem WP.shape {ga : Nat → Nat} {L : Nat} {xs : Nat → Int32} {d k : Nat} {as : List Value} {h : ac_H} {P : ac_P} {md : ac_M} (hm : methods[k]? = some md) (hw : WP ga L xs (d + 1) k as h (fun o h => oS (mR md) o → P o h)) : WP ga L xs (d + 1) k as h P := by
  obtain ⟨md', hm', hl, hJ⟩ := hw
  cases Option.some.inj (hm.symm.trans hm')
  exact ⟨md, hm, hl, fun J hB => hJ J (fun b pb is hb ls st h bg hx => hB b pb is hb ls st h bg (xB_sh (fun k as h A B => WP.mono d k as h A B) (fun o h hs hq => hq hs) is ls st h bg hx))⟩
