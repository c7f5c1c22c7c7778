def declX : List MethodName := [⟨"java/lang/RuntimeException", "<init>", "()V"⟩, ⟨"java/lang/RuntimeException", "<init>", "(Ljava/lang/String;)V"⟩, ⟨"java/lang/Exception", "<init>", "()V"⟩, ⟨"java/lang/Exception", "<init>", "(Ljava/lang/String;)V"⟩, ⟨"java/lang/Throwable", "<init>", "()V"⟩, ⟨"java/lang/Throwable", "<init>", "(Ljava/lang/String;)V"⟩]
/-! ===== what holds of every state ===== -/
theorem va_AOA.moved {ty : FieldType} {u U : State} (hvm : u.vm.Alike U.vm) (h : va_AOA ty u) : va_AOA ty U := by
  have h1 := Cond.arrayOver_setVmC (args := #[]) (s := u) hvm (.array ty)
  unfold va_AOA at h ⊢
  rw [h] at h1
  have h2 : (Cond.arrayOver (.array ty)).before #[] U = (Cond.arrayOver (.array ty)).before #[] (u.setVm U.vm) := by
    simp only [Cond.before, Cond.holds, Cond.value, State.vm_setVm]
    rfl
  rw [h2, h1]
def nmS (k : Nat) : String := ["LEAST_N", "MOST_N"].getD k ""
def GBt (D : va_G) (cA : Nat → ClassId) (A : Nat → Prop) (ga adV : Nat → Nat) (L : Nat) (xs : Nat → Int32) (U : State) : Prop :=
  va_K D vwCl (tysK cA) U ∧ (va_X (ga 0) L xs U U.heap ∧ ga 0 < U.heap.size ∧ ¬ A (ga 0)) ∧ (va_T .int (ga 1) 11 (fun j => .int (leastN.getD j 0)) A U U.heap ∧ va_T .int (ga 2) 11 (fun j => .int (mostN.getD j 0)) A U U.heap) ∧ (∀ k, k < 2 → va_Z RX6 (["LEAST_N", "MOST_N"].getD k "") "[I" (.ref (ga (1 + k))) A U U.heap) ∧
  (∀ q ∈ statN, q.2.1 < 2 ∧ va_Nw (.fieldLinkNest (oR q.1) q.2.2 RX6 (["LEAST_N", "MOST_N"].getD q.2.1 "") "[I" RX6) U) ∧ (∀ q ∈ strTab, vk_R (oR q.1) q.2.1 (stx.getD q.2.2 "") (ga (3 + q.2.2)) U) ∧ SB A ga adV U ∧ (va_AO RX3 U ∧ va_AO RX0 U ∧ va_AOA .int U) ∧ (∀ q, U.heap.size ≤ q → A q) ∧
  (∀ q ∈ mthTab, ∀ md, methods[q.2.2.1]? = some md → (q.2.1 = 4 ∨ q.2.1 = 5) → va_Nw (.methodLinkNest (oR q.1) q.2.2.2.1 (mY md) RX6) U) ∧
  (vx_Zq Bundle.tN "UNASSIGNED_STACK" Bundle.steD A U U.heap ∧ vx_Zq Bundle.tN "SUPPRESSED_SENTINEL" Bundle.listD A U U.heap) ∧ (∀ k, k < 4 → va_Nw (.castable (exN k) (exN k)) U) ∧ (∀ x ∈ declX, va_Nw (.declares x) U) ∧ (∀ j k, j < 4 → k < 4 → j ≠ k → va_Nc (exN j) (exN k) U)
theorem GBt.moved {D : va_G} {cA : Nat → ClassId} {A : Nat → Prop} {ga adV : Nat → Nat} {L : Nat} {xs : Nat → Int32} {s U : State} (h : GBt D cA A ga adV L xs s) (hW : s.WarmedH U.vm) (hz : s.heap.size ≤ U.heap.size) (hq : ∀ a : Nat, a < s.heap.size → ¬ A a → U.heap[a]? = s.heap[a]?) : GBt D cA A ga adV L xs U := by
  obtain ⟨h1, ⟨h2, h3, h4⟩, ⟨h5, h6⟩, h7, h8, h9, h10, ⟨h11, h12, h13⟩, h14, h15, ⟨h16, h17⟩, h18, h19, h20⟩ := h
  have ha := hW.alike
  refine ⟨va_K.moved ha h1, ⟨?_, Nat.lt_of_lt_of_le h3 hz, h4⟩, ⟨va_T.kept (va_T.moved ha h5) hq, va_T.kept (va_T.moved ha h6) hq⟩, fun k hk => va_Z.kept (va_Z.moved ha (h7 k hk)) hq, fun q hh => ⟨(h8 q hh).1, va_Nw.warmF hW (h8 q hh).2⟩, fun q hh => vk_R.warm hW (h9 q hh), h10.moved ha hq, ⟨va_AO.moved ha h11, va_AO.moved ha h12, va_AOA.moved ha h13⟩, fun q hh => h14 q (Nat.le_trans hz hh), fun q hh md hm hk => va_Nw.warmM hW (h15 q hh md hm hk), ⟨vx_Zq.kept (vx_Zq.moved ha h16) hq, vx_Zq.kept (vx_Zq.moved ha h17) hq⟩, fun k hk => va_Nw.warmC hW (h18 k hk), fun x hx => va_Nw.warmD hW (h19 x hx), fun j k hj hk hn => va_Nc.moved ha (h20 j k hj hk hn)⟩
  obtain ⟨scr, g1, g2, g3, g4, g5⟩ := va_X.moved ha h2
  exact ⟨scr, by rw [hq _ h3 h4]; exact g1, g2, g3, g4, g5⟩
