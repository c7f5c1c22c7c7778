/-! ===== Integer.bitCount of a set ===== -/
def bcf (i : Int32) : Int32 :=
  let i1 := i - ((i.toUInt32 >>> ((kI 1).toUInt32 &&& Int32.toUInt32 31)).toInt32 &&& kI 1431655765)
  let i2 := (i1 &&& kI 858993459) + ((i1.toUInt32 >>> ((kI 2).toUInt32 &&& Int32.toUInt32 31)).toInt32 &&& kI 858993459)
  let i3 := (i2 + (i2.toUInt32 >>> ((kI 4).toUInt32 &&& Int32.toUInt32 31)).toInt32) &&& kI 252645135
  let i4 := i3 + (i3.toUInt32 >>> ((kI 8).toUInt32 &&& Int32.toUInt32 31)).toInt32
  let i5 := i4 + (i4.toUInt32 >>> ((kI 16).toUInt32 &&& Int32.toUInt32 31)).toInt32
  i5 &&& kI 63
set_option maxRecDepth 100000 in
theorem bcf_all : ∀ a : Nat, a < 4096 → bcf (kI (a : Int)) = kI (pc (kI (a : Int)) : Int) := by decide +kernel
theorem bcf_sok {n : Nat} {s : Int32} (h : sok n s) : bcf s = kI (pc s : Int) := by
  obtain ⟨a, h1, rfl⟩ := sok12 h
  exact bcf_all a h1
