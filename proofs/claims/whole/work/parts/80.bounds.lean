/-! ===== how many ways there are to be refused; the state stays well ===== -/
theorem laidT_le {a0 a1} : laidT a0 a1 ≤ 2 := by
  unfold laidT
  (repeat' split) <;> omega
theorem clT_le {a0} {a1} : clT a0 a1 ≤ 1 := by
  unfold clT
  (repeat' split) <;> first | omega | exact Nat.le_trans laidT_le (by omega)
theorem membT_le {a0} {a1} {a2} : membT a0 a1 a2 ≤ 2 := by
  unfold membT
  (repeat' split) <;> first | omega | exact Nat.le_trans laidT_le (by omega)
theorem quotT_le {a0} : quotT a0 ≤ 1 := by
  unfold quotT
  (repeat' split) <;> first | omega | exact Nat.le_trans laidT_le (by omega)
theorem roomT_le {a0} : roomT a0 ≤ 1 := by
  unfold roomT
  (repeat' split) <;> first | omega | exact Nat.le_trans laidT_le (by omega)
theorem toldT_le {a0} {a1} : toldT a0 a1 ≤ 2 := by
  unfold toldT
  (repeat' split) <;> first | omega | exact Nat.le_trans laidT_le (by omega)
theorem backT_le {a0} {a1} : backT a0 a1 ≤ 1 := by
  unfold backT
  (repeat' split) <;> first | omega | exact Nat.le_trans laidT_le (by omega)
theorem cameT_le {a0} {a1} : cameT a0 a1 ≤ 1 := by
  unfold cameT
  (repeat' split) <;> first | omega | exact Nat.le_trans laidT_le (by omega)
theorem memT1_le {a0} {a1} : memT1 a0 a1 ≤ 1 := by
  unfold memT1
  (repeat' split) <;> first | omega | exact Nat.le_trans laidT_le (by omega)
theorem thoughtT_le {a0} {a1} {a2} : thoughtT a0 a1 a2 ≤ 2 := by
  unfold thoughtT
  (repeat' split) <;> first | omega | exact Nat.le_trans laidT_le (by omega)
theorem judgeT_le {a0} {a1} {a2} : judgeT a0 a1 a2 ≤ 3 := by
  unfold judgeT
  (repeat' split) <;> first | omega | exact Nat.le_trans laidT_le (by omega)
theorem gainT_le {a0} {a1} {a2} : gainT a0 a1 a2 ≤ 2 := by
  unfold gainT
  (repeat' split) <;> first | omega | exact Nat.le_trans laidT_le (by omega)
theorem setT_le {a0} {a1} : setT a0 a1 ≤ 1 := by
  unfold setT
  (repeat' split) <;> first | omega | exact Nat.le_trans laidT_le (by omega)
theorem tuT_le {a0} {a1} {a2} {a3} : tuT a0 a1 a2 a3 ≤ 3 := by
  unfold tuT
  (repeat' split) <;> first | omega | exact Nat.le_trans laidT_le (by omega)
theorem twoT_le {a0} {a1} {a2} : twoT a0 a1 a2 ≤ 2 := by
  unfold twoT
  (repeat' split) <;> first | omega | exact Nat.le_trans laidT_le (by omega)
theorem replT_le {a0} {a1} {a2} : replT a0 a1 a2 ≤ 1 := by
  unfold replT
  (repeat' split) <;> first | omega | exact Nat.le_trans laidT_le (by omega)
theorem whatT_le {a0} : whatT a0 ≤ 1 := by
  unfold whatT
  (repeat' split) <;> first | omega | exact Nat.le_trans laidT_le (by omega)
theorem oddsT_le {a0} {a1} : oddsT a0 a1 ≤ 1 := by
  unfold oddsT
  (repeat' split) <;> first | omega | exact Nat.le_trans laidT_le (by omega)
theorem bT_le {a0} : bT a0 ≤ 1 := by
  unfold bT
  (repeat' split) <;> first | omega | exact Nat.le_trans laidT_le (by omega)
theorem chanT_le {a0} {a1} {a2} {a3} : chanT a0 a1 a2 a3 ≤ 3 := by
  unfold chanT
  (repeat' split) <;> first | omega | exact Nat.le_trans laidT_le (by omega)
theorem hopeT_le {a0} {a1} {a2} {a3} {a4} : hopeT a0 a1 a2 a3 a4 ≤ 2 := by
  unfold hopeT
  (repeat' split) <;> first | omega | exact Nat.le_trans laidT_le (by omega)
theorem aheadT_le {a0} {a1} : aheadT a0 a1 ≤ 1 := by
  unfold aheadT
  (repeat' split) <;> first | omega | exact Nat.le_trans laidT_le (by omega)
theorem worthT_le {a0} {a1} {a2} : worthT a0 a1 a2 ≤ 2 := by
  unfold worthT
  (repeat' split) <;> first | omega | exact Nat.le_trans laidT_le (by omega)
theorem weeksT_le {a0} : weeksT a0 ≤ 1 := by
  unfold weeksT
  (repeat' split) <;> first | omega | exact Nat.le_trans laidT_le (by omega)
theorem bestRuleT_le {a0} {a1} {a2} {a3} : bestRuleT a0 a1 a2 a3 ≤ 2 := by
  unfold bestRuleT
  (repeat' split) <;> first | omega | exact Nat.le_trans laidT_le (by omega)
theorem togT_le {a0} {a1} {a2} : togT a0 a1 a2 ≤ 1 := by
  unfold togT
  (repeat' split) <;> first | omega | exact Nat.le_trans laidT_le (by omega)
theorem doubtT_le {a0} {a1} {a2} : doubtT a0 a1 a2 ≤ 1 := by
  unfold doubtT
  (repeat' split) <;> first | omega | exact Nat.le_trans laidT_le (by omega)
theorem cookT_le {a0} : cookT a0 ≤ 1 := by
  unfold cookT
  (repeat' split) <;> first | omega | exact Nat.le_trans laidT_le (by omega)
theorem trayT_le {a0} {a1} {a2} : trayT a0 a1 a2 ≤ 2 := by
  unfold trayT
  (repeat' split) <;> first | omega | exact Nat.le_trans laidT_le (by omega)
theorem writT_le {a0} {a1} {a2} : writT a0 a1 a2 ≤ 3 := by
  unfold writT
  (repeat' split) <;> first | omega | exact Nat.le_trans laidT_le (by omega)
theorem imgT_le {a0} : imgT a0 ≤ 1 := by
  unfold imgT
  (repeat' split) <;> first | omega | exact Nat.le_trans laidT_le (by omega)
theorem resT_le {a0} {a1} : resT a0 a1 ≤ 2 := by
  unfold resT
  (repeat' split) <;> first | omega | exact Nat.le_trans laidT_le (by omega)
