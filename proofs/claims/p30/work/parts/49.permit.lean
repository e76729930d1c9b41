/-! A NEW PERMIT -/
theorem le_lt {x : Int32} {m : Nat} {M N : Int32} (hM : M = nI (m + 1)) (hN : N = nI m) (hm : m < 1000) : M ≤ x ↔ N < x := by
  subst hM
  subst hN
  rw [Int32.le_iff_toInt_le, Int32.lt_iff_toInt_lt, nI_toInt (by omega), nI_toInt (by omega)]
  omega
theorem lt_nlt {x : Int32} {m : Nat} {M N : Int32} (hM : M = nI (m + 1)) (hN : N = nI m) (hm : m < 1000) : x < M ↔ ¬ N < x := by
  subst hM
  subst hN
  rw [Int32.lt_iff_toInt_lt, Int32.lt_iff_toInt_lt, nI_toInt (by omega), nI_toInt (by omega)]
  omega
def pmArg (a1 a2 a3 a4 : Int32) : Prop := ¬ a1 < 0 ∧ ¬ 3 < a1 ∧ ¬ a2 < 0 ∧ ¬ 29 < a2 ∧ ¬ a3 < a2 ∧ ¬ 29 < a3 ∧ ¬ a4 < 1 ∧ ¬ 9 < a4
