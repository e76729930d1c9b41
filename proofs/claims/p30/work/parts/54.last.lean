/-! THE DAY BEHIND THE PLAN -/
/-- the last planned day among the first j, plus one; 0 if there is none -/
def lpd (P : Nat → Int32) : Nat → Nat
  | 0 => 0
  | j + 1 => if P j = -1 then lpd P j else j + 1
theorem lpd_le (P : Nat → Int32) : ∀ j : Nat, lpd P j ≤ j := by
  intro j
  induction j with
  | zero => exact Nat.le_refl 0
  | succ j ih =>
    unfold lpd
    by_cases h : P j = -1
    · rw [if_pos h]; omega
    · rw [if_neg h]; omega
theorem lpd_0 {P : Nat → Int32} : ∀ j : Nat, (∀ k, k < j → P k = -1) → lpd P j = 0 := by
  intro j
  induction j with
  | zero => intro _; rfl
  | succ j ih =>
    intro h
    unfold lpd
    rw [if_pos (h j (by omega))]
    exact ih (fun k hk => h k (by omega))
def lpv (P : Nat → Int32) (j : Nat) : Int32 := if lpd P j = 0 then -1 else nI (lpd P j - 1)
theorem lpv_s (P : Nat → Int32) (j : Nat) : lpv P (j + 1) = if P j = -1 then lpv P j else nI j := by
  unfold lpv
  by_cases h : P j = -1
  · have : lpd P (j + 1) = lpd P j := by
      conv => lhs; unfold lpd
      rw [if_pos h]
    rw [this, if_pos h]
  · have : lpd P (j + 1) = j + 1 := by
      conv => lhs; unfold lpd
      rw [if_neg h]
    rw [this, if_neg h, if_neg (by omega)]
    rfl
theorem X4_dayBehindPlan {n np t : Nat} {post : Int32 → Mem → Prop} {μ E : Mem} (hn : n ≤ 10) (ht : t ≤ 30) (m9 : μ 30 0 9 = nI t) (hpl : planI n t μ E) (h : post (nI (max t (lpd (E 8 0) 30))) μ) : w_X4_dayBehindPlan n np post μ := by
  have loop : ∀ m j : Nat, j + m = 30 → t ≤ j → l_X4_dayBehindPlan_10 n np post (m + 1) (nI (max t (lpd (E 8 0) j))) (nI j) μ := by
    intro m
    induction m with
    | zero =>
      intro j hj _
      have e : j = 30 := by omega
      subst e
      show lb_X4_dayBehindPlan_10 n np post _ _ _ _
      unfold lb_X4_dayBehindPlan_10
      exact ⟨fun _ => h, fun c => absurd (by decide) c⟩
    | succ m ih =>
      intro j hj htj
      show lb_X4_dayBehindPlan_10 n np post (l_X4_dayBehindPlan_10 n np post (m + 1)) _ _ _
      unfold lb_X4_dayBehindPlan_10 b_X4_dayBehindPlan_29
      rw [nI_s1, cl (by omega), hpl.1 j (by omega)]
      have ihj := ih (j + 1) (by omega) (by omega)
      refine ⟨fun c => absurd ((le30 (k := j) (by omega)).mp c) (by omega), fun _ => ⟨vin (by omega) (by omega), fun c => ?_, fun c => ?_⟩⟩
      · rcases hpl.2.1 j (by omega) with e | ⟨a, ha, e⟩
        · have : lpd (E 8 0) (j + 1) = lpd (E 8 0) j := by
            conv => lhs; unfold lpd
            rw [if_pos e]
          rw [this] at ihj
          exact ihj
        · rw [e] at c
          exact absurd c (pos (by omega))
      · have hne : ¬ E 8 0 j = -1 := fun q => c (by rw [q]; exact neg1)
        have : lpd (E 8 0) (j + 1) = j + 1 := by
          conv => lhs; unfold lpd
          rw [if_neg hne]
        rw [this, show max t (j + 1) = j + 1 by omega] at ihj
        exact ihj
  have h0 : lpd (E 8 0) t = 0 := lpd_0 t hpl.2.2.1
  unfold w_X4_dayBehindPlan
  rw [m9]
  have := loop (30 - t) t (by omega) (Nat.le_refl t)
  rw [h0, show max t 0 = t by omega] at this
  exact ⟨_, this⟩

