/-! A NEW SCENE -/
theorem lpd_free {P : Nat → Int32} : ∀ {j k : Nat}, lpd P j ≤ k → k < j → P k = -1 := by
  intro j
  induction j with
  | zero => intro k _ h; omega
  | succ j ih =>
    intro k h1 h2
    unfold lpd at h1
    by_cases c : P j = -1
    · rw [if_pos c] at h1
      rcases Nat.lt_or_ge k j with q | q
      · exact ih h1 q
      · rw [show k = j by omega]; exact c
    · rw [if_neg c] at h1; omega
theorem lpd_on {P : Nat → Int32} : ∀ {j : Nat}, ¬ lpd P j = 0 → ¬ P (lpd P j - 1) = -1 := by
  intro j
  induction j with
  | zero => intro h; exact absurd rfl h
  | succ j ih =>
    intro h
    by_cases c : P j = -1
    · have e : lpd P (j + 1) = lpd P j := by
        conv => lhs; unfold lpd
        rw [if_pos c]
      rw [e] at h ⊢
      exact ih h
    · have e : lpd P (j + 1) = j + 1 := by
        conv => lhs; unfold lpd
        rw [if_neg c]
      rw [e, show j + 1 - 1 = j by omega]
      exact c
def scArg (a1 a2 : Int32) : Prop := ¬ a1 < 0 ∧ ¬ 3 < a1 ∧ ¬ a2 < 0 ∧ ¬ 9 < a2
/-- scene n stands on day D now -/
theorem planI_new {n t D : Nat} {μ E u F : Mem} (hn : n < 10) (htD : t ≤ D) (hD : D < 30) (hfree : E 8 0 D = -1) (h : planI n t μ E) (h32 : ∀ k, u 32 0 k = if k = D then nI n else μ 32 0 k) (h8 : ∀ k, F 8 0 k = if k = D then nI n else E 8 0 k) (h3 : ∀ k, F 3 0 k = if k = n then 0 else E 3 0 k) (h4 : ∀ a, a < n + 1 → F 4 0 a = if a = n then nI D else E 4 0 a) : planI (n + 1) t u F := by
  obtain ⟨p1, p2, p3, p4, p5⟩ := h
  refine ⟨fun k hk => ?_, fun k hk => ?_, fun k hk => ?_, fun k b hk hb e => ?_, fun b hb e => ?_⟩
  · rw [h32, h8, p1 k hk]
  · rw [h8]
    by_cases c : k = D
    · rw [if_pos c]; exact Or.inr ⟨n, by omega, rfl⟩
    · rw [if_neg c]
      rcases p2 k hk with e | ⟨a, ha, e⟩
      · exact Or.inl e
      · exact Or.inr ⟨a, by omega, e⟩
  · rw [h8, if_neg (by omega)]
    exact p3 k hk
  · rw [h8] at e
    by_cases c : k = D
    · rw [if_pos c] at e
      have eb : n = b := (nI_eq (by omega) (by omega)).mp e
      subst eb
      rw [h3, h4 n hb, if_pos rfl, if_pos rfl, c]
      exact ⟨rfl, rfl⟩
    · rw [if_neg c] at e
      have hb2 : b < n := by
        rcases p2 k hk with e2 | ⟨a, ha, e2⟩
        · rw [e2] at e
          exact absurd e.symm (nI_neg1 (by omega))
        · rw [e2] at e
          have := (nI_eq (by omega) (by omega)).mp e
          omega
      rw [h3, h4 b hb, if_neg (by omega), if_neg (by omega)]
      exact p4 k b hk hb2 e
  · by_cases c : b = n
    · exact ⟨D, htD, hD, by rw [h8, if_pos rfl, c]⟩
    · rw [h3, if_neg c] at e
      obtain ⟨k, k1, k2, k3⟩ := p5 b (by omega) e
      refine ⟨k, k1, k2, ?_⟩
      rw [h8, if_neg (fun q => ?_)]
      · exact k3
      · rw [q, hfree] at k3
        exact nI_neg1 (by omega) k3.symm
